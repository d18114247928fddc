def J_X0_init_L39b   (rc : Nat → Int32 → Hp → jR) (a0 : Nat) (v1 : Int32) (t0 : Hp) : jR := (if 6 ≤ v1 then some (.inl none, t0) else jgR t0 a0 0 0 (fun r12 => jdr r12 (fun b13 => jcv t0 b13 2 (J_X2_add b13 0 t0) (fun w15 t14 => jvV w15 (jgR t14 a0 0 1 (fun r16 => jdr r16 (fun b17 => jcv t14 b17 2 (J_X2_add b17 0 t14) (fun w19 t18 => jvV w19 (rc a0 (v1 + 1) t18)) (fun E t => some (.inr E, t)))))) (fun E t => some (.inr E, t)))))
def J_X0_init_L39   : Nat → Nat → Int32 → Hp → jR
  | 0 => fun _ _ _ => none
  | n + 1 => J_X0_init_L39b   (J_X0_init_L39   n)
def J_X0_init  (a0 : Nat) (σ : Hp) : jR := jnw σ 2 (fun b1 t2 => jcv t2 b1 2 (J_X2_init 6 b1 6 t2) (fun w4 t3 => jvV w4 (jpR t3 a0 0 0 (some b1) (fun t5 => jnw t5 2 (fun b6 t7 => jcv t7 b6 2 (J_X2_init 6 b6 6 t7) (fun w9 t8 => jvV w9 (jpR t8 a0 0 1 (some b6) (fun t10 => jpI t10 a0 0 2 5000 (fun t11 => J_X0_init_L39   jN a0 0 t11)))) (fun E t => some (.inr E, t)))))) (fun E t => some (.inr E, t)))
set_option maxHeartbeats 4000000 in
set_option maxRecDepth 100000 in
theorem w_X0_init_L39 (l : Launch) (hst : l.stackTraces = false) {p : Program} {e : Env} {s : State} {m : MethodId} {args : Array Value} {below : List Frame} {meth : Method} {c : Code} {g : jG} {o : jO} {τ : Hp}  (C : jC p l s m args meth c g RX0 cX0_init 2 none) (hE : ∀ x ∈ c.exceptionTable.toList, False)  : ∀ (n : Nat) (a0 : Nat) (v1 : Int32) (t0 : Hp), J_X0_init_L39   n a0 v1 t0 = some (o, τ) → jW p l e ({ frames := 2, cells := 4, slots := 16, locals := 47 } : Room) s m args below meth c g (jQ below g o τ args s 4 16) 4 16 39 [(0, .ref a0), (1, .int v1)] [] t0 := by
  intro n
  induction n with
  | zero => intro a0 v1 t0 h; cases h
  | succ n ih =>
    intro a0 v1 t0 h
    skip
    have h : J_X0_init_L39b   (J_X0_init_L39   n) a0 v1 t0 = some (o, τ) := h
    unfold J_X0_init_L39b at h
    refine r_iload_n C 40 rfl 1 dX0_init_39 rfl ?_
    refine r_bipush C (v := 6) 42 rfl dX0_init_40 (by decide) ?_
    refine r_icmp_ge C 67 45 rfl dX0_init_42 (by decide) h (fun h => ?_) (fun h => ?_)
    · exact r_vret C dX0_init_67 (Nat.le_refl _) (Nat.le_refl _) h
    · refine r_aload_n C (x := some a0) 46 rfl 0 dX0_init_45 rfl ?_
      refine r_getR C 49 rfl ff_X0_14 dX0_init_46 h (fun r12 h => ?_)
      refine r_iconst C (v := 0) 50 rfl dX0_init_49 (by decide) ?_
      replace h := jdr_some h
      obtain ⟨b13, hr, h⟩ := h
      rw [hr]
      refine r_callV C (ci := 2) mm_X0_27 im_yX2_add se_yX2_add rfl 53 4 16 rfl rfl rfl dX0_init_50 rfl rfl (As := [.int 0]) rfl rfl (Nat.le_of_ble_eq_true rfl) ⟨Nat.le_of_ble_eq_true rfl, Nat.le_of_ble_eq_true rfl⟩ ⟨(Nat.le_of_ble_eq_true rfl), (Nat.le_of_ble_eq_true rfl)⟩ (fun o t h => k_X2_add l hst g _ _ _ o t h) h (fun w15 t14 h => ?_) (fun E t h => r_out C (fun x hx => (hE x hx).elim) (Nat.le_refl _) (Nat.le_refl _) h)
      replace h := jvV_some h
      obtain ⟨rfl, h⟩ := h
      refine r_aload_n C (x := some a0) 54 rfl 0 dX0_init_53 rfl ?_
      refine r_getR C 57 rfl ff_X0_20 dX0_init_54 h (fun r16 h => ?_)
      refine r_iconst C (v := 0) 58 rfl dX0_init_57 (by decide) ?_
      replace h := jdr_some h
      obtain ⟨b17, hr, h⟩ := h
      rw [hr]
      refine r_callV C (ci := 2) mm_X0_27 im_yX2_add se_yX2_add rfl 61 4 16 rfl rfl rfl dX0_init_58 rfl rfl (As := [.int 0]) rfl rfl (Nat.le_of_ble_eq_true rfl) ⟨Nat.le_of_ble_eq_true rfl, Nat.le_of_ble_eq_true rfl⟩ ⟨(Nat.le_of_ble_eq_true rfl), (Nat.le_of_ble_eq_true rfl)⟩ (fun o t h => k_X2_add l hst g _ _ _ o t h) h (fun w19 t18 h => ?_) (fun E t h => r_out C (fun x hx => (hE x hx).elim) (Nat.le_refl _) (Nat.le_refl _) h)
      replace h := jvV_some h
      obtain ⟨rfl, h⟩ := h
      refine r_iinc C (v := v1 + 1) 64 rfl 1 [(1, .int (v1 + 1)), (0, .ref a0)] dX0_init_61 rfl rfl (by decide) rfl ?_
      refine r_goto C 39 dX0_init_64 (by decide) ?_
      refine r_lv [1, 0] rfl ?_
      exact ih a0 (v1 + 1) t18 h
set_option maxHeartbeats 4000000 in
set_option maxRecDepth 100000 in
theorem k_X0_init (l : Launch) (hst : l.stackTraces = false) (g : jG)   (a0 : Nat) (σ : Hp) (o : jO) (τ : Hp) (h : J_X0_init a0 σ = some (o, τ)) : jMet l g yX0_init (Cond.code yX0_init cX0_init 2 none :: gT) ({ frames := 2, cells := 4, slots := 16, locals := 47 } : Room) 4 16 [.ref a0] σ o τ := by
  refine j_start l hst (own := RX0) (by decide) rfl (Nat.le_of_ble_eq_true rfl) ?_
  intro p e s m args below meth c C hE hin
  unfold J_X0_init at h
  show jW p l e ({ frames := 2, cells := 4, slots := 16, locals := 47 } : Room) s m args below meth c g (jQ below g o τ args s 4 16) 0 0 0 [(0, .ref a0)] [] σ
  refine r_aload_n C (x := some a0) 1 rfl 0 dX0_init_0 rfl ?_
  refine r_objInit C 4 rfl ml_X0_3 im_oi cd_oi dX0_init_1 (Nat.le_of_ble_eq_true rfl) (Nat.le_of_ble_eq_true rfl) ?_
  refine r_aload_n C (x := some a0) 5 rfl 0 dX0_init_4 rfl ?_
  refine r_new C 8 rfl tyX2 (ci := 2) rfl tyX2_ok nw_X2 lay_X2 cl_X0_9 ins_X2 ini_X2 dX0_init_5 (Nat.le_of_ble_eq_true rfl) (Nat.le_of_ble_eq_true rfl) h (fun b1 t2 h => ?_)
  refine r_dup C 9 rfl dX0_init_8 rfl ?_
  refine r_bipush C (v := 6) 11 rfl dX0_init_9 (by decide) ?_
  refine r_callI C (ci := 2) mm_X0_11 im_yX2_init rfl 14 2 8 rfl rfl rfl dX0_init_11 rfl rfl (As := [.int 6]) rfl rfl (Nat.le_of_ble_eq_true rfl) ⟨Nat.le_of_ble_eq_true rfl, Nat.le_of_ble_eq_true rfl⟩ ⟨(Nat.le_of_ble_eq_true rfl), (Nat.le_of_ble_eq_true rfl)⟩ (fun o t h => k_X2_init l hst g 6 (by decide) _ _ _ o t h) h (fun w4 t3 h => ?_) (fun E t h => r_out C (fun x hx => (hE x hx).elim) (Nat.le_of_ble_eq_true rfl) (Nat.le_of_ble_eq_true rfl) h)
  replace h := jvV_some h
  obtain ⟨rfl, h⟩ := h
  refine r_putRF C hin (v := (some b1)) 17 rfl fp_X0_14 dX0_init_14 h (fun t5 h => ?_)
  refine r_aload_n C (x := some a0) 18 rfl 0 dX0_init_17 rfl ?_
  refine r_new C 21 rfl tyX2 (ci := 2) rfl tyX2_ok nw_X2 lay_X2 cl_X0_9 ins_X2 ini_X2 dX0_init_18 (Nat.le_of_ble_eq_true rfl) (Nat.le_of_ble_eq_true rfl) h (fun b6 t7 h => ?_)
  refine r_dup C 22 rfl dX0_init_21 rfl ?_
  refine r_bipush C (v := 6) 24 rfl dX0_init_22 (by decide) ?_
  refine r_callI C (ci := 2) mm_X0_11 im_yX2_init rfl 27 4 16 rfl rfl rfl dX0_init_24 rfl rfl (As := [.int 6]) rfl rfl (Nat.le_of_ble_eq_true rfl) ⟨Nat.le_of_ble_eq_true rfl, Nat.le_of_ble_eq_true rfl⟩ ⟨(Nat.le_of_ble_eq_true rfl), (Nat.le_of_ble_eq_true rfl)⟩ (fun o t h => k_X2_init l hst g 6 (by decide) _ _ _ o t h) h (fun w9 t8 h => ?_) (fun E t h => r_out C (fun x hx => (hE x hx).elim) (Nat.le_refl _) (Nat.le_refl _) h)
  replace h := jvV_some h
  obtain ⟨rfl, h⟩ := h
  refine r_putRF C hin (v := (some b6)) 30 rfl fp_X0_20 dX0_init_27 h (fun t10 h => ?_)
  refine r_aload_n C (x := some a0) 31 rfl 0 dX0_init_30 rfl ?_
  refine r_sipush C (v := 5000) 34 rfl dX0_init_31 (by decide) ?_
  refine r_putI C 37 rfl fp_X0_23 dX0_init_34 h (fun t11 h => ?_)
  refine r_iconst C (v := 0) 38 rfl dX0_init_37 (by decide) ?_
  refine r_istore_n C 39 rfl [(1, .int 0), (0, .ref a0)] dX0_init_38 (by decide) rfl ?_
  refine r_lv [1, 0] rfl ?_
  refine w_X0_init_L39 l hst  C hE   jN a0 0 t11 h

def J_X0_changeBearing  (a0 : Nat) (v1 : Int32) (σ : Hp) : jR := jgI σ a0 0 2 (fun x1 => jpI σ a0 0 2 v1 (fun t2 => some (.inl (some (.int x1)), t2)))
set_option maxHeartbeats 4000000 in
set_option maxRecDepth 100000 in
theorem k_X0_changeBearing (l : Launch) (hst : l.stackTraces = false) (g : jG)   (a0 : Nat) (v1 : Int32) (σ : Hp) (o : jO) (τ : Hp) (h : J_X0_changeBearing a0 v1 σ = some (o, τ)) : jMet l g yX0_changeBearing (Cond.code yX0_changeBearing cX0_changeBearing 3 (some FieldType.int) :: gT) ({ frames := 1, cells := 0, slots := 0, locals := 12 } : Room) 0 0 [.ref a0, .int v1] σ o τ := by
  refine j_start l hst (own := RX0) (by decide) rfl (Nat.le_of_ble_eq_true rfl) ?_
  intro p e s m args below meth c C hE hin
  unfold J_X0_changeBearing at h
  show jW p l e ({ frames := 1, cells := 0, slots := 0, locals := 12 } : Room) s m args below meth c g (jQ below g o τ args s 0 0) 0 0 0 [(0, .ref a0), (1, .int v1)] [] σ
  refine r_aload_n C (x := some a0) 1 rfl 0 dX0_changeBearing_0 rfl ?_
  refine r_getI C 4 rfl ff_X0_23 dX0_changeBearing_1 h (fun x1 h => ?_)
  refine r_istore_n C 5 rfl [(2, .int x1), (0, .ref a0), (1, .int v1)] dX0_changeBearing_4 (by decide) rfl ?_
  refine r_aload_n C (x := some a0) 6 rfl 1 dX0_changeBearing_5 rfl ?_
  refine r_iload_n C 7 rfl 2 dX0_changeBearing_6 rfl ?_
  refine r_putI C 10 rfl fp_X0_23 dX0_changeBearing_7 h (fun t2 h => ?_)
  refine r_iload_n C 11 rfl 0 dX0_changeBearing_10 rfl ?_
  exact r_iret C dX0_changeBearing_11 (Nat.le_refl _) (Nat.le_refl _) h

def J_X0_wearOf  (a0 : Nat) (v1 : Int32) (σ : Hp) : jR := jgR σ a0 0 0 (fun r1 => jdr r1 (fun b2 => jcv σ b2 2 (J_X2_get b2 (v1 - 1) σ) (fun w4 t3 => jvI w4 (fun x5 => some (.inl (some (.int x5)), t3))) (fun E t => some (.inr E, t))))
set_option maxHeartbeats 4000000 in
set_option maxRecDepth 100000 in
theorem k_X0_wearOf (l : Launch) (hst : l.stackTraces = false) (g : jG)   (a0 : Nat) (v1 : Int32) (σ : Hp) (o : jO) (τ : Hp) (h : J_X0_wearOf a0 v1 σ = some (o, τ)) : jMet l g yX0_wearOf (Cond.code yX0_wearOf cX0_wearOf 2 (some FieldType.int) :: gT) ({ frames := 2, cells := 0, slots := 0, locals := 33 } : Room) 0 0 [.ref a0, .int v1] σ o τ := by
  refine j_start l hst (own := RX0) (by decide) rfl (Nat.le_of_ble_eq_true rfl) ?_
  intro p e s m args below meth c C hE hin
  unfold J_X0_wearOf at h
  show jW p l e ({ frames := 2, cells := 0, slots := 0, locals := 33 } : Room) s m args below meth c g (jQ below g o τ args s 0 0) 0 0 0 [(0, .ref a0), (1, .int v1)] [] σ
  refine r_aload_n C (x := some a0) 1 rfl 0 dX0_wearOf_0 rfl ?_
  refine r_getR C 4 rfl ff_X0_14 dX0_wearOf_1 h (fun r1 h => ?_)
  refine r_iload_n C 5 rfl 1 dX0_wearOf_4 rfl ?_
  refine r_iconst C (v := 1) 6 rfl dX0_wearOf_5 (by decide) ?_
  refine r_isub C 7 rfl dX0_wearOf_6 ?_
  replace h := jdr_some h
  obtain ⟨b2, hr, h⟩ := h
  rw [hr]
  refine r_callV C (ci := 2) mm_X0_30 im_yX2_get se_yX2_get rfl 10 0 0 rfl rfl rfl dX0_wearOf_7 rfl rfl (As := [.int (v1 - 1)]) rfl rfl (Nat.le_of_ble_eq_true rfl) ⟨Nat.le_of_ble_eq_true rfl, Nat.le_of_ble_eq_true rfl⟩ ⟨(Nat.le_of_ble_eq_true rfl), (Nat.le_of_ble_eq_true rfl)⟩ (fun o t h => k_X2_get l hst g _ _ _ o t h) h (fun w4 t3 h => ?_) (fun E t h => r_out C (fun x hx => (hE x hx).elim) (Nat.le_refl _) (Nat.le_refl _) h)
  replace h := jvI_some h
  obtain ⟨x5, rfl, h⟩ := h
  exact r_iret C dX0_wearOf_10 (Nat.le_refl _) (Nat.le_refl _) h

def J_X0_renewPin  (a0 : Nat) (v1 : Int32) (σ : Hp) : jR := jcv σ a0 0 (J_X0_wearOf a0 v1 σ) (fun w2 t1 => jvI w2 (fun x3 => jgR t1 a0 0 0 (fun r4 => jdr r4 (fun b5 => jcv t1 b5 2 (J_X2_set b5 (v1 - 1) 0 t1) (fun w7 t6 => jvV w7 (some (.inl (some (.int x3)), t6))) (fun E t => some (.inr E, t)))))) (fun E t => some (.inr E, t))
set_option maxHeartbeats 4000000 in
set_option maxRecDepth 100000 in
theorem k_X0_renewPin (l : Launch) (hst : l.stackTraces = false) (g : jG)   (a0 : Nat) (v1 : Int32) (σ : Hp) (o : jO) (τ : Hp) (h : J_X0_renewPin a0 v1 σ = some (o, τ)) : jMet l g yX0_renewPin (Cond.code yX0_renewPin cX0_renewPin 3 (some FieldType.int) :: gT) ({ frames := 3, cells := 0, slots := 0, locals := 54 } : Room) 0 0 [.ref a0, .int v1] σ o τ := by
  refine j_start l hst (own := RX0) (by decide) rfl (Nat.le_of_ble_eq_true rfl) ?_
  intro p e s m args below meth c C hE hin
  unfold J_X0_renewPin at h
  show jW p l e ({ frames := 3, cells := 0, slots := 0, locals := 54 } : Room) s m args below meth c g (jQ below g o τ args s 0 0) 0 0 0 [(0, .ref a0), (1, .int v1)] [] σ
  refine r_aload_n C (x := some a0) 1 rfl 0 dX0_renewPin_0 rfl ?_
  refine r_iload_n C 2 rfl 1 dX0_renewPin_1 rfl ?_
  refine r_callV C (ci := 0) mm_X0_34 im_yX0_wearOf se_yX0_wearOf rfl 5 0 0 rfl rfl rfl dX0_renewPin_2 rfl rfl (As := [.int v1]) rfl rfl (Nat.le_of_ble_eq_true rfl) ⟨Nat.le_of_ble_eq_true rfl, Nat.le_of_ble_eq_true rfl⟩ ⟨(Nat.le_of_ble_eq_true rfl), (Nat.le_of_ble_eq_true rfl)⟩ (fun o t h => k_X0_wearOf l hst g _ _ _ o t h) h (fun w2 t1 h => ?_) (fun E t h => r_out C (fun x hx => (hE x hx).elim) (Nat.le_refl _) (Nat.le_refl _) h)
  replace h := jvI_some h
  obtain ⟨x3, rfl, h⟩ := h
  refine r_istore_n C 6 rfl [(2, .int x3), (0, .ref a0), (1, .int v1)] dX0_renewPin_5 (by decide) rfl ?_
  refine r_aload_n C (x := some a0) 7 rfl 1 dX0_renewPin_6 rfl ?_
  refine r_getR C 10 rfl ff_X0_14 dX0_renewPin_7 h (fun r4 h => ?_)
  refine r_iload_n C 11 rfl 2 dX0_renewPin_10 rfl ?_
  refine r_iconst C (v := 1) 12 rfl dX0_renewPin_11 (by decide) ?_
  refine r_isub C 13 rfl dX0_renewPin_12 ?_
  refine r_iconst C (v := 0) 14 rfl dX0_renewPin_13 (by decide) ?_
  replace h := jdr_some h
  obtain ⟨b5, hr, h⟩ := h
  rw [hr]
  refine r_callV C (ci := 2) mm_X0_37 im_yX2_set se_yX2_set rfl 17 0 0 rfl rfl rfl dX0_renewPin_14 rfl rfl (As := [.int (v1 - 1), .int 0]) rfl rfl (Nat.le_of_ble_eq_true rfl) ⟨Nat.le_of_ble_eq_true rfl, Nat.le_of_ble_eq_true rfl⟩ ⟨(Nat.le_of_ble_eq_true rfl), (Nat.le_of_ble_eq_true rfl)⟩ (fun o t h => k_X2_set l hst g _ _ _ _ o t h) h (fun w7 t6 h => ?_) (fun E t h => r_out C (fun x hx => (hE x hx).elim) (Nat.le_refl _) (Nat.le_refl _) h)
  replace h := jvV_some h
  obtain ⟨rfl, h⟩ := h
  refine r_iload_n C 18 rfl 0 dX0_renewPin_17 rfl ?_
  exact r_iret C dX0_renewPin_18 (Nat.le_refl _) (Nat.le_refl _) h

def J_X0_forgetPlan_L2b   (rc : Nat → Int32 → Hp → jR) (a0 : Nat) (v1 : Int32) (t0 : Hp) : jR := (if 6 ≤ v1 then some (.inl none, t0) else jgR t0 a0 0 1 (fun r1 => jdr r1 (fun b2 => jcv t0 b2 2 (J_X2_set b2 v1 0 t0) (fun w4 t3 => jvV w4 (rc a0 (v1 + 1) t3)) (fun E t => some (.inr E, t)))))
def J_X0_forgetPlan_L2   : Nat → Nat → Int32 → Hp → jR
  | 0 => fun _ _ _ => none
  | n + 1 => J_X0_forgetPlan_L2b   (J_X0_forgetPlan_L2   n)
def J_X0_forgetPlan  (a0 : Nat) (σ : Hp) : jR := J_X0_forgetPlan_L2   jN a0 0 σ
set_option maxHeartbeats 4000000 in
set_option maxRecDepth 100000 in
theorem w_X0_forgetPlan_L2 (l : Launch) (hst : l.stackTraces = false) {p : Program} {e : Env} {s : State} {m : MethodId} {args : Array Value} {below : List Frame} {meth : Method} {c : Code} {g : jG} {o : jO} {τ : Hp}  (C : jC p l s m args meth c g RX0 cX0_forgetPlan 2 none) (hE : ∀ x ∈ c.exceptionTable.toList, False)  : ∀ (n : Nat) (a0 : Nat) (v1 : Int32) (t0 : Hp), J_X0_forgetPlan_L2   n a0 v1 t0 = some (o, τ) → jW p l e ({ frames := 2, cells := 0, slots := 0, locals := 34 } : Room) s m args below meth c g (jQ below g o τ args s 0 0) 0 0 2 [(0, .ref a0), (1, .int v1)] [] t0 := by
  intro n
  induction n with
  | zero => intro a0 v1 t0 h; cases h
  | succ n ih =>
    intro a0 v1 t0 h
    skip
    have h : J_X0_forgetPlan_L2b   (J_X0_forgetPlan_L2   n) a0 v1 t0 = some (o, τ) := h
    unfold J_X0_forgetPlan_L2b at h
    refine r_iload_n C 3 rfl 1 dX0_forgetPlan_2 rfl ?_
    refine r_bipush C (v := 6) 5 rfl dX0_forgetPlan_3 (by decide) ?_
    refine r_icmp_ge C 23 8 rfl dX0_forgetPlan_5 (by decide) h (fun h => ?_) (fun h => ?_)
    · exact r_vret C dX0_forgetPlan_23 (Nat.le_refl _) (Nat.le_refl _) h
    · refine r_aload_n C (x := some a0) 9 rfl 0 dX0_forgetPlan_8 rfl ?_
      refine r_getR C 12 rfl ff_X0_20 dX0_forgetPlan_9 h (fun r1 h => ?_)
      refine r_iload_n C 13 rfl 1 dX0_forgetPlan_12 rfl ?_
      refine r_iconst C (v := 0) 14 rfl dX0_forgetPlan_13 (by decide) ?_
      replace h := jdr_some h
      obtain ⟨b2, hr, h⟩ := h
      rw [hr]
      refine r_callV C (ci := 2) mm_X0_37 im_yX2_set se_yX2_set rfl 17 0 0 rfl rfl rfl dX0_forgetPlan_14 rfl rfl (As := [.int v1, .int 0]) rfl rfl (Nat.le_of_ble_eq_true rfl) ⟨Nat.le_of_ble_eq_true rfl, Nat.le_of_ble_eq_true rfl⟩ ⟨(Nat.le_of_ble_eq_true rfl), (Nat.le_of_ble_eq_true rfl)⟩ (fun o t h => k_X2_set l hst g _ _ _ _ o t h) h (fun w4 t3 h => ?_) (fun E t h => r_out C (fun x hx => (hE x hx).elim) (Nat.le_refl _) (Nat.le_refl _) h)
      replace h := jvV_some h
      obtain ⟨rfl, h⟩ := h
      refine r_iinc C (v := v1 + 1) 20 rfl 1 [(1, .int (v1 + 1)), (0, .ref a0)] dX0_forgetPlan_17 rfl rfl (by decide) rfl ?_
      refine r_goto C 2 dX0_forgetPlan_20 (by decide) ?_
      refine r_lv [1, 0] rfl ?_
      exact ih a0 (v1 + 1) t3 h
set_option maxHeartbeats 4000000 in
set_option maxRecDepth 100000 in
theorem k_X0_forgetPlan (l : Launch) (hst : l.stackTraces = false) (g : jG)   (a0 : Nat) (σ : Hp) (o : jO) (τ : Hp) (h : J_X0_forgetPlan a0 σ = some (o, τ)) : jMet l g yX0_forgetPlan (Cond.code yX0_forgetPlan cX0_forgetPlan 2 none :: gT) ({ frames := 2, cells := 0, slots := 0, locals := 34 } : Room) 0 0 [.ref a0] σ o τ := by
  refine j_start l hst (own := RX0) (by decide) rfl (Nat.le_of_ble_eq_true rfl) ?_
  intro p e s m args below meth c C hE hin
  unfold J_X0_forgetPlan at h
  show jW p l e ({ frames := 2, cells := 0, slots := 0, locals := 34 } : Room) s m args below meth c g (jQ below g o τ args s 0 0) 0 0 0 [(0, .ref a0)] [] σ
  refine r_iconst C (v := 0) 1 rfl dX0_forgetPlan_0 (by decide) ?_
  refine r_istore_n C 2 rfl [(1, .int 0), (0, .ref a0)] dX0_forgetPlan_1 (by decide) rfl ?_
  refine r_lv [1, 0] rfl ?_
  refine w_X0_forgetPlan_L2 l hst  C hE   jN a0 0 σ h

def J_X0_planCell_L2b   (rc : Nat → Int32 → Int32 → Hp → jR) (a0 : Nat) (v1 : Int32) (v2 : Int32) (t0 : Hp) : jR := (if 6 ≤ v2 then some (.inl none, t0) else jgR t0 a0 0 1 (fun r1 => jgR t0 a0 0 1 (fun r2 => jdr r2 (fun b3 => jdr r1 (fun b4 => jcv t0 b3 2 (J_X2_get b3 v2 t0) (fun w6 t5 => jvI w6 (fun x7 => jcv t5 b4 2 (J_X2_set b4 v2 (x7 + ((v1 >>> (v2 &&& 31)) &&& 1)) t5) (fun w9 t8 => jvV w9 (rc a0 v1 (v2 + 1) t8)) (fun E t => some (.inr E, t)))) (fun E t => some (.inr E, t)))))))
def J_X0_planCell_L2   : Nat → Nat → Int32 → Int32 → Hp → jR
  | 0 => fun _ _ _ _ => none
  | n + 1 => J_X0_planCell_L2b   (J_X0_planCell_L2   n)
def J_X0_planCell  (a0 : Nat) (v1 : Int32) (σ : Hp) : jR := J_X0_planCell_L2   jN a0 v1 0 σ
set_option maxHeartbeats 4000000 in
set_option maxRecDepth 100000 in
theorem w_X0_planCell_L2 (l : Launch) (hst : l.stackTraces = false) {p : Program} {e : Env} {s : State} {m : MethodId} {args : Array Value} {below : List Frame} {meth : Method} {c : Code} {g : jG} {o : jO} {τ : Hp}  (C : jC p l s m args meth c g RX0 cX0_planCell 3 none) (hE : ∀ x ∈ c.exceptionTable.toList, False)  : ∀ (n : Nat) (a0 : Nat) (v1 : Int32) (v2 : Int32) (t0 : Hp), J_X0_planCell_L2   n a0 v1 v2 t0 = some (o, τ) → jW p l e ({ frames := 2, cells := 0, slots := 0, locals := 34 } : Room) s m args below meth c g (jQ below g o τ args s 0 0) 0 0 2 [(0, .ref a0), (1, .int v1), (2, .int v2)] [] t0 := by
  intro n
  induction n with
  | zero => intro a0 v1 v2 t0 h; cases h
  | succ n ih =>
    intro a0 v1 v2 t0 h
    skip
    have h : J_X0_planCell_L2b   (J_X0_planCell_L2   n) a0 v1 v2 t0 = some (o, τ) := h
    unfold J_X0_planCell_L2b at h
    refine r_iload_n C 3 rfl 2 dX0_planCell_2 rfl ?_
    refine r_bipush C (v := 6) 5 rfl dX0_planCell_3 (by decide) ?_
    refine r_icmp_ge C 36 8 rfl dX0_planCell_5 (by decide) h (fun h => ?_) (fun h => ?_)
    · exact r_vret C dX0_planCell_36 (Nat.le_refl _) (Nat.le_refl _) h
    · refine r_aload_n C (x := some a0) 9 rfl 0 dX0_planCell_8 rfl ?_
      refine r_getR C 12 rfl ff_X0_20 dX0_planCell_9 h (fun r1 h => ?_)
      refine r_iload_n C 13 rfl 2 dX0_planCell_12 rfl ?_
      refine r_aload_n C (x := some a0) 14 rfl 0 dX0_planCell_13 rfl ?_
      refine r_getR C 17 rfl ff_X0_20 dX0_planCell_14 h (fun r2 h => ?_)
      refine r_iload_n C 18 rfl 2 dX0_planCell_17 rfl ?_
      replace h := jdr_some h
      obtain ⟨b3, hr, h⟩ := h
      rw [hr]
      replace h := jdr_some h
      obtain ⟨b4, hr, h⟩ := h
      rw [hr]
      refine r_callV C (ci := 2) mm_X0_30 im_yX2_get se_yX2_get rfl 21 0 0 rfl rfl rfl dX0_planCell_18 rfl rfl (As := [.int v2]) rfl rfl (Nat.le_of_ble_eq_true rfl) ⟨Nat.le_of_ble_eq_true rfl, Nat.le_of_ble_eq_true rfl⟩ ⟨(Nat.le_of_ble_eq_true rfl), (Nat.le_of_ble_eq_true rfl)⟩ (fun o t h => k_X2_get l hst g _ _ _ o t h) h (fun w6 t5 h => ?_) (fun E t h => r_out C (fun x hx => (hE x hx).elim) (Nat.le_refl _) (Nat.le_refl _) h)
      replace h := jvI_some h
      obtain ⟨x7, rfl, h⟩ := h
      refine r_iload_n C 22 rfl 1 dX0_planCell_21 rfl ?_
      refine r_iload_n C 23 rfl 2 dX0_planCell_22 rfl ?_
      refine r_ishr C 24 rfl dX0_planCell_23 ?_
      refine r_iconst C (v := 1) 25 rfl dX0_planCell_24 (by decide) ?_
      refine r_iand C 26 rfl dX0_planCell_25 ?_
      refine r_iadd C 27 rfl dX0_planCell_26 ?_
      refine r_callV C (ci := 2) mm_X0_37 im_yX2_set se_yX2_set rfl 30 0 0 rfl rfl rfl dX0_planCell_27 rfl rfl (As := [.int v2, .int (x7 + ((v1 >>> (v2 &&& 31)) &&& 1))]) rfl rfl (Nat.le_of_ble_eq_true rfl) ⟨Nat.le_of_ble_eq_true rfl, Nat.le_of_ble_eq_true rfl⟩ ⟨(Nat.le_of_ble_eq_true rfl), (Nat.le_of_ble_eq_true rfl)⟩ (fun o t h => k_X2_set l hst g _ _ _ _ o t h) h (fun w9 t8 h => ?_) (fun E t h => r_out C (fun x hx => (hE x hx).elim) (Nat.le_refl _) (Nat.le_refl _) h)
      replace h := jvV_some h
      obtain ⟨rfl, h⟩ := h
      refine r_iinc C (v := v2 + 1) 33 rfl 2 [(2, .int (v2 + 1)), (0, .ref a0), (1, .int v1)] dX0_planCell_30 rfl rfl (by decide) rfl ?_
      refine r_goto C 2 dX0_planCell_33 (by decide) ?_
      refine r_lv [1, 2, 0] rfl ?_
      exact ih a0 v1 (v2 + 1) t8 h
set_option maxHeartbeats 4000000 in
set_option maxRecDepth 100000 in
theorem k_X0_planCell (l : Launch) (hst : l.stackTraces = false) (g : jG)   (a0 : Nat) (v1 : Int32) (σ : Hp) (o : jO) (τ : Hp) (h : J_X0_planCell a0 v1 σ = some (o, τ)) : jMet l g yX0_planCell (Cond.code yX0_planCell cX0_planCell 3 none :: gT) ({ frames := 2, cells := 0, slots := 0, locals := 34 } : Room) 0 0 [.ref a0, .int v1] σ o τ := by
  refine j_start l hst (own := RX0) (by decide) rfl (Nat.le_of_ble_eq_true rfl) ?_
  intro p e s m args below meth c C hE hin
  unfold J_X0_planCell at h
  show jW p l e ({ frames := 2, cells := 0, slots := 0, locals := 34 } : Room) s m args below meth c g (jQ below g o τ args s 0 0) 0 0 0 [(0, .ref a0), (1, .int v1)] [] σ
  refine r_iconst C (v := 0) 1 rfl dX0_planCell_0 (by decide) ?_
  refine r_istore_n C 2 rfl [(2, .int 0), (0, .ref a0), (1, .int v1)] dX0_planCell_1 (by decide) rfl ?_
  refine r_lv [1, 2, 0] rfl ?_
  refine w_X0_planCell_L2 l hst  C hE   jN a0 v1 0 σ h

def J_X0_bearsPlan_L2b   (rc : Nat → Int32 → Hp → jR) (a0 : Nat) (v1 : Int32) (t0 : Hp) : jR := (if 6 ≤ v1 then jrt .boolean 1 t0 else jgR t0 a0 0 1 (fun r1 => jdr r1 (fun b2 => jcv t0 b2 2 (J_X2_get b2 v1 t0) (fun w4 t3 => jvI w4 (fun x5 => jj (fun (t6 : Hp) => rc a0 (v1 + 1) t6) (fun j45 => (if x5 ≤ 0 then j45 t3 else jgR t3 a0 0 0 (fun r7 => jdr r7 (fun b8 => jcv t3 b8 2 (J_X2_get b8 v1 t3) (fun w10 t9 => jvI w10 (fun x11 => jgR t9 a0 0 1 (fun r12 => jdr r12 (fun b13 => jcv t9 b13 2 (J_X2_get b13 v1 t9) (fun w15 t14 => jvI w15 (fun x16 => jgI t14 a0 0 2 (fun x17 => (if (x11 + x16) ≤ x17 then j45 t14 else jrt .boolean 0 t14)))) (fun E t => some (.inr E, t)))))) (fun E t => some (.inr E, t)))))))) (fun E t => some (.inr E, t)))))
def J_X0_bearsPlan_L2   : Nat → Nat → Int32 → Hp → jR
  | 0 => fun _ _ _ => none
  | n + 1 => J_X0_bearsPlan_L2b   (J_X0_bearsPlan_L2   n)
def J_X0_bearsPlan  (a0 : Nat) (σ : Hp) : jR := J_X0_bearsPlan_L2   jN a0 0 σ
set_option maxHeartbeats 4000000 in
set_option maxRecDepth 100000 in
theorem w_X0_bearsPlan_L2 (l : Launch) (hst : l.stackTraces = false) {p : Program} {e : Env} {s : State} {m : MethodId} {args : Array Value} {below : List Frame} {meth : Method} {c : Code} {g : jG} {o : jO} {τ : Hp}  (C : jC p l s m args meth c g RX0 cX0_bearsPlan 2 (some FieldType.boolean)) (hE : ∀ x ∈ c.exceptionTable.toList, False)  : ∀ (n : Nat) (a0 : Nat) (v1 : Int32) (t0 : Hp), J_X0_bearsPlan_L2   n a0 v1 t0 = some (o, τ) → jW p l e ({ frames := 2, cells := 0, slots := 0, locals := 33 } : Room) s m args below meth c g (jQ below g o τ args s 0 0) 0 0 2 [(0, .ref a0), (1, .int v1)] [] t0 := by
  intro n
  induction n with
  | zero => intro a0 v1 t0 h; cases h
  | succ n ih =>
    intro a0 v1 t0 h
    skip
    have h : J_X0_bearsPlan_L2b   (J_X0_bearsPlan_L2   n) a0 v1 t0 = some (o, τ) := h
    unfold J_X0_bearsPlan_L2b at h
    refine r_iload_n C 3 rfl 1 dX0_bearsPlan_2 rfl ?_
    refine r_bipush C (v := 6) 5 rfl dX0_bearsPlan_3 (by decide) ?_
    refine r_icmp_ge C 51 8 rfl dX0_bearsPlan_5 (by decide) h (fun h => ?_) (fun h => ?_)
    · refine r_iconst C (v := 1) 52 rfl dX0_bearsPlan_51 (by decide) ?_
      exact r_zret C (fun _ => rfl) dX0_bearsPlan_52 (Nat.le_refl _) (Nat.le_refl _) h
    · refine r_aload_n C (x := some a0) 9 rfl 0 dX0_bearsPlan_8 rfl ?_
      refine r_getR C 12 rfl ff_X0_20 dX0_bearsPlan_9 h (fun r1 h => ?_)
      refine r_iload_n C 13 rfl 1 dX0_bearsPlan_12 rfl ?_
      replace h := jdr_some h
      obtain ⟨b2, hr, h⟩ := h
      rw [hr]
      refine r_callV C (ci := 2) mm_X0_30 im_yX2_get se_yX2_get rfl 16 0 0 rfl rfl rfl dX0_bearsPlan_13 rfl rfl (As := [.int v1]) rfl rfl (Nat.le_of_ble_eq_true rfl) ⟨Nat.le_of_ble_eq_true rfl, Nat.le_of_ble_eq_true rfl⟩ ⟨(Nat.le_of_ble_eq_true rfl), (Nat.le_of_ble_eq_true rfl)⟩ (fun o t h => k_X2_get l hst g _ _ _ o t h) h (fun w4 t3 h => ?_) (fun E t h => r_out C (fun x hx => (hE x hx).elim) (Nat.le_refl _) (Nat.le_refl _) h)
      replace h := jvI_some h
      obtain ⟨x5, rfl, h⟩ := h
      obtain ⟨j45, hj45E, h⟩ := jj_some h
      have hj45 : ∀ (t6 : Hp), j45 t6 = some (o, τ) → jW p l e ({ frames := 2, cells := 0, slots := 0, locals := 33 } : Room) s m args below meth c g (jQ below g o τ args s 0 0) 0 0 45 [(0, .ref a0), (1, .int v1)] [] t6 := by
        subst hj45E
        intro t6 h
        refine r_iinc C (v := v1 + 1) 48 rfl 1 [(1, .int (v1 + 1)), (0, .ref a0)] dX0_bearsPlan_45 rfl rfl (by decide) rfl ?_
        refine r_goto C 2 dX0_bearsPlan_48 (by decide) ?_
        refine r_lv [1, 0] rfl ?_
        exact ih a0 (v1 + 1) t6 h
      clear hj45E
      refine r_if_le C 45 19 rfl dX0_bearsPlan_16 (by decide) h (fun h => ?_) (fun h => ?_)
      · exact hj45 t3 h
      · refine r_aload_n C (x := some a0) 20 rfl 0 dX0_bearsPlan_19 rfl ?_
        refine r_getR C 23 rfl ff_X0_14 dX0_bearsPlan_20 h (fun r7 h => ?_)
        refine r_iload_n C 24 rfl 1 dX0_bearsPlan_23 rfl ?_
        replace h := jdr_some h
        obtain ⟨b8, hr, h⟩ := h
        rw [hr]
        refine r_callV C (ci := 2) mm_X0_30 im_yX2_get se_yX2_get rfl 27 0 0 rfl rfl rfl dX0_bearsPlan_24 rfl rfl (As := [.int v1]) rfl rfl (Nat.le_of_ble_eq_true rfl) ⟨Nat.le_of_ble_eq_true rfl, Nat.le_of_ble_eq_true rfl⟩ ⟨(Nat.le_of_ble_eq_true rfl), (Nat.le_of_ble_eq_true rfl)⟩ (fun o t h => k_X2_get l hst g _ _ _ o t h) h (fun w10 t9 h => ?_) (fun E t h => r_out C (fun x hx => (hE x hx).elim) (Nat.le_refl _) (Nat.le_refl _) h)
        replace h := jvI_some h
        obtain ⟨x11, rfl, h⟩ := h
        refine r_aload_n C (x := some a0) 28 rfl 0 dX0_bearsPlan_27 rfl ?_
        refine r_getR C 31 rfl ff_X0_20 dX0_bearsPlan_28 h (fun r12 h => ?_)
        refine r_iload_n C 32 rfl 1 dX0_bearsPlan_31 rfl ?_
        replace h := jdr_some h
        obtain ⟨b13, hr, h⟩ := h
        rw [hr]
        refine r_callV C (ci := 2) mm_X0_30 im_yX2_get se_yX2_get rfl 35 0 0 rfl rfl rfl dX0_bearsPlan_32 rfl rfl (As := [.int v1]) rfl rfl (Nat.le_of_ble_eq_true rfl) ⟨Nat.le_of_ble_eq_true rfl, Nat.le_of_ble_eq_true rfl⟩ ⟨(Nat.le_of_ble_eq_true rfl), (Nat.le_of_ble_eq_true rfl)⟩ (fun o t h => k_X2_get l hst g _ _ _ o t h) h (fun w15 t14 h => ?_) (fun E t h => r_out C (fun x hx => (hE x hx).elim) (Nat.le_refl _) (Nat.le_refl _) h)
        replace h := jvI_some h
        obtain ⟨x16, rfl, h⟩ := h
        refine r_iadd C 36 rfl dX0_bearsPlan_35 ?_
        refine r_aload_n C (x := some a0) 37 rfl 0 dX0_bearsPlan_36 rfl ?_
        refine r_getI C 40 rfl ff_X0_23 dX0_bearsPlan_37 h (fun x17 h => ?_)
        refine r_icmp_le C 45 43 rfl dX0_bearsPlan_40 (by decide) h (fun h => ?_) (fun h => ?_)
        · exact hj45 t14 h
        · refine r_iconst C (v := 0) 44 rfl dX0_bearsPlan_43 (by decide) ?_
          exact r_zret C (fun _ => rfl) dX0_bearsPlan_44 (Nat.le_refl _) (Nat.le_refl _) h
set_option maxHeartbeats 4000000 in
set_option maxRecDepth 100000 in
theorem k_X0_bearsPlan (l : Launch) (hst : l.stackTraces = false) (g : jG)   (a0 : Nat) (σ : Hp) (o : jO) (τ : Hp) (h : J_X0_bearsPlan a0 σ = some (o, τ)) : jMet l g yX0_bearsPlan (Cond.code yX0_bearsPlan cX0_bearsPlan 2 (some FieldType.boolean) :: gT) ({ frames := 2, cells := 0, slots := 0, locals := 33 } : Room) 0 0 [.ref a0] σ o τ := by
  refine j_start l hst (own := RX0) (by decide) rfl (Nat.le_of_ble_eq_true rfl) ?_
  intro p e s m args below meth c C hE hin
  unfold J_X0_bearsPlan at h
  show jW p l e ({ frames := 2, cells := 0, slots := 0, locals := 33 } : Room) s m args below meth c g (jQ below g o τ args s 0 0) 0 0 0 [(0, .ref a0)] [] σ
  refine r_iconst C (v := 0) 1 rfl dX0_bearsPlan_0 (by decide) ?_
  refine r_istore_n C 2 rfl [(1, .int 0), (0, .ref a0)] dX0_bearsPlan_1 (by decide) rfl ?_
  refine r_lv [1, 0] rfl ?_
  refine w_X0_bearsPlan_L2 l hst  C hE   jN a0 0 σ h

def J_X0_strikePlan_L2b   (rc : Nat → Int32 → Hp → jR) (a0 : Nat) (v1 : Int32) (t0 : Hp) : jR := (if 6 ≤ v1 then some (.inl none, t0) else jgR t0 a0 0 0 (fun r1 => jgR t0 a0 0 0 (fun r2 => jdr r2 (fun b3 => jdr r1 (fun b4 => jcv t0 b3 2 (J_X2_get b3 v1 t0) (fun w6 t5 => jvI w6 (fun x7 => jgR t5 a0 0 1 (fun r8 => jdr r8 (fun b9 => jcv t5 b9 2 (J_X2_get b9 v1 t5) (fun w11 t10 => jvI w11 (fun x12 => jcv t10 b4 2 (J_X2_set b4 v1 (x7 + x12) t10) (fun w14 t13 => jvV w14 (rc a0 (v1 + 1) t13)) (fun E t => some (.inr E, t)))) (fun E t => some (.inr E, t)))))) (fun E t => some (.inr E, t)))))))
def J_X0_strikePlan_L2   : Nat → Nat → Int32 → Hp → jR
  | 0 => fun _ _ _ => none
  | n + 1 => J_X0_strikePlan_L2b   (J_X0_strikePlan_L2   n)
def J_X0_strikePlan  (a0 : Nat) (σ : Hp) : jR := J_X0_strikePlan_L2   jN a0 0 σ
set_option maxHeartbeats 4000000 in
set_option maxRecDepth 100000 in
theorem w_X0_strikePlan_L2 (l : Launch) (hst : l.stackTraces = false) {p : Program} {e : Env} {s : State} {m : MethodId} {args : Array Value} {below : List Frame} {meth : Method} {c : Code} {g : jG} {o : jO} {τ : Hp}  (C : jC p l s m args meth c g RX0 cX0_strikePlan 2 none) (hE : ∀ x ∈ c.exceptionTable.toList, False)  : ∀ (n : Nat) (a0 : Nat) (v1 : Int32) (t0 : Hp), J_X0_strikePlan_L2   n a0 v1 t0 = some (o, τ) → jW p l e ({ frames := 2, cells := 0, slots := 0, locals := 34 } : Room) s m args below meth c g (jQ below g o τ args s 0 0) 0 0 2 [(0, .ref a0), (1, .int v1)] [] t0 := by
  intro n
  induction n with
  | zero => intro a0 v1 t0 h; cases h
  | succ n ih =>
    intro a0 v1 t0 h
    skip
    have h : J_X0_strikePlan_L2b   (J_X0_strikePlan_L2   n) a0 v1 t0 = some (o, τ) := h
    unfold J_X0_strikePlan_L2b at h
    refine r_iload_n C 3 rfl 1 dX0_strikePlan_2 rfl ?_
    refine r_bipush C (v := 6) 5 rfl dX0_strikePlan_3 (by decide) ?_
    refine r_icmp_ge C 39 8 rfl dX0_strikePlan_5 (by decide) h (fun h => ?_) (fun h => ?_)
    · exact r_vret C dX0_strikePlan_39 (Nat.le_refl _) (Nat.le_refl _) h
    · refine r_aload_n C (x := some a0) 9 rfl 0 dX0_strikePlan_8 rfl ?_
      refine r_getR C 12 rfl ff_X0_14 dX0_strikePlan_9 h (fun r1 h => ?_)
      refine r_iload_n C 13 rfl 1 dX0_strikePlan_12 rfl ?_
      refine r_aload_n C (x := some a0) 14 rfl 0 dX0_strikePlan_13 rfl ?_
      refine r_getR C 17 rfl ff_X0_14 dX0_strikePlan_14 h (fun r2 h => ?_)
      refine r_iload_n C 18 rfl 1 dX0_strikePlan_17 rfl ?_
      replace h := jdr_some h
      obtain ⟨b3, hr, h⟩ := h
      rw [hr]
      replace h := jdr_some h
      obtain ⟨b4, hr, h⟩ := h
      rw [hr]
      refine r_callV C (ci := 2) mm_X0_30 im_yX2_get se_yX2_get rfl 21 0 0 rfl rfl rfl dX0_strikePlan_18 rfl rfl (As := [.int v1]) rfl rfl (Nat.le_of_ble_eq_true rfl) ⟨Nat.le_of_ble_eq_true rfl, Nat.le_of_ble_eq_true rfl⟩ ⟨(Nat.le_of_ble_eq_true rfl), (Nat.le_of_ble_eq_true rfl)⟩ (fun o t h => k_X2_get l hst g _ _ _ o t h) h (fun w6 t5 h => ?_) (fun E t h => r_out C (fun x hx => (hE x hx).elim) (Nat.le_refl _) (Nat.le_refl _) h)
      replace h := jvI_some h
      obtain ⟨x7, rfl, h⟩ := h
      refine r_aload_n C (x := some a0) 22 rfl 0 dX0_strikePlan_21 rfl ?_
      refine r_getR C 25 rfl ff_X0_20 dX0_strikePlan_22 h (fun r8 h => ?_)
      refine r_iload_n C 26 rfl 1 dX0_strikePlan_25 rfl ?_
      replace h := jdr_some h
      obtain ⟨b9, hr, h⟩ := h
      rw [hr]
      refine r_callV C (ci := 2) mm_X0_30 im_yX2_get se_yX2_get rfl 29 0 0 rfl rfl rfl dX0_strikePlan_26 rfl rfl (As := [.int v1]) rfl rfl (Nat.le_of_ble_eq_true rfl) ⟨Nat.le_of_ble_eq_true rfl, Nat.le_of_ble_eq_true rfl⟩ ⟨(Nat.le_of_ble_eq_true rfl), (Nat.le_of_ble_eq_true rfl)⟩ (fun o t h => k_X2_get l hst g _ _ _ o t h) h (fun w11 t10 h => ?_) (fun E t h => r_out C (fun x hx => (hE x hx).elim) (Nat.le_refl _) (Nat.le_refl _) h)
      replace h := jvI_some h
      obtain ⟨x12, rfl, h⟩ := h
      refine r_iadd C 30 rfl dX0_strikePlan_29 ?_
      refine r_callV C (ci := 2) mm_X0_37 im_yX2_set se_yX2_set rfl 33 0 0 rfl rfl rfl dX0_strikePlan_30 rfl rfl (As := [.int v1, .int (x7 + x12)]) rfl rfl (Nat.le_of_ble_eq_true rfl) ⟨Nat.le_of_ble_eq_true rfl, Nat.le_of_ble_eq_true rfl⟩ ⟨(Nat.le_of_ble_eq_true rfl), (Nat.le_of_ble_eq_true rfl)⟩ (fun o t h => k_X2_set l hst g _ _ _ _ o t h) h (fun w14 t13 h => ?_) (fun E t h => r_out C (fun x hx => (hE x hx).elim) (Nat.le_refl _) (Nat.le_refl _) h)
      replace h := jvV_some h
      obtain ⟨rfl, h⟩ := h
      refine r_iinc C (v := v1 + 1) 36 rfl 1 [(1, .int (v1 + 1)), (0, .ref a0)] dX0_strikePlan_33 rfl rfl (by decide) rfl ?_
      refine r_goto C 2 dX0_strikePlan_36 (by decide) ?_
      refine r_lv [1, 0] rfl ?_
      exact ih a0 (v1 + 1) t13 h
set_option maxHeartbeats 4000000 in
set_option maxRecDepth 100000 in
theorem k_X0_strikePlan (l : Launch) (hst : l.stackTraces = false) (g : jG)   (a0 : Nat) (σ : Hp) (o : jO) (τ : Hp) (h : J_X0_strikePlan a0 σ = some (o, τ)) : jMet l g yX0_strikePlan (Cond.code yX0_strikePlan cX0_strikePlan 2 none :: gT) ({ frames := 2, cells := 0, slots := 0, locals := 34 } : Room) 0 0 [.ref a0] σ o τ := by
  refine j_start l hst (own := RX0) (by decide) rfl (Nat.le_of_ble_eq_true rfl) ?_
  intro p e s m args below meth c C hE hin
  unfold J_X0_strikePlan at h
  show jW p l e ({ frames := 2, cells := 0, slots := 0, locals := 34 } : Room) s m args below meth c g (jQ below g o τ args s 0 0) 0 0 0 [(0, .ref a0)] [] σ
  refine r_iconst C (v := 0) 1 rfl dX0_strikePlan_0 (by decide) ?_
  refine r_istore_n C 2 rfl [(1, .int 0), (0, .ref a0)] dX0_strikePlan_1 (by decide) rfl ?_
  refine r_lv [1, 0] rfl ?_
  refine w_X0_strikePlan_L2 l hst  C hE   jN a0 0 σ h
