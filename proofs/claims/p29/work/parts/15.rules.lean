def J_X3_init  (a0 : Nat) (σ : Hp) : jR := jnw σ 2 (fun b1 t2 => jcv t2 b1 2 (J_X2_init 40 b1 40 t2) (fun w4 t3 => jvV w4 (jpR t3 a0 3 0 (some b1) (fun t5 => jnw t5 2 (fun b6 t7 => jcv t7 b6 2 (J_X2_init 40 b6 40 t7) (fun w9 t8 => jvV w9 (jpR t8 a0 3 1 (some b6) (fun t10 => jnw t10 2 (fun b11 t12 => jcv t12 b11 2 (J_X2_init 40 b11 40 t12) (fun w14 t13 => jvV w14 (jpR t13 a0 3 2 (some b11) (fun t15 => jnw t15 2 (fun b16 t17 => jcv t17 b16 2 (J_X2_init 40 b16 40 t17) (fun w19 t18 => jvV w19 (jpR t18 a0 3 3 (some b16) (fun t20 => jnw t20 1 (fun b21 t22 => jcv t22 b21 1 (J_X1_init 20 1600 b21 20 1600 t22) (fun w24 t23 => jvV w24 (jpR t23 a0 3 4 (some b21) (fun t25 => some (.inl none, t25)))) (fun E t => some (.inr E, t)))))) (fun E t => some (.inr E, t)))))) (fun E t => some (.inr E, t)))))) (fun E t => some (.inr E, t)))))) (fun E t => some (.inr E, t)))
set_option maxHeartbeats 4000000 in
set_option maxRecDepth 100000 in
theorem k_X3_init (l : Launch) (hst : l.stackTraces = false) (g : jG)   (a0 : Nat) (σ : Hp) (o : jO) (τ : Hp) (h : J_X3_init a0 σ = some (o, τ)) : jMet l g yX3_init (Cond.code yX3_init cX3_init 1 none :: gT) ({ frames := 3, cells := 13, slots := 1794, locals := 69 } : Room) 13 1794 [.ref a0] σ o τ := by
  refine j_start l hst (own := RX3) (by decide) rfl (Nat.le_of_ble_eq_true rfl) ?_
  intro p e s m args below meth c C hE hin
  unfold J_X3_init at h
  show jW p l e ({ frames := 3, cells := 13, slots := 1794, locals := 69 } : Room) s m args below meth c g (jQ below g o τ args s 13 1794) 0 0 0 [(0, .ref a0)] [] σ
  refine r_aload_n C (x := some a0) 1 rfl 0 dX3_init_0 rfl ?_
  refine r_objInit C 4 rfl ml_X3_5 im_oi cd_oi dX3_init_1 (Nat.le_of_ble_eq_true rfl) (Nat.le_of_ble_eq_true rfl) ?_
  refine r_aload_n C (x := some a0) 5 rfl 0 dX3_init_4 rfl ?_
  refine r_new C 8 rfl tyX2 (ci := 2) rfl tyX2_ok nw_X2 lay_X2 cl_X3_11 ins_X2 ini_X2 dX3_init_5 (Nat.le_of_ble_eq_true rfl) (Nat.le_of_ble_eq_true rfl) h (fun b1 t2 h => ?_)
  refine r_dup C 9 rfl dX3_init_8 rfl ?_
  refine r_bipush C (v := 40) 11 rfl dX3_init_9 (by decide) ?_
  refine r_callI C (ci := 2) mm_X3_13 im_yX2_init rfl 14 2 42 rfl rfl rfl dX3_init_11 rfl rfl (As := [.int 40]) rfl rfl (Nat.le_of_ble_eq_true rfl) ⟨Nat.le_of_ble_eq_true rfl, Nat.le_of_ble_eq_true rfl⟩ ⟨(Nat.le_of_ble_eq_true rfl), (Nat.le_of_ble_eq_true rfl)⟩ (fun o t h => k_X2_init l hst g 40 (by decide) _ _ _ o t h) h (fun w4 t3 h => ?_) (fun E t h => r_out C (fun x hx => (hE x hx).elim) (Nat.le_of_ble_eq_true rfl) (Nat.le_of_ble_eq_true rfl) h)
  replace h := jvV_some h
  obtain ⟨rfl, h⟩ := h
  refine r_putRF C hin (v := (some b1)) 17 rfl fp_X3_16 dX3_init_14 h (fun t5 h => ?_)
  refine r_aload_n C (x := some a0) 18 rfl 0 dX3_init_17 rfl ?_
  refine r_new C 21 rfl tyX2 (ci := 2) rfl tyX2_ok nw_X2 lay_X2 cl_X3_11 ins_X2 ini_X2 dX3_init_18 (Nat.le_of_ble_eq_true rfl) (Nat.le_of_ble_eq_true rfl) h (fun b6 t7 h => ?_)
  refine r_dup C 22 rfl dX3_init_21 rfl ?_
  refine r_bipush C (v := 40) 24 rfl dX3_init_22 (by decide) ?_
  refine r_callI C (ci := 2) mm_X3_13 im_yX2_init rfl 27 4 84 rfl rfl rfl dX3_init_24 rfl rfl (As := [.int 40]) rfl rfl (Nat.le_of_ble_eq_true rfl) ⟨Nat.le_of_ble_eq_true rfl, Nat.le_of_ble_eq_true rfl⟩ ⟨(Nat.le_of_ble_eq_true rfl), (Nat.le_of_ble_eq_true rfl)⟩ (fun o t h => k_X2_init l hst g 40 (by decide) _ _ _ o t h) h (fun w9 t8 h => ?_) (fun E t h => r_out C (fun x hx => (hE x hx).elim) (Nat.le_of_ble_eq_true rfl) (Nat.le_of_ble_eq_true rfl) h)
  replace h := jvV_some h
  obtain ⟨rfl, h⟩ := h
  refine r_putRF C hin (v := (some b6)) 30 rfl fp_X3_20 dX3_init_27 h (fun t10 h => ?_)
  refine r_aload_n C (x := some a0) 31 rfl 0 dX3_init_30 rfl ?_
  refine r_new C 34 rfl tyX2 (ci := 2) rfl tyX2_ok nw_X2 lay_X2 cl_X3_11 ins_X2 ini_X2 dX3_init_31 (Nat.le_of_ble_eq_true rfl) (Nat.le_of_ble_eq_true rfl) h (fun b11 t12 h => ?_)
  refine r_dup C 35 rfl dX3_init_34 rfl ?_
  refine r_bipush C (v := 40) 37 rfl dX3_init_35 (by decide) ?_
  refine r_callI C (ci := 2) mm_X3_13 im_yX2_init rfl 40 6 126 rfl rfl rfl dX3_init_37 rfl rfl (As := [.int 40]) rfl rfl (Nat.le_of_ble_eq_true rfl) ⟨Nat.le_of_ble_eq_true rfl, Nat.le_of_ble_eq_true rfl⟩ ⟨(Nat.le_of_ble_eq_true rfl), (Nat.le_of_ble_eq_true rfl)⟩ (fun o t h => k_X2_init l hst g 40 (by decide) _ _ _ o t h) h (fun w14 t13 h => ?_) (fun E t h => r_out C (fun x hx => (hE x hx).elim) (Nat.le_of_ble_eq_true rfl) (Nat.le_of_ble_eq_true rfl) h)
  replace h := jvV_some h
  obtain ⟨rfl, h⟩ := h
  refine r_putRF C hin (v := (some b11)) 43 rfl fp_X3_23 dX3_init_40 h (fun t15 h => ?_)
  refine r_aload_n C (x := some a0) 44 rfl 0 dX3_init_43 rfl ?_
  refine r_new C 47 rfl tyX2 (ci := 2) rfl tyX2_ok nw_X2 lay_X2 cl_X3_11 ins_X2 ini_X2 dX3_init_44 (Nat.le_of_ble_eq_true rfl) (Nat.le_of_ble_eq_true rfl) h (fun b16 t17 h => ?_)
  refine r_dup C 48 rfl dX3_init_47 rfl ?_
  refine r_bipush C (v := 40) 50 rfl dX3_init_48 (by decide) ?_
  refine r_callI C (ci := 2) mm_X3_13 im_yX2_init rfl 53 8 168 rfl rfl rfl dX3_init_50 rfl rfl (As := [.int 40]) rfl rfl (Nat.le_of_ble_eq_true rfl) ⟨Nat.le_of_ble_eq_true rfl, Nat.le_of_ble_eq_true rfl⟩ ⟨(Nat.le_of_ble_eq_true rfl), (Nat.le_of_ble_eq_true rfl)⟩ (fun o t h => k_X2_init l hst g 40 (by decide) _ _ _ o t h) h (fun w19 t18 h => ?_) (fun E t h => r_out C (fun x hx => (hE x hx).elim) (Nat.le_of_ble_eq_true rfl) (Nat.le_of_ble_eq_true rfl) h)
  replace h := jvV_some h
  obtain ⟨rfl, h⟩ := h
  refine r_putRF C hin (v := (some b16)) 56 rfl fp_X3_26 dX3_init_53 h (fun t20 h => ?_)
  refine r_aload_n C (x := some a0) 57 rfl 0 dX3_init_56 rfl ?_
  refine r_new C 60 rfl tyX1 (ci := 1) rfl tyX1_ok nw_X1 lay_X1 cl_X3_29 ins_X1 ini_X1 dX3_init_57 (Nat.le_of_ble_eq_true rfl) (Nat.le_of_ble_eq_true rfl) h (fun b21 t22 h => ?_)
  refine r_dup C 61 rfl dX3_init_60 rfl ?_
  refine r_bipush C (v := 20) 63 rfl dX3_init_61 (by decide) ?_
  refine r_sipush C (v := 1600) 66 rfl dX3_init_63 (by decide) ?_
  refine r_callI C (ci := 1) mm_X3_31 im_yX1_init rfl 69 13 1794 rfl rfl rfl dX3_init_66 rfl rfl (As := [.int 20, .int 1600]) rfl rfl (Nat.le_of_ble_eq_true rfl) ⟨Nat.le_of_ble_eq_true rfl, Nat.le_of_ble_eq_true rfl⟩ ⟨(Nat.le_of_ble_eq_true rfl), (Nat.le_of_ble_eq_true rfl)⟩ (fun o t h => k_X1_init l hst g 20 1600 (by decide) (by decide) _ _ _ _ o t h) h (fun w24 t23 h => ?_) (fun E t h => r_out C (fun x hx => (hE x hx).elim) (Nat.le_refl _) (Nat.le_refl _) h)
  replace h := jvV_some h
  obtain ⟨rfl, h⟩ := h
  refine r_putRF C hin (v := (some b21)) 72 rfl fp_X3_34 dX3_init_69 h (fun t25 h => ?_)
  exact r_vret C dX3_init_72 (Nat.le_refl _) (Nat.le_refl _) h

def J_X3_keyOf_L17b   (rc : Nat → Int32 → Int32 → Int32 → Int32 → Hp → jR) (a0 : Nat) (v1 : Int32) (v2 : Int32) (v3 : Int32) (v4 : Int32) (t0 : Hp) : jR := (if 4 ≤ v4 then some (.inl (some (.int v3)), t0) else jj (fun (x1 : Int32) (t2 : Hp) => rc a0 v1 v2 ((v3 <<< (5 &&& 31)) ||| x1) (v4 + 1) t2) (fun j46 => (if v2 ≤ v4 then j46 0 t0 else jcv t0 a0 2 (J_X2_get a0 (v1 + v4) t0) (fun w4 t3 => jvI w4 (fun x5 => j46 ((x5 - 97) + 1) t3)) (fun E t => some (.inr E, t)))))
def J_X3_keyOf_L17   : Nat → Nat → Int32 → Int32 → Int32 → Int32 → Hp → jR
  | 0 => fun _ _ _ _ _ _ => none
  | n + 1 => J_X3_keyOf_L17b   (J_X3_keyOf_L17   n)
def J_X3_keyOf  (a0 : Nat) (v1 : Int32) (v2 : Int32) (σ : Hp) : jR := (if v2 < 1 then some (.inl (some (.int 0)), σ) else (if v2 ≤ 4 then J_X3_keyOf_L17   jN a0 v1 v2 0 0 σ else some (.inl (some (.int 0)), σ)))
set_option maxHeartbeats 4000000 in
set_option maxRecDepth 100000 in
theorem w_X3_keyOf_L17 (l : Launch) (hst : l.stackTraces = false) {p : Program} {e : Env} {s : State} {m : MethodId} {args : Array Value} {below : List Frame} {meth : Method} {c : Code} {g : jG} {o : jO} {τ : Hp}  (C : jC p l s m args meth c g RX3 cX3_keyOf 6 (some FieldType.int)) (hE : ∀ x ∈ c.exceptionTable.toList, False)  : ∀ (n : Nat) (a0 : Nat) (v1 : Int32) (v2 : Int32) (v3 : Int32) (v4 : Int32) (t0 : Hp), J_X3_keyOf_L17   n a0 v1 v2 v3 v4 t0 = some (o, τ) → jW p l e ({ frames := 2, cells := 0, slots := 0, locals := 33 } : Room) s m args below meth c g (jQ below g o τ args s 0 0) 0 0 17 [(0, .ref a0), (1, .int v1), (2, .int v2), (3, .int v3), (4, .int v4)] [] t0 := by
  intro n
  induction n with
  | zero => intro a0 v1 v2 v3 v4 t0 h; cases h
  | succ n ih =>
    intro a0 v1 v2 v3 v4 t0 h
    skip
    have h : J_X3_keyOf_L17b   (J_X3_keyOf_L17   n) a0 v1 v2 v3 v4 t0 = some (o, τ) := h
    unfold J_X3_keyOf_L17b at h
    refine r_iload C 19 rfl 4 dX3_keyOf_17 rfl ?_
    refine r_iconst C (v := 4) 20 rfl dX3_keyOf_19 (by decide) ?_
    refine r_icmp_ge C 61 23 rfl dX3_keyOf_20 (by decide) h (fun h => ?_) (fun h => ?_)
    · refine r_iload_n C 62 rfl 3 dX3_keyOf_61 rfl ?_
      exact r_iret C dX3_keyOf_62 (Nat.le_refl _) (Nat.le_refl _) h
    · refine r_iload C 25 rfl 4 dX3_keyOf_23 rfl ?_
      refine r_iload_n C 26 rfl 2 dX3_keyOf_25 rfl ?_
      obtain ⟨j46, hj46E, h⟩ := jj_some h
      have hj46 : ∀ (x1 : Int32) (t2 : Hp), j46 x1 t2 = some (o, τ) → jW p l e ({ frames := 2, cells := 0, slots := 0, locals := 33 } : Room) s m args below meth c g (jQ below g o τ args s 0 0) 0 0 46 [(0, .ref a0), (1, .int v1), (2, .int v2), (3, .int v3), (4, .int v4)] [.int x1] t2 := by
        subst hj46E
        intro x1 t2 h
        refine r_istore C 48 rfl [(5, .int x1), (0, .ref a0), (1, .int v1), (2, .int v2), (3, .int v3), (4, .int v4)] dX3_keyOf_46 (by decide) rfl ?_
        refine r_iload_n C 49 rfl 4 dX3_keyOf_48 rfl ?_
        refine r_iconst C (v := 5) 50 rfl dX3_keyOf_49 (by decide) ?_
        refine r_ishl C 51 rfl dX3_keyOf_50 ?_
        refine r_iload C 53 rfl 0 dX3_keyOf_51 rfl ?_
        refine r_ior C 54 rfl dX3_keyOf_53 ?_
        refine r_istore_n C 55 rfl [(3, .int ((v3 <<< (5 &&& 31)) ||| x1)), (5, .int x1), (0, .ref a0), (1, .int v1), (2, .int v2), (4, .int v4)] dX3_keyOf_54 (by decide) rfl ?_
        refine r_iinc C (v := v4 + 1) 58 rfl 5 [(4, .int (v4 + 1)), (3, .int ((v3 <<< (5 &&& 31)) ||| x1)), (5, .int x1), (0, .ref a0), (1, .int v1), (2, .int v2)] dX3_keyOf_55 rfl rfl (by decide) rfl ?_
        refine r_goto C 17 dX3_keyOf_58 (by decide) ?_
        refine r_lv [3, 4, 5, 1, 0] rfl ?_
        exact ih a0 v1 v2 ((v3 <<< (5 &&& 31)) ||| x1) (v4 + 1) t2 h
      clear hj46E
      refine r_icmp_ge C 45 29 rfl dX3_keyOf_26 (by decide) h (fun h => ?_) (fun h => ?_)
      · refine r_iconst C (v := 0) 46 rfl dX3_keyOf_45 (by decide) ?_
        exact hj46 0 t0 h
      · refine r_aload_n C (x := some a0) 30 rfl 0 dX3_keyOf_29 rfl ?_
        refine r_iload_n C 31 rfl 1 dX3_keyOf_30 rfl ?_
        refine r_iload C 33 rfl 4 dX3_keyOf_31 rfl ?_
        refine r_iadd C 34 rfl dX3_keyOf_33 ?_
        refine r_callV C (ci := 2) mm_X3_38 im_yX2_get se_yX2_get rfl 37 0 0 rfl rfl rfl dX3_keyOf_34 rfl rfl (As := [.int (v1 + v4)]) rfl rfl (Nat.le_of_ble_eq_true rfl) ⟨Nat.le_of_ble_eq_true rfl, Nat.le_of_ble_eq_true rfl⟩ ⟨(Nat.le_of_ble_eq_true rfl), (Nat.le_of_ble_eq_true rfl)⟩ (fun o t h => k_X2_get l hst g _ _ _ o t h) h (fun w4 t3 h => ?_) (fun E t h => r_out C (fun x hx => (hE x hx).elim) (Nat.le_refl _) (Nat.le_refl _) h)
        replace h := jvI_some h
        obtain ⟨x5, rfl, h⟩ := h
        refine r_bipush C (v := 97) 39 rfl dX3_keyOf_37 (by decide) ?_
        refine r_isub C 40 rfl dX3_keyOf_39 ?_
        refine r_iconst C (v := 1) 41 rfl dX3_keyOf_40 (by decide) ?_
        refine r_iadd C 42 rfl dX3_keyOf_41 ?_
        refine r_goto C 46 dX3_keyOf_42 (by decide) ?_
        exact hj46 ((x5 - 97) + 1) t3 h
set_option maxHeartbeats 4000000 in
set_option maxRecDepth 100000 in
theorem k_X3_keyOf (l : Launch) (hst : l.stackTraces = false) (g : jG)   (a0 : Nat) (v1 : Int32) (v2 : Int32) (σ : Hp) (o : jO) (τ : Hp) (h : J_X3_keyOf a0 v1 v2 σ = some (o, τ)) : jMet l g yX3_keyOf (Cond.code yX3_keyOf cX3_keyOf 6 (some FieldType.int) :: gT) ({ frames := 2, cells := 0, slots := 0, locals := 33 } : Room) 0 0 [.ref a0, .int v1, .int v2] σ o τ := by
  refine j_start l hst (own := RX3) (by decide) rfl (Nat.le_of_ble_eq_true rfl) ?_
  intro p e s m args below meth c C hE hin
  unfold J_X3_keyOf at h
  show jW p l e ({ frames := 2, cells := 0, slots := 0, locals := 33 } : Room) s m args below meth c g (jQ below g o τ args s 0 0) 0 0 0 [(0, .ref a0), (1, .int v1), (2, .int v2)] [] σ
  refine r_iload_n C 1 rfl 2 dX3_keyOf_0 rfl ?_
  refine r_iconst C (v := 1) 2 rfl dX3_keyOf_1 (by decide) ?_
  refine r_icmp_lt C 10 5 rfl dX3_keyOf_2 (by decide) h (fun h => ?_) (fun h => ?_)
  · refine r_iconst C (v := 0) 11 rfl dX3_keyOf_10 (by decide) ?_
    exact r_iret C dX3_keyOf_11 (Nat.le_refl _) (Nat.le_refl _) h
  · refine r_iload_n C 6 rfl 2 dX3_keyOf_5 rfl ?_
    refine r_iconst C (v := 4) 7 rfl dX3_keyOf_6 (by decide) ?_
    refine r_icmp_le C 12 10 rfl dX3_keyOf_7 (by decide) h (fun h => ?_) (fun h => ?_)
    · refine r_iconst C (v := 0) 13 rfl dX3_keyOf_12 (by decide) ?_
      refine r_istore_n C 14 rfl [(3, .int 0), (0, .ref a0), (1, .int v1), (2, .int v2)] dX3_keyOf_13 (by decide) rfl ?_
      refine r_iconst C (v := 0) 15 rfl dX3_keyOf_14 (by decide) ?_
      refine r_istore C 17 rfl [(4, .int 0), (3, .int 0), (0, .ref a0), (1, .int v1), (2, .int v2)] dX3_keyOf_15 (by decide) rfl ?_
      refine r_lv [2, 3, 4, 1, 0] rfl ?_
      refine w_X3_keyOf_L17 l hst  C hE   jN a0 v1 v2 0 0 σ h
    · refine r_iconst C (v := 0) 11 rfl dX3_keyOf_10 (by decide) ?_
      exact r_iret C dX3_keyOf_11 (Nat.le_refl _) (Nat.le_refl _) h

def J_X3_isFull  (a0 : Nat) (σ : Hp) : jR := jgR σ a0 3 0 (fun r1 => jdr r1 (fun b2 => jcv σ b2 2 (J_X2_isFull b2 σ) (fun w4 t3 => jvI w4 (fun x5 => jrt .boolean x5 t3)) (fun E t => some (.inr E, t))))
set_option maxHeartbeats 4000000 in
set_option maxRecDepth 100000 in
theorem k_X3_isFull (l : Launch) (hst : l.stackTraces = false) (g : jG)   (a0 : Nat) (σ : Hp) (o : jO) (τ : Hp) (h : J_X3_isFull a0 σ = some (o, τ)) : jMet l g yX3_isFull (Cond.code yX3_isFull cX3_isFull 1 (some FieldType.boolean) :: gT) ({ frames := 2, cells := 0, slots := 0, locals := 32 } : Room) 0 0 [.ref a0] σ o τ := by
  refine j_start l hst (own := RX3) (by decide) rfl (Nat.le_of_ble_eq_true rfl) ?_
  intro p e s m args below meth c C hE hin
  unfold J_X3_isFull at h
  show jW p l e ({ frames := 2, cells := 0, slots := 0, locals := 32 } : Room) s m args below meth c g (jQ below g o τ args s 0 0) 0 0 0 [(0, .ref a0)] [] σ
  refine r_aload_n C (x := some a0) 1 rfl 0 dX3_isFull_0 rfl ?_
  refine r_getR C 4 rfl ff_X3_16 dX3_isFull_1 h (fun r1 h => ?_)
  replace h := jdr_some h
  obtain ⟨b2, hr, h⟩ := h
  rw [hr]
  refine r_callV C (ci := 2) mm_X3_46 im_yX2_isFull se_yX2_isFull rfl 7 0 0 rfl rfl rfl dX3_isFull_4 rfl rfl (As := []) rfl rfl (Nat.le_of_ble_eq_true rfl) ⟨Nat.le_of_ble_eq_true rfl, Nat.le_of_ble_eq_true rfl⟩ ⟨(Nat.le_of_ble_eq_true rfl), (Nat.le_of_ble_eq_true rfl)⟩ (fun o t h => k_X2_isFull l hst g _ _ o t h) h (fun w4 t3 h => ?_) (fun E t h => r_out C (fun x hx => (hE x hx).elim) (Nat.le_refl _) (Nat.le_refl _) h)
  replace h := jvI_some h
  obtain ⟨x5, rfl, h⟩ := h
  exact r_zret C (fun _ => rfl) dX3_isFull_7 (Nat.le_refl _) (Nat.le_refl _) h

def J_X3_placeOf  (a0 : Nat) (v1 : Int32) (σ : Hp) : jR := jgR σ a0 3 0 (fun r1 => jdr r1 (fun b2 => jcv σ b2 2 (J_X2_placeOf b2 v1 σ) (fun w4 t3 => jvI w4 (fun x5 => some (.inl (some (.int x5)), t3))) (fun E t => some (.inr E, t))))
set_option maxHeartbeats 4000000 in
set_option maxRecDepth 100000 in
theorem k_X3_placeOf (l : Launch) (hst : l.stackTraces = false) (g : jG)   (a0 : Nat) (v1 : Int32) (σ : Hp) (o : jO) (τ : Hp) (h : J_X3_placeOf a0 v1 σ = some (o, τ)) : jMet l g yX3_placeOf (Cond.code yX3_placeOf cX3_placeOf 2 (some FieldType.int) :: gT) ({ frames := 3, cells := 0, slots := 0, locals := 55 } : Room) 0 0 [.ref a0, .int v1] σ o τ := by
  refine j_start l hst (own := RX3) (by decide) rfl (Nat.le_of_ble_eq_true rfl) ?_
  intro p e s m args below meth c C hE hin
  unfold J_X3_placeOf at h
  show jW p l e ({ frames := 3, cells := 0, slots := 0, locals := 55 } : Room) s m args below meth c g (jQ below g o τ args s 0 0) 0 0 0 [(0, .ref a0), (1, .int v1)] [] σ
  refine r_aload_n C (x := some a0) 1 rfl 0 dX3_placeOf_0 rfl ?_
  refine r_getR C 4 rfl ff_X3_16 dX3_placeOf_1 h (fun r1 h => ?_)
  refine r_iload_n C 5 rfl 1 dX3_placeOf_4 rfl ?_
  replace h := jdr_some h
  obtain ⟨b2, hr, h⟩ := h
  rw [hr]
  refine r_callV C (ci := 2) mm_X3_50 im_yX2_placeOf se_yX2_placeOf rfl 8 0 0 rfl rfl rfl dX3_placeOf_5 rfl rfl (As := [.int v1]) rfl rfl (Nat.le_of_ble_eq_true rfl) ⟨Nat.le_of_ble_eq_true rfl, Nat.le_of_ble_eq_true rfl⟩ ⟨(Nat.le_of_ble_eq_true rfl), (Nat.le_of_ble_eq_true rfl)⟩ (fun o t h => k_X2_placeOf l hst g _ _ _ o t h) h (fun w4 t3 h => ?_) (fun E t h => r_out C (fun x hx => (hE x hx).elim) (Nat.le_refl _) (Nat.le_refl _) h)
  replace h := jvI_some h
  obtain ⟨x5, rfl, h⟩ := h
  exact r_iret C dX3_placeOf_8 (Nat.le_refl _) (Nat.le_refl _) h

def J_X3_insert_L6b   (rc : Nat → Int32 → Int32 → Int32 → Int32 → Int32 → Int32 → Hp → jR) (a0 : Nat) (v1 : Int32) (v2 : Int32) (v3 : Int32) (v4 : Int32) (v5 : Int32) (v6 : Int32) (t0 : Hp) : jR := jgR t0 a0 3 0 (fun r1 => jdr r1 (fun b2 => jcv t0 b2 2 (J_X2_count b2 t0) (fun w4 t3 => jvI w4 (fun x5 => (if x5 ≤ v6 then jgR t3 a0 3 0 (fun r6 => jdr r6 (fun b7 => jcv t3 b7 2 (J_X2_insert b7 v5 v1 t3) (fun w9 t8 => jvV w9 (jgR t8 a0 3 1 (fun r10 => jdr r10 (fun b11 => jcv t8 b11 2 (J_X2_insert b11 v5 v2 t8) (fun w13 t12 => jvV w13 (jgR t12 a0 3 2 (fun r14 => jdr r14 (fun b15 => jcv t12 b15 2 (J_X2_insert b15 v5 v3 t12) (fun w17 t16 => jvV w17 (jgR t16 a0 3 3 (fun r18 => jdr r18 (fun b19 => jcv t16 b19 2 (J_X2_insert b19 v5 v4 t16) (fun w21 t20 => jvV w21 (some (.inl (some (.int v5)), t20))) (fun E t => some (.inr E, t)))))) (fun E t => some (.inr E, t)))))) (fun E t => some (.inr E, t)))))) (fun E t => some (.inr E, t)))) else jgR t3 a0 3 0 (fun r22 => jdr r22 (fun b23 => jcv t3 b23 2 (J_X2_get b23 v6 t3) (fun w25 t24 => jvI w25 (fun x26 => jj (fun (x27 : Int32) (t28 : Hp) => rc a0 v1 v2 v3 v4 x27 (v6 + 1) t28) (fun j37 => (if v1 ≤ x26 then j37 v5 t24 else j37 (v6 + 1) t24)))) (fun E t => some (.inr E, t))))))) (fun E t => some (.inr E, t))))
def J_X3_insert_L6   : Nat → Nat → Int32 → Int32 → Int32 → Int32 → Int32 → Int32 → Hp → jR
  | 0 => fun _ _ _ _ _ _ _ _ => none
  | n + 1 => J_X3_insert_L6b   (J_X3_insert_L6   n)
def J_X3_insert  (a0 : Nat) (v1 : Int32) (v2 : Int32) (v3 : Int32) (v4 : Int32) (σ : Hp) : jR := J_X3_insert_L6   jN a0 v1 v2 v3 v4 0 0 σ
set_option maxHeartbeats 4000000 in
set_option maxRecDepth 100000 in
theorem w_X3_insert_L6 (l : Launch) (hst : l.stackTraces = false) {p : Program} {e : Env} {s : State} {m : MethodId} {args : Array Value} {below : List Frame} {meth : Method} {c : Code} {g : jG} {o : jO} {τ : Hp}  (C : jC p l s m args meth c g RX3 cX3_insert 7 (some FieldType.int)) (hE : ∀ x ∈ c.exceptionTable.toList, False)  : ∀ (n : Nat) (a0 : Nat) (v1 : Int32) (v2 : Int32) (v3 : Int32) (v4 : Int32) (v5 : Int32) (v6 : Int32) (t0 : Hp), J_X3_insert_L6   n a0 v1 v2 v3 v4 v5 v6 t0 = some (o, τ) → jW p l e ({ frames := 2, cells := 0, slots := 0, locals := 62 } : Room) s m args below meth c g (jQ below g o τ args s 0 0) 0 0 6 [(0, .ref a0), (1, .int v1), (2, .int v2), (3, .int v3), (4, .int v4), (5, .int v5), (6, .int v6)] [] t0 := by
  intro n
  induction n with
  | zero => intro a0 v1 v2 v3 v4 v5 v6 t0 h; cases h
  | succ n ih =>
    intro a0 v1 v2 v3 v4 v5 v6 t0 h
    skip
    have h : J_X3_insert_L6b   (J_X3_insert_L6   n) a0 v1 v2 v3 v4 v5 v6 t0 = some (o, τ) := h
    unfold J_X3_insert_L6b at h
    refine r_iload C 8 rfl 6 dX3_insert_6 rfl ?_
    refine r_aload_n C (x := some a0) 9 rfl 0 dX3_insert_8 rfl ?_
    refine r_getR C 12 rfl ff_X3_16 dX3_insert_9 h (fun r1 h => ?_)
    replace h := jdr_some h
    obtain ⟨b2, hr, h⟩ := h
    rw [hr]
    refine r_callV C (ci := 2) mm_X3_42 im_yX2_count se_yX2_count rfl 15 0 0 rfl rfl rfl dX3_insert_12 rfl rfl (As := []) rfl rfl (Nat.le_of_ble_eq_true rfl) ⟨Nat.le_of_ble_eq_true rfl, Nat.le_of_ble_eq_true rfl⟩ ⟨(Nat.le_of_ble_eq_true rfl), (Nat.le_of_ble_eq_true rfl)⟩ (fun o t h => k_X2_count l hst g _ _ o t h) h (fun w4 t3 h => ?_) (fun E t h => r_out C (fun x hx => (hE x hx).elim) (Nat.le_refl _) (Nat.le_refl _) h)
    replace h := jvI_some h
    obtain ⟨x5, rfl, h⟩ := h
    refine r_icmp_ge C 43 18 rfl dX3_insert_15 (by decide) h (fun h => ?_) (fun h => ?_)
    · refine r_aload_n C (x := some a0) 44 rfl 0 dX3_insert_43 rfl ?_
      refine r_getR C 47 rfl ff_X3_16 dX3_insert_44 h (fun r6 h => ?_)
      refine r_iload C 49 rfl 5 dX3_insert_47 rfl ?_
      refine r_iload_n C 50 rfl 1 dX3_insert_49 rfl ?_
      replace h := jdr_some h
      obtain ⟨b7, hr, h⟩ := h
      rw [hr]
      refine r_callV C (ci := 2) mm_X3_53 im_yX2_insert se_yX2_insert rfl 53 0 0 rfl rfl rfl dX3_insert_50 rfl rfl (As := [.int v5, .int v1]) rfl rfl (Nat.le_of_ble_eq_true rfl) ⟨Nat.le_of_ble_eq_true rfl, Nat.le_of_ble_eq_true rfl⟩ ⟨(Nat.le_of_ble_eq_true rfl), (Nat.le_of_ble_eq_true rfl)⟩ (fun o t h => k_X2_insert l hst g _ _ _ _ o t h) h (fun w9 t8 h => ?_) (fun E t h => r_out C (fun x hx => (hE x hx).elim) (Nat.le_refl _) (Nat.le_refl _) h)
      replace h := jvV_some h
      obtain ⟨rfl, h⟩ := h
      refine r_aload_n C (x := some a0) 54 rfl 0 dX3_insert_53 rfl ?_
      refine r_getR C 57 rfl ff_X3_20 dX3_insert_54 h (fun r10 h => ?_)
      refine r_iload C 59 rfl 5 dX3_insert_57 rfl ?_
      refine r_iload_n C 60 rfl 2 dX3_insert_59 rfl ?_
      replace h := jdr_some h
      obtain ⟨b11, hr, h⟩ := h
      rw [hr]
      refine r_callV C (ci := 2) mm_X3_53 im_yX2_insert se_yX2_insert rfl 63 0 0 rfl rfl rfl dX3_insert_60 rfl rfl (As := [.int v5, .int v2]) rfl rfl (Nat.le_of_ble_eq_true rfl) ⟨Nat.le_of_ble_eq_true rfl, Nat.le_of_ble_eq_true rfl⟩ ⟨(Nat.le_of_ble_eq_true rfl), (Nat.le_of_ble_eq_true rfl)⟩ (fun o t h => k_X2_insert l hst g _ _ _ _ o t h) h (fun w13 t12 h => ?_) (fun E t h => r_out C (fun x hx => (hE x hx).elim) (Nat.le_refl _) (Nat.le_refl _) h)
      replace h := jvV_some h
      obtain ⟨rfl, h⟩ := h
      refine r_aload_n C (x := some a0) 64 rfl 0 dX3_insert_63 rfl ?_
      refine r_getR C 67 rfl ff_X3_23 dX3_insert_64 h (fun r14 h => ?_)
      refine r_iload C 69 rfl 5 dX3_insert_67 rfl ?_
      refine r_iload_n C 70 rfl 3 dX3_insert_69 rfl ?_
      replace h := jdr_some h
      obtain ⟨b15, hr, h⟩ := h
      rw [hr]
      refine r_callV C (ci := 2) mm_X3_53 im_yX2_insert se_yX2_insert rfl 73 0 0 rfl rfl rfl dX3_insert_70 rfl rfl (As := [.int v5, .int v3]) rfl rfl (Nat.le_of_ble_eq_true rfl) ⟨Nat.le_of_ble_eq_true rfl, Nat.le_of_ble_eq_true rfl⟩ ⟨(Nat.le_of_ble_eq_true rfl), (Nat.le_of_ble_eq_true rfl)⟩ (fun o t h => k_X2_insert l hst g _ _ _ _ o t h) h (fun w17 t16 h => ?_) (fun E t h => r_out C (fun x hx => (hE x hx).elim) (Nat.le_refl _) (Nat.le_refl _) h)
      replace h := jvV_some h
      obtain ⟨rfl, h⟩ := h
      refine r_aload_n C (x := some a0) 74 rfl 0 dX3_insert_73 rfl ?_
      refine r_getR C 77 rfl ff_X3_26 dX3_insert_74 h (fun r18 h => ?_)
      refine r_iload C 79 rfl 5 dX3_insert_77 rfl ?_
      refine r_iload C 81 rfl 4 dX3_insert_79 rfl ?_
      replace h := jdr_some h
      obtain ⟨b19, hr, h⟩ := h
      rw [hr]
      refine r_callV C (ci := 2) mm_X3_53 im_yX2_insert se_yX2_insert rfl 84 0 0 rfl rfl rfl dX3_insert_81 rfl rfl (As := [.int v5, .int v4]) rfl rfl (Nat.le_of_ble_eq_true rfl) ⟨Nat.le_of_ble_eq_true rfl, Nat.le_of_ble_eq_true rfl⟩ ⟨(Nat.le_of_ble_eq_true rfl), (Nat.le_of_ble_eq_true rfl)⟩ (fun o t h => k_X2_insert l hst g _ _ _ _ o t h) h (fun w21 t20 h => ?_) (fun E t h => r_out C (fun x hx => (hE x hx).elim) (Nat.le_refl _) (Nat.le_refl _) h)
      replace h := jvV_some h
      obtain ⟨rfl, h⟩ := h
      refine r_iload C 86 rfl 5 dX3_insert_84 rfl ?_
      exact r_iret C dX3_insert_86 (Nat.le_refl _) (Nat.le_refl _) h
    · refine r_aload_n C (x := some a0) 19 rfl 0 dX3_insert_18 rfl ?_
      refine r_getR C 22 rfl ff_X3_16 dX3_insert_19 h (fun r22 h => ?_)
      refine r_iload C 24 rfl 6 dX3_insert_22 rfl ?_
      replace h := jdr_some h
      obtain ⟨b23, hr, h⟩ := h
      rw [hr]
      refine r_callV C (ci := 2) mm_X3_38 im_yX2_get se_yX2_get rfl 27 0 0 rfl rfl rfl dX3_insert_24 rfl rfl (As := [.int v6]) rfl rfl (Nat.le_of_ble_eq_true rfl) ⟨Nat.le_of_ble_eq_true rfl, Nat.le_of_ble_eq_true rfl⟩ ⟨(Nat.le_of_ble_eq_true rfl), (Nat.le_of_ble_eq_true rfl)⟩ (fun o t h => k_X2_get l hst g _ _ _ o t h) h (fun w25 t24 h => ?_) (fun E t h => r_out C (fun x hx => (hE x hx).elim) (Nat.le_refl _) (Nat.le_refl _) h)
      replace h := jvI_some h
      obtain ⟨x26, rfl, h⟩ := h
      refine r_iload_n C 28 rfl 1 dX3_insert_27 rfl ?_
      obtain ⟨j37, hj37E, h⟩ := jj_some h
      have hj37 : ∀ (x27 : Int32) (t28 : Hp), j37 x27 t28 = some (o, τ) → jW p l e ({ frames := 2, cells := 0, slots := 0, locals := 62 } : Room) s m args below meth c g (jQ below g o τ args s 0 0) 0 0 37 [(0, .ref a0), (1, .int v1), (2, .int v2), (3, .int v3), (4, .int v4), (5, .int x27), (6, .int v6)] [] t28 := by
        subst hj37E
        intro x27 t28 h
        refine r_iinc C (v := v6 + 1) 40 rfl 6 [(6, .int (v6 + 1)), (0, .ref a0), (1, .int v1), (2, .int v2), (3, .int v3), (4, .int v4), (5, .int x27)] dX3_insert_37 rfl rfl (by decide) rfl ?_
        refine r_goto C 6 dX3_insert_40 (by decide) ?_
        refine r_lv [1, 2, 3, 4, 5, 6, 0] rfl ?_
        exact ih a0 v1 v2 v3 v4 x27 (v6 + 1) t28 h
      clear hj37E
      refine r_icmp_ge C 37 31 rfl dX3_insert_28 (by decide) h (fun h => ?_) (fun h => ?_)
      · exact hj37 v5 t24 h
      · refine r_iload C 33 rfl 6 dX3_insert_31 rfl ?_
        refine r_iconst C (v := 1) 34 rfl dX3_insert_33 (by decide) ?_
        refine r_iadd C 35 rfl dX3_insert_34 ?_
        refine r_istore C 37 rfl [(5, .int (v6 + 1)), (0, .ref a0), (1, .int v1), (2, .int v2), (3, .int v3), (4, .int v4), (6, .int v6)] dX3_insert_35 (by decide) rfl ?_
        refine r_lv [1, 2, 3, 4, 5, 0, 6] rfl ?_
        exact hj37 (v6 + 1) t24 h
set_option maxHeartbeats 4000000 in
set_option maxRecDepth 100000 in
theorem k_X3_insert (l : Launch) (hst : l.stackTraces = false) (g : jG)   (a0 : Nat) (v1 : Int32) (v2 : Int32) (v3 : Int32) (v4 : Int32) (σ : Hp) (o : jO) (τ : Hp) (h : J_X3_insert a0 v1 v2 v3 v4 σ = some (o, τ)) : jMet l g yX3_insert (Cond.code yX3_insert cX3_insert 7 (some FieldType.int) :: gT) ({ frames := 2, cells := 0, slots := 0, locals := 62 } : Room) 0 0 [.ref a0, .int v1, .int v2, .int v3, .int v4] σ o τ := by
  refine j_start l hst (own := RX3) (by decide) rfl (Nat.le_of_ble_eq_true rfl) ?_
  intro p e s m args below meth c C hE hin
  unfold J_X3_insert at h
  show jW p l e ({ frames := 2, cells := 0, slots := 0, locals := 62 } : Room) s m args below meth c g (jQ below g o τ args s 0 0) 0 0 0 [(0, .ref a0), (1, .int v1), (2, .int v2), (3, .int v3), (4, .int v4)] [] σ
  refine r_iconst C (v := 0) 1 rfl dX3_insert_0 (by decide) ?_
  refine r_istore C 3 rfl [(5, .int 0), (0, .ref a0), (1, .int v1), (2, .int v2), (3, .int v3), (4, .int v4)] dX3_insert_1 (by decide) rfl ?_
  refine r_iconst C (v := 0) 4 rfl dX3_insert_3 (by decide) ?_
  refine r_istore C 6 rfl [(6, .int 0), (5, .int 0), (0, .ref a0), (1, .int v1), (2, .int v2), (3, .int v3), (4, .int v4)] dX3_insert_4 (by decide) rfl ?_
  refine r_lv [2, 3, 4, 5, 6, 1, 0] rfl ?_
  refine w_X3_insert_L6 l hst  C hE   jN a0 v1 v2 v3 v4 0 0 σ h

def J_X3_alter  (a0 : Nat) (v1 : Int32) (v2 : Int32) (v3 : Int32) (v4 : Int32) (σ : Hp) : jR := jgR σ a0 3 1 (fun r1 => jdr r1 (fun b2 => jcv σ b2 2 (J_X2_set b2 v1 v2 σ) (fun w4 t3 => jvV w4 (jgR t3 a0 3 2 (fun r5 => jdr r5 (fun b6 => jcv t3 b6 2 (J_X2_set b6 v1 v3 t3) (fun w8 t7 => jvV w8 (jgR t7 a0 3 3 (fun r9 => jdr r9 (fun b10 => jcv t7 b10 2 (J_X2_set b10 v1 v4 t7) (fun w12 t11 => jvV w12 (some (.inl none, t11))) (fun E t => some (.inr E, t)))))) (fun E t => some (.inr E, t)))))) (fun E t => some (.inr E, t))))
set_option maxHeartbeats 4000000 in
set_option maxRecDepth 100000 in
theorem k_X3_alter (l : Launch) (hst : l.stackTraces = false) (g : jG)   (a0 : Nat) (v1 : Int32) (v2 : Int32) (v3 : Int32) (v4 : Int32) (σ : Hp) (o : jO) (τ : Hp) (h : J_X3_alter a0 v1 v2 v3 v4 σ = some (o, τ)) : jMet l g yX3_alter (Cond.code yX3_alter cX3_alter 5 none :: gT) ({ frames := 2, cells := 0, slots := 0, locals := 34 } : Room) 0 0 [.ref a0, .int v1, .int v2, .int v3, .int v4] σ o τ := by
  refine j_start l hst (own := RX3) (by decide) rfl (Nat.le_of_ble_eq_true rfl) ?_
  intro p e s m args below meth c C hE hin
  unfold J_X3_alter at h
  show jW p l e ({ frames := 2, cells := 0, slots := 0, locals := 34 } : Room) s m args below meth c g (jQ below g o τ args s 0 0) 0 0 0 [(0, .ref a0), (1, .int v1), (2, .int v2), (3, .int v3), (4, .int v4)] [] σ
  refine r_aload_n C (x := some a0) 1 rfl 0 dX3_alter_0 rfl ?_
  refine r_getR C 4 rfl ff_X3_20 dX3_alter_1 h (fun r1 h => ?_)
  refine r_iload_n C 5 rfl 1 dX3_alter_4 rfl ?_
  refine r_iload_n C 6 rfl 2 dX3_alter_5 rfl ?_
  replace h := jdr_some h
  obtain ⟨b2, hr, h⟩ := h
  rw [hr]
  refine r_callV C (ci := 2) mm_X3_56 im_yX2_set se_yX2_set rfl 9 0 0 rfl rfl rfl dX3_alter_6 rfl rfl (As := [.int v1, .int v2]) rfl rfl (Nat.le_of_ble_eq_true rfl) ⟨Nat.le_of_ble_eq_true rfl, Nat.le_of_ble_eq_true rfl⟩ ⟨(Nat.le_of_ble_eq_true rfl), (Nat.le_of_ble_eq_true rfl)⟩ (fun o t h => k_X2_set l hst g _ _ _ _ o t h) h (fun w4 t3 h => ?_) (fun E t h => r_out C (fun x hx => (hE x hx).elim) (Nat.le_refl _) (Nat.le_refl _) h)
  replace h := jvV_some h
  obtain ⟨rfl, h⟩ := h
  refine r_aload_n C (x := some a0) 10 rfl 0 dX3_alter_9 rfl ?_
  refine r_getR C 13 rfl ff_X3_23 dX3_alter_10 h (fun r5 h => ?_)
  refine r_iload_n C 14 rfl 1 dX3_alter_13 rfl ?_
  refine r_iload_n C 15 rfl 3 dX3_alter_14 rfl ?_
  replace h := jdr_some h
  obtain ⟨b6, hr, h⟩ := h
  rw [hr]
  refine r_callV C (ci := 2) mm_X3_56 im_yX2_set se_yX2_set rfl 18 0 0 rfl rfl rfl dX3_alter_15 rfl rfl (As := [.int v1, .int v3]) rfl rfl (Nat.le_of_ble_eq_true rfl) ⟨Nat.le_of_ble_eq_true rfl, Nat.le_of_ble_eq_true rfl⟩ ⟨(Nat.le_of_ble_eq_true rfl), (Nat.le_of_ble_eq_true rfl)⟩ (fun o t h => k_X2_set l hst g _ _ _ _ o t h) h (fun w8 t7 h => ?_) (fun E t h => r_out C (fun x hx => (hE x hx).elim) (Nat.le_refl _) (Nat.le_refl _) h)
  replace h := jvV_some h
  obtain ⟨rfl, h⟩ := h
  refine r_aload_n C (x := some a0) 19 rfl 0 dX3_alter_18 rfl ?_
  refine r_getR C 22 rfl ff_X3_26 dX3_alter_19 h (fun r9 h => ?_)
  refine r_iload_n C 23 rfl 1 dX3_alter_22 rfl ?_
  refine r_iload C 25 rfl 4 dX3_alter_23 rfl ?_
  replace h := jdr_some h
  obtain ⟨b10, hr, h⟩ := h
  rw [hr]
  refine r_callV C (ci := 2) mm_X3_56 im_yX2_set se_yX2_set rfl 28 0 0 rfl rfl rfl dX3_alter_25 rfl rfl (As := [.int v1, .int v4]) rfl rfl (Nat.le_of_ble_eq_true rfl) ⟨Nat.le_of_ble_eq_true rfl, Nat.le_of_ble_eq_true rfl⟩ ⟨(Nat.le_of_ble_eq_true rfl), (Nat.le_of_ble_eq_true rfl)⟩ (fun o t h => k_X2_set l hst g _ _ _ _ o t h) h (fun w12 t11 h => ?_) (fun E t h => r_out C (fun x hx => (hE x hx).elim) (Nat.le_refl _) (Nat.le_refl _) h)
  replace h := jvV_some h
  obtain ⟨rfl, h⟩ := h
  exact r_vret C dX3_alter_28 (Nat.le_refl _) (Nat.le_refl _) h

def J_X3_isInOrder_L2b   (rc : Nat → Int32 → Hp → jR) (a0 : Nat) (v1 : Int32) (t0 : Hp) : jR := jgR t0 a0 3 0 (fun r1 => jdr r1 (fun b2 => jcv t0 b2 2 (J_X2_count b2 t0) (fun w4 t3 => jvI w4 (fun x5 => (if x5 ≤ v1 then jrt .boolean 1 t3 else jgR t3 a0 3 0 (fun r6 => jdr r6 (fun b7 => jcv t3 b7 2 (J_X2_get b7 (v1 - 1) t3) (fun w9 t8 => jvI w9 (fun x10 => jgR t8 a0 3 0 (fun r11 => jdr r11 (fun b12 => jcv t8 b12 2 (J_X2_get b12 v1 t8) (fun w14 t13 => jvI w14 (fun x15 => (if x10 < x15 then rc a0 (v1 + 1) t13 else jrt .boolean 0 t13))) (fun E t => some (.inr E, t)))))) (fun E t => some (.inr E, t))))))) (fun E t => some (.inr E, t))))
def J_X3_isInOrder_L2   : Nat → Nat → Int32 → Hp → jR
  | 0 => fun _ _ _ => none
  | n + 1 => J_X3_isInOrder_L2b   (J_X3_isInOrder_L2   n)
def J_X3_isInOrder  (a0 : Nat) (σ : Hp) : jR := J_X3_isInOrder_L2   jN a0 1 σ
set_option maxHeartbeats 4000000 in
set_option maxRecDepth 100000 in
theorem w_X3_isInOrder_L2 (l : Launch) (hst : l.stackTraces = false) {p : Program} {e : Env} {s : State} {m : MethodId} {args : Array Value} {below : List Frame} {meth : Method} {c : Code} {g : jG} {o : jO} {τ : Hp}  (C : jC p l s m args meth c g RX3 cX3_isInOrder 2 (some FieldType.boolean)) (hE : ∀ x ∈ c.exceptionTable.toList, False)  : ∀ (n : Nat) (a0 : Nat) (v1 : Int32) (t0 : Hp), J_X3_isInOrder_L2   n a0 v1 t0 = some (o, τ) → jW p l e ({ frames := 2, cells := 0, slots := 0, locals := 33 } : Room) s m args below meth c g (jQ below g o τ args s 0 0) 0 0 2 [(0, .ref a0), (1, .int v1)] [] t0 := by
  intro n
  induction n with
  | zero => intro a0 v1 t0 h; cases h
  | succ n ih =>
    intro a0 v1 t0 h
    skip
    have h : J_X3_isInOrder_L2b   (J_X3_isInOrder_L2   n) a0 v1 t0 = some (o, τ) := h
    unfold J_X3_isInOrder_L2b at h
    refine r_iload_n C 3 rfl 1 dX3_isInOrder_2 rfl ?_
    refine r_aload_n C (x := some a0) 4 rfl 0 dX3_isInOrder_3 rfl ?_
    refine r_getR C 7 rfl ff_X3_16 dX3_isInOrder_4 h (fun r1 h => ?_)
    replace h := jdr_some h
    obtain ⟨b2, hr, h⟩ := h
    rw [hr]
    refine r_callV C (ci := 2) mm_X3_42 im_yX2_count se_yX2_count rfl 10 0 0 rfl rfl rfl dX3_isInOrder_7 rfl rfl (As := []) rfl rfl (Nat.le_of_ble_eq_true rfl) ⟨Nat.le_of_ble_eq_true rfl, Nat.le_of_ble_eq_true rfl⟩ ⟨(Nat.le_of_ble_eq_true rfl), (Nat.le_of_ble_eq_true rfl)⟩ (fun o t h => k_X2_count l hst g _ _ o t h) h (fun w4 t3 h => ?_) (fun E t h => r_out C (fun x hx => (hE x hx).elim) (Nat.le_refl _) (Nat.le_refl _) h)
    replace h := jvI_some h
    obtain ⟨x5, rfl, h⟩ := h
    refine r_icmp_ge C 42 13 rfl dX3_isInOrder_10 (by decide) h (fun h => ?_) (fun h => ?_)
    · refine r_iconst C (v := 1) 43 rfl dX3_isInOrder_42 (by decide) ?_
      exact r_zret C (fun _ => rfl) dX3_isInOrder_43 (Nat.le_refl _) (Nat.le_refl _) h
    · refine r_aload_n C (x := some a0) 14 rfl 0 dX3_isInOrder_13 rfl ?_
      refine r_getR C 17 rfl ff_X3_16 dX3_isInOrder_14 h (fun r6 h => ?_)
      refine r_iload_n C 18 rfl 1 dX3_isInOrder_17 rfl ?_
      refine r_iconst C (v := 1) 19 rfl dX3_isInOrder_18 (by decide) ?_
      refine r_isub C 20 rfl dX3_isInOrder_19 ?_
      replace h := jdr_some h
      obtain ⟨b7, hr, h⟩ := h
      rw [hr]
      refine r_callV C (ci := 2) mm_X3_38 im_yX2_get se_yX2_get rfl 23 0 0 rfl rfl rfl dX3_isInOrder_20 rfl rfl (As := [.int (v1 - 1)]) rfl rfl (Nat.le_of_ble_eq_true rfl) ⟨Nat.le_of_ble_eq_true rfl, Nat.le_of_ble_eq_true rfl⟩ ⟨(Nat.le_of_ble_eq_true rfl), (Nat.le_of_ble_eq_true rfl)⟩ (fun o t h => k_X2_get l hst g _ _ _ o t h) h (fun w9 t8 h => ?_) (fun E t h => r_out C (fun x hx => (hE x hx).elim) (Nat.le_refl _) (Nat.le_refl _) h)
      replace h := jvI_some h
      obtain ⟨x10, rfl, h⟩ := h
      refine r_aload_n C (x := some a0) 24 rfl 0 dX3_isInOrder_23 rfl ?_
      refine r_getR C 27 rfl ff_X3_16 dX3_isInOrder_24 h (fun r11 h => ?_)
      refine r_iload_n C 28 rfl 1 dX3_isInOrder_27 rfl ?_
      replace h := jdr_some h
      obtain ⟨b12, hr, h⟩ := h
      rw [hr]
      refine r_callV C (ci := 2) mm_X3_38 im_yX2_get se_yX2_get rfl 31 0 0 rfl rfl rfl dX3_isInOrder_28 rfl rfl (As := [.int v1]) rfl rfl (Nat.le_of_ble_eq_true rfl) ⟨Nat.le_of_ble_eq_true rfl, Nat.le_of_ble_eq_true rfl⟩ ⟨(Nat.le_of_ble_eq_true rfl), (Nat.le_of_ble_eq_true rfl)⟩ (fun o t h => k_X2_get l hst g _ _ _ o t h) h (fun w14 t13 h => ?_) (fun E t h => r_out C (fun x hx => (hE x hx).elim) (Nat.le_refl _) (Nat.le_refl _) h)
      replace h := jvI_some h
      obtain ⟨x15, rfl, h⟩ := h
      refine r_icmp_lt C 36 34 rfl dX3_isInOrder_31 (by decide) h (fun h => ?_) (fun h => ?_)
      · refine r_iinc C (v := v1 + 1) 39 rfl 1 [(1, .int (v1 + 1)), (0, .ref a0)] dX3_isInOrder_36 rfl rfl (by decide) rfl ?_
        refine r_goto C 2 dX3_isInOrder_39 (by decide) ?_
        refine r_lv [1, 0] rfl ?_
        exact ih a0 (v1 + 1) t13 h
      · refine r_iconst C (v := 0) 35 rfl dX3_isInOrder_34 (by decide) ?_
        exact r_zret C (fun _ => rfl) dX3_isInOrder_35 (Nat.le_refl _) (Nat.le_refl _) h
set_option maxHeartbeats 4000000 in
set_option maxRecDepth 100000 in
theorem k_X3_isInOrder (l : Launch) (hst : l.stackTraces = false) (g : jG)   (a0 : Nat) (σ : Hp) (o : jO) (τ : Hp) (h : J_X3_isInOrder a0 σ = some (o, τ)) : jMet l g yX3_isInOrder (Cond.code yX3_isInOrder cX3_isInOrder 2 (some FieldType.boolean) :: gT) ({ frames := 2, cells := 0, slots := 0, locals := 33 } : Room) 0 0 [.ref a0] σ o τ := by
  refine j_start l hst (own := RX3) (by decide) rfl (Nat.le_of_ble_eq_true rfl) ?_
  intro p e s m args below meth c C hE hin
  unfold J_X3_isInOrder at h
  show jW p l e ({ frames := 2, cells := 0, slots := 0, locals := 33 } : Room) s m args below meth c g (jQ below g o τ args s 0 0) 0 0 0 [(0, .ref a0)] [] σ
  refine r_iconst C (v := 1) 1 rfl dX3_isInOrder_0 (by decide) ?_
  refine r_istore_n C 2 rfl [(1, .int 1), (0, .ref a0)] dX3_isInOrder_1 (by decide) rfl ?_
  refine r_lv [1, 0] rfl ?_
  refine w_X3_isInOrder_L2 l hst  C hE   jN a0 1 σ h

def J_X3_placeOfException_L3b   (rc : Nat → Nat → Int32 → Int32 → Int32 → Hp → jR) (a0 : Nat) (a1 : Nat) (v2 : Int32) (v3 : Int32) (v4 : Int32) (t0 : Hp) : jR := jgR t0 a0 3 4 (fun r1 => jdr r1 (fun b2 => jcv t0 b2 1 (J_X1_count b2 t0) (fun w4 t3 => jvI w4 (fun x5 => (if x5 ≤ v4 then some (.inl (some (.int ((-1)))), t3) else jgR t3 a0 3 4 (fun r6 => jdr r6 (fun b7 => jcv t3 b7 1 (J_X1_isSame b7 v4 a1 v2 v3 t3) (fun w9 t8 => jvI w9 (fun x10 => (if x10 = 0 then rc a0 a1 v2 v3 (v4 + 1) t8 else some (.inl (some (.int v4)), t8)))) (fun E t => some (.inr E, t))))))) (fun E t => some (.inr E, t))))
def J_X3_placeOfException_L3   : Nat → Nat → Nat → Int32 → Int32 → Int32 → Hp → jR
  | 0 => fun _ _ _ _ _ _ => none
  | n + 1 => J_X3_placeOfException_L3b   (J_X3_placeOfException_L3   n)
def J_X3_placeOfException  (a0 : Nat) (a1 : Nat) (v2 : Int32) (v3 : Int32) (σ : Hp) : jR := J_X3_placeOfException_L3   jN a0 a1 v2 v3 0 σ
set_option maxHeartbeats 4000000 in
set_option maxRecDepth 100000 in
theorem w_X3_placeOfException_L3 (l : Launch) (hst : l.stackTraces = false) {p : Program} {e : Env} {s : State} {m : MethodId} {args : Array Value} {below : List Frame} {meth : Method} {c : Code} {g : jG} {o : jO} {τ : Hp}  (C : jC p l s m args meth c g RX3 cX3_placeOfException 5 (some FieldType.int)) (hE : ∀ x ∈ c.exceptionTable.toList, False)  : ∀ (n : Nat) (a0 : Nat) (a1 : Nat) (v2 : Int32) (v3 : Int32) (v4 : Int32) (t0 : Hp), J_X3_placeOfException_L3   n a0 a1 v2 v3 v4 t0 = some (o, τ) → jW p l e ({ frames := 4, cells := 0, slots := 0, locals := 80 } : Room) s m args below meth c g (jQ below g o τ args s 0 0) 0 0 3 [(0, .ref a0), (1, .ref a1), (2, .int v2), (3, .int v3), (4, .int v4)] [] t0 := by
  intro n
  induction n with
  | zero => intro a0 a1 v2 v3 v4 t0 h; cases h
  | succ n ih =>
    intro a0 a1 v2 v3 v4 t0 h
    skip
    have h : J_X3_placeOfException_L3b   (J_X3_placeOfException_L3   n) a0 a1 v2 v3 v4 t0 = some (o, τ) := h
    unfold J_X3_placeOfException_L3b at h
    refine r_iload C 5 rfl 4 dX3_placeOfException_3 rfl ?_
    refine r_aload_n C (x := some a0) 6 rfl 0 dX3_placeOfException_5 rfl ?_
    refine r_getR C 9 rfl ff_X3_34 dX3_placeOfException_6 h (fun r1 h => ?_)
    replace h := jdr_some h
    obtain ⟨b2, hr, h⟩ := h
    rw [hr]
    refine r_callV C (ci := 1) mm_X3_62 im_yX1_count se_yX1_count rfl 12 0 0 rfl rfl rfl dX3_placeOfException_9 rfl rfl (As := []) rfl rfl (Nat.le_of_ble_eq_true rfl) ⟨Nat.le_of_ble_eq_true rfl, Nat.le_of_ble_eq_true rfl⟩ ⟨(Nat.le_of_ble_eq_true rfl), (Nat.le_of_ble_eq_true rfl)⟩ (fun o t h => k_X1_count l hst g _ _ o t h) h (fun w4 t3 h => ?_) (fun E t h => r_out C (fun x hx => (hE x hx).elim) (Nat.le_refl _) (Nat.le_refl _) h)
    replace h := jvI_some h
    obtain ⟨x5, rfl, h⟩ := h
    refine r_icmp_ge C 39 15 rfl dX3_placeOfException_12 (by decide) h (fun h => ?_) (fun h => ?_)
    · refine r_iconst C (v := (-1)) 40 rfl dX3_placeOfException_39 (by decide) ?_
      exact r_iret C dX3_placeOfException_40 (Nat.le_refl _) (Nat.le_refl _) h
    · refine r_aload_n C (x := some a0) 16 rfl 0 dX3_placeOfException_15 rfl ?_
      refine r_getR C 19 rfl ff_X3_34 dX3_placeOfException_16 h (fun r6 h => ?_)
      refine r_iload C 21 rfl 4 dX3_placeOfException_19 rfl ?_
      refine r_aload_n C (x := some a1) 22 rfl 1 dX3_placeOfException_21 rfl ?_
      refine r_iload_n C 23 rfl 2 dX3_placeOfException_22 rfl ?_
      refine r_iload_n C 24 rfl 3 dX3_placeOfException_23 rfl ?_
      replace h := jdr_some h
      obtain ⟨b7, hr, h⟩ := h
      rw [hr]
      refine r_callV C (ci := 1) mm_X3_63 im_yX1_isSame se_yX1_isSame rfl 27 0 0 rfl rfl rfl dX3_placeOfException_24 rfl rfl (As := [.int v4, .ref a1, .int v2, .int v3]) rfl rfl (Nat.le_of_ble_eq_true rfl) ⟨Nat.le_of_ble_eq_true rfl, Nat.le_of_ble_eq_true rfl⟩ ⟨(Nat.le_of_ble_eq_true rfl), (Nat.le_of_ble_eq_true rfl)⟩ (fun o t h => k_X1_isSame l hst g _ _ _ _ _ _ o t h) h (fun w9 t8 h => ?_) (fun E t h => r_out C (fun x hx => (hE x hx).elim) (Nat.le_refl _) (Nat.le_refl _) h)
      replace h := jvI_some h
      obtain ⟨x10, rfl, h⟩ := h
      refine r_if_eq C 33 30 rfl dX3_placeOfException_27 (by decide) h (fun h => ?_) (fun h => ?_)
      · refine r_iinc C (v := v4 + 1) 36 rfl 4 [(4, .int (v4 + 1)), (0, .ref a0), (1, .ref a1), (2, .int v2), (3, .int v3)] dX3_placeOfException_33 rfl rfl (by decide) rfl ?_
        refine r_goto C 3 dX3_placeOfException_36 (by decide) ?_
        refine r_lv [1, 2, 3, 4, 0] rfl ?_
        exact ih a0 a1 v2 v3 (v4 + 1) t8 h
      · refine r_iload C 32 rfl 4 dX3_placeOfException_30 rfl ?_
        exact r_iret C dX3_placeOfException_32 (Nat.le_refl _) (Nat.le_refl _) h
set_option maxHeartbeats 4000000 in
set_option maxRecDepth 100000 in
theorem k_X3_placeOfException (l : Launch) (hst : l.stackTraces = false) (g : jG)   (a0 : Nat) (a1 : Nat) (v2 : Int32) (v3 : Int32) (σ : Hp) (o : jO) (τ : Hp) (h : J_X3_placeOfException a0 a1 v2 v3 σ = some (o, τ)) : jMet l g yX3_placeOfException (Cond.code yX3_placeOfException cX3_placeOfException 5 (some FieldType.int) :: gT) ({ frames := 4, cells := 0, slots := 0, locals := 80 } : Room) 0 0 [.ref a0, .ref a1, .int v2, .int v3] σ o τ := by
  refine j_start l hst (own := RX3) (by decide) rfl (Nat.le_of_ble_eq_true rfl) ?_
  intro p e s m args below meth c C hE hin
  unfold J_X3_placeOfException at h
  show jW p l e ({ frames := 4, cells := 0, slots := 0, locals := 80 } : Room) s m args below meth c g (jQ below g o τ args s 0 0) 0 0 0 [(0, .ref a0), (1, .ref a1), (2, .int v2), (3, .int v3)] [] σ
  refine r_iconst C (v := 0) 1 rfl dX3_placeOfException_0 (by decide) ?_
  refine r_istore C 3 rfl [(4, .int 0), (0, .ref a0), (1, .ref a1), (2, .int v2), (3, .int v3)] dX3_placeOfException_1 (by decide) rfl ?_
  refine r_lv [1, 2, 3, 4, 0] rfl ?_
  refine w_X3_placeOfException_L3 l hst  C hE   jN a0 a1 v2 v3 0 σ h

def J_X3_isFullOfExceptions  (a0 : Nat) (σ : Hp) : jR := jgR σ a0 3 4 (fun r1 => jdr r1 (fun b2 => jcv σ b2 1 (J_X1_count b2 σ) (fun w4 t3 => jvI w4 (fun x5 => (if x5 < 20 then jrt .boolean 0 t3 else jrt .boolean 1 t3))) (fun E t => some (.inr E, t))))
set_option maxHeartbeats 4000000 in
set_option maxRecDepth 100000 in
theorem k_X3_isFullOfExceptions (l : Launch) (hst : l.stackTraces = false) (g : jG)   (a0 : Nat) (σ : Hp) (o : jO) (τ : Hp) (h : J_X3_isFullOfExceptions a0 σ = some (o, τ)) : jMet l g yX3_isFullOfExceptions (Cond.code yX3_isFullOfExceptions cX3_isFullOfExceptions 1 (some FieldType.boolean) :: gT) ({ frames := 3, cells := 0, slots := 0, locals := 52 } : Room) 0 0 [.ref a0] σ o τ := by
  refine j_start l hst (own := RX3) (by decide) rfl (Nat.le_of_ble_eq_true rfl) ?_
  intro p e s m args below meth c C hE hin
  unfold J_X3_isFullOfExceptions at h
  show jW p l e ({ frames := 3, cells := 0, slots := 0, locals := 52 } : Room) s m args below meth c g (jQ below g o τ args s 0 0) 0 0 0 [(0, .ref a0)] [] σ
  refine r_aload_n C (x := some a0) 1 rfl 0 dX3_isFullOfExceptions_0 rfl ?_
  refine r_getR C 4 rfl ff_X3_34 dX3_isFullOfExceptions_1 h (fun r1 h => ?_)
  replace h := jdr_some h
  obtain ⟨b2, hr, h⟩ := h
  rw [hr]
  refine r_callV C (ci := 1) mm_X3_62 im_yX1_count se_yX1_count rfl 7 0 0 rfl rfl rfl dX3_isFullOfExceptions_4 rfl rfl (As := []) rfl rfl (Nat.le_of_ble_eq_true rfl) ⟨Nat.le_of_ble_eq_true rfl, Nat.le_of_ble_eq_true rfl⟩ ⟨(Nat.le_of_ble_eq_true rfl), (Nat.le_of_ble_eq_true rfl)⟩ (fun o t h => k_X1_count l hst g _ _ o t h) h (fun w4 t3 h => ?_) (fun E t h => r_out C (fun x hx => (hE x hx).elim) (Nat.le_refl _) (Nat.le_refl _) h)
  replace h := jvI_some h
  obtain ⟨x5, rfl, h⟩ := h
  refine r_bipush C (v := 20) 9 rfl dX3_isFullOfExceptions_7 (by decide) ?_
  refine r_icmp_lt C 16 12 rfl dX3_isFullOfExceptions_9 (by decide) h (fun h => ?_) (fun h => ?_)
  · refine r_iconst C (v := 0) 17 rfl dX3_isFullOfExceptions_16 (by decide) ?_
    exact r_zret C (fun _ => rfl) dX3_isFullOfExceptions_17 (Nat.le_refl _) (Nat.le_refl _) h
  · refine r_iconst C (v := 1) 13 rfl dX3_isFullOfExceptions_12 (by decide) ?_
    refine r_goto C 17 dX3_isFullOfExceptions_13 (by decide) ?_
    exact r_zret C (fun _ => rfl) dX3_isFullOfExceptions_17 (Nat.le_refl _) (Nat.le_refl _) h

def J_X3_addException_L2b   (rc : Nat → Nat → Int32 → Hp → jR) (a0 : Nat) (a1 : Nat) (v2 : Int32) (t0 : Hp) : jR := jcv t0 a1 2 (J_X2_count a1 t0) (fun w2 t1 => jvI w2 (fun x3 => (if x3 ≤ v2 then jgR t1 a0 3 4 (fun r4 => jdr r4 (fun b5 => jcv t1 b5 1 (J_X1_cut b5 t1) (fun w7 t6 => jvV w7 (some (.inl none, t6))) (fun E t => some (.inr E, t)))) else jgR t1 a0 3 4 (fun r8 => jdr r8 (fun b9 => jcv t1 a1 2 (J_X2_get a1 v2 t1) (fun w11 t10 => jvI w11 (fun x12 => jcv t10 b9 1 (J_X1_add b9 x12 t10) (fun w14 t13 => jvV w14 (rc a0 a1 (v2 + 1) t13)) (fun E t => some (.inr E, t)))) (fun E t => some (.inr E, t))))))) (fun E t => some (.inr E, t))
def J_X3_addException_L2   : Nat → Nat → Nat → Int32 → Hp → jR
  | 0 => fun _ _ _ _ => none
  | n + 1 => J_X3_addException_L2b   (J_X3_addException_L2   n)
def J_X3_addException  (a0 : Nat) (a1 : Nat) (σ : Hp) : jR := J_X3_addException_L2   jN a0 a1 0 σ
set_option maxHeartbeats 4000000 in
set_option maxRecDepth 100000 in
theorem w_X3_addException_L2 (l : Launch) (hst : l.stackTraces = false) {p : Program} {e : Env} {s : State} {m : MethodId} {args : Array Value} {below : List Frame} {meth : Method} {c : Code} {g : jG} {o : jO} {τ : Hp}  (C : jC p l s m args meth c g RX3 cX3_addException 3 none) (hE : ∀ x ∈ c.exceptionTable.toList, False)  : ∀ (n : Nat) (a0 : Nat) (a1 : Nat) (v2 : Int32) (t0 : Hp), J_X3_addException_L2   n a0 a1 v2 t0 = some (o, τ) → jW p l e ({ frames := 5, cells := 0, slots := 0, locals := 94 } : Room) s m args below meth c g (jQ below g o τ args s 0 0) 0 0 2 [(0, .ref a0), (1, .ref a1), (2, .int v2)] [] t0 := by
  intro n
  induction n with
  | zero => intro a0 a1 v2 t0 h; cases h
  | succ n ih =>
    intro a0 a1 v2 t0 h
    skip
    have h : J_X3_addException_L2b   (J_X3_addException_L2   n) a0 a1 v2 t0 = some (o, τ) := h
    unfold J_X3_addException_L2b at h
    refine r_iload_n C 3 rfl 2 dX3_addException_2 rfl ?_
    refine r_aload_n C (x := some a1) 4 rfl 1 dX3_addException_3 rfl ?_
    refine r_callV C (ci := 2) mm_X3_42 im_yX2_count se_yX2_count rfl 7 0 0 rfl rfl rfl dX3_addException_4 rfl rfl (As := []) rfl rfl (Nat.le_of_ble_eq_true rfl) ⟨Nat.le_of_ble_eq_true rfl, Nat.le_of_ble_eq_true rfl⟩ ⟨(Nat.le_of_ble_eq_true rfl), (Nat.le_of_ble_eq_true rfl)⟩ (fun o t h => k_X2_count l hst g _ _ o t h) h (fun w2 t1 h => ?_) (fun E t h => r_out C (fun x hx => (hE x hx).elim) (Nat.le_refl _) (Nat.le_refl _) h)
    replace h := jvI_some h
    obtain ⟨x3, rfl, h⟩ := h
    refine r_icmp_ge C 28 10 rfl dX3_addException_7 (by decide) h (fun h => ?_) (fun h => ?_)
    · refine r_aload_n C (x := some a0) 29 rfl 0 dX3_addException_28 rfl ?_
      refine r_getR C 32 rfl ff_X3_34 dX3_addException_29 h (fun r4 h => ?_)
      replace h := jdr_some h
      obtain ⟨b5, hr, h⟩ := h
      rw [hr]
      refine r_callV C (ci := 1) mm_X3_70 im_yX1_cut se_yX1_cut rfl 35 0 0 rfl rfl rfl dX3_addException_32 rfl rfl (As := []) rfl rfl (Nat.le_of_ble_eq_true rfl) ⟨Nat.le_of_ble_eq_true rfl, Nat.le_of_ble_eq_true rfl⟩ ⟨(Nat.le_of_ble_eq_true rfl), (Nat.le_of_ble_eq_true rfl)⟩ (fun o t h => k_X1_cut l hst g _ _ o t h) h (fun w7 t6 h => ?_) (fun E t h => r_out C (fun x hx => (hE x hx).elim) (Nat.le_refl _) (Nat.le_refl _) h)
      replace h := jvV_some h
      obtain ⟨rfl, h⟩ := h
      exact r_vret C dX3_addException_35 (Nat.le_refl _) (Nat.le_refl _) h
    · refine r_aload_n C (x := some a0) 11 rfl 0 dX3_addException_10 rfl ?_
      refine r_getR C 14 rfl ff_X3_34 dX3_addException_11 h (fun r8 h => ?_)
      refine r_aload_n C (x := some a1) 15 rfl 1 dX3_addException_14 rfl ?_
      refine r_iload_n C 16 rfl 2 dX3_addException_15 rfl ?_
      replace h := jdr_some h
      obtain ⟨b9, hr, h⟩ := h
      rw [hr]
      refine r_callV C (ci := 2) mm_X3_38 im_yX2_get se_yX2_get rfl 19 0 0 rfl rfl rfl dX3_addException_16 rfl rfl (As := [.int v2]) rfl rfl (Nat.le_of_ble_eq_true rfl) ⟨Nat.le_of_ble_eq_true rfl, Nat.le_of_ble_eq_true rfl⟩ ⟨(Nat.le_of_ble_eq_true rfl), (Nat.le_of_ble_eq_true rfl)⟩ (fun o t h => k_X2_get l hst g _ _ _ o t h) h (fun w11 t10 h => ?_) (fun E t h => r_out C (fun x hx => (hE x hx).elim) (Nat.le_refl _) (Nat.le_refl _) h)
      replace h := jvI_some h
      obtain ⟨x12, rfl, h⟩ := h
      refine r_callV C (ci := 1) mm_X3_67 im_yX1_add se_yX1_add rfl 22 0 0 rfl rfl rfl dX3_addException_19 rfl rfl (As := [.int x12]) rfl rfl (Nat.le_of_ble_eq_true rfl) ⟨Nat.le_of_ble_eq_true rfl, Nat.le_of_ble_eq_true rfl⟩ ⟨(Nat.le_of_ble_eq_true rfl), (Nat.le_of_ble_eq_true rfl)⟩ (fun o t h => k_X1_add l hst g _ _ _ o t h) h (fun w14 t13 h => ?_) (fun E t h => r_out C (fun x hx => (hE x hx).elim) (Nat.le_refl _) (Nat.le_refl _) h)
      replace h := jvV_some h
      obtain ⟨rfl, h⟩ := h
      refine r_iinc C (v := v2 + 1) 25 rfl 2 [(2, .int (v2 + 1)), (0, .ref a0), (1, .ref a1)] dX3_addException_22 rfl rfl (by decide) rfl ?_
      refine r_goto C 2 dX3_addException_25 (by decide) ?_
      refine r_lv [1, 2, 0] rfl ?_
      exact ih a0 a1 (v2 + 1) t13 h
set_option maxHeartbeats 4000000 in
set_option maxRecDepth 100000 in
theorem k_X3_addException (l : Launch) (hst : l.stackTraces = false) (g : jG)   (a0 : Nat) (a1 : Nat) (σ : Hp) (o : jO) (τ : Hp) (h : J_X3_addException a0 a1 σ = some (o, τ)) : jMet l g yX3_addException (Cond.code yX3_addException cX3_addException 3 none :: gT) ({ frames := 5, cells := 0, slots := 0, locals := 94 } : Room) 0 0 [.ref a0, .ref a1] σ o τ := by
  refine j_start l hst (own := RX3) (by decide) rfl (Nat.le_of_ble_eq_true rfl) ?_
  intro p e s m args below meth c C hE hin
  unfold J_X3_addException at h
  show jW p l e ({ frames := 5, cells := 0, slots := 0, locals := 94 } : Room) s m args below meth c g (jQ below g o τ args s 0 0) 0 0 0 [(0, .ref a0), (1, .ref a1)] [] σ
  refine r_iconst C (v := 0) 1 rfl dX3_addException_0 (by decide) ?_
  refine r_istore_n C 2 rfl [(2, .int 0), (0, .ref a0), (1, .ref a1)] dX3_addException_1 (by decide) rfl ?_
  refine r_lv [1, 2, 0] rfl ?_
  refine w_X3_addException_L2 l hst  C hE   jN a0 a1 0 σ h

def J_X3_dropException  (a0 : Nat) (v1 : Int32) (σ : Hp) : jR := jgR σ a0 3 4 (fun r1 => jdr r1 (fun b2 => jcv σ b2 1 (J_X1_drop b2 v1 σ) (fun w4 t3 => jvV w4 (some (.inl none, t3))) (fun E t => some (.inr E, t))))
set_option maxHeartbeats 4000000 in
set_option maxRecDepth 100000 in
theorem k_X3_dropException (l : Launch) (hst : l.stackTraces = false) (g : jG)   (a0 : Nat) (v1 : Int32) (σ : Hp) (o : jO) (τ : Hp) (h : J_X3_dropException a0 v1 σ = some (o, τ)) : jMet l g yX3_dropException (Cond.code yX3_dropException cX3_dropException 2 none :: gT) ({ frames := 5, cells := 0, slots := 0, locals := 99 } : Room) 0 0 [.ref a0, .int v1] σ o τ := by
  refine j_start l hst (own := RX3) (by decide) rfl (Nat.le_of_ble_eq_true rfl) ?_
  intro p e s m args below meth c C hE hin
  unfold J_X3_dropException at h
  show jW p l e ({ frames := 5, cells := 0, slots := 0, locals := 99 } : Room) s m args below meth c g (jQ below g o τ args s 0 0) 0 0 0 [(0, .ref a0), (1, .int v1)] [] σ
  refine r_aload_n C (x := some a0) 1 rfl 0 dX3_dropException_0 rfl ?_
  refine r_getR C 4 rfl ff_X3_34 dX3_dropException_1 h (fun r1 h => ?_)
  refine r_iload_n C 5 rfl 1 dX3_dropException_4 rfl ?_
  replace h := jdr_some h
  obtain ⟨b2, hr, h⟩ := h
  rw [hr]
  refine r_callV C (ci := 1) mm_X3_73 im_yX1_drop se_yX1_drop rfl 8 0 0 rfl rfl rfl dX3_dropException_5 rfl rfl (As := [.int v1]) rfl rfl (Nat.le_of_ble_eq_true rfl) ⟨Nat.le_of_ble_eq_true rfl, Nat.le_of_ble_eq_true rfl⟩ ⟨(Nat.le_of_ble_eq_true rfl), (Nat.le_of_ble_eq_true rfl)⟩ (fun o t h => k_X1_drop l hst g _ _ _ o t h) h (fun w4 t3 h => ?_) (fun E t h => r_out C (fun x hx => (hE x hx).elim) (Nat.le_refl _) (Nat.le_refl _) h)
  replace h := jvV_some h
  obtain ⟨rfl, h⟩ := h
  exact r_vret C dX3_dropException_8 (Nat.le_refl _) (Nat.le_refl _) h

def J_X3_addCells_L3b   (rc : Nat → Nat → Int32 → Int32 → Nat → Int32 → Hp → jR) (a0 : Nat) (a1 : Nat) (v2 : Int32) (v4 : Int32) (a5 : Nat) (v6 : Int32) (t0 : Hp) : jR := (if v6 < 1 then jcv t0 a5 1 (J_X1_add a5 63 t0) (fun w2 t1 => jvV w2 (some (.inl (some (.int 1)), t1))) (fun E t => some (.inr E, t)) else jgR t0 a0 3 0 (fun r3 => jdr r3 (fun b4 => jcs (J_X3_keyOf a1 v2 v6 t0) (fun w6 t5 => jvI w6 (fun x7 => jcv t5 b4 2 (J_X2_placeOf b4 x7 t5) (fun w9 t8 => jvI w9 (fun x10 => jj (fun (t11 : Hp) => rc a0 a1 v2 v4 a5 (v6 + (-1)) t11) (fun j88 => (if x10 = ((-1)) then j88 t8 else jgR t8 a0 3 1 (fun r12 => jdr r12 (fun b13 => jcv t8 b13 2 (J_X2_get b13 x10 t8) (fun w15 t14 => jvI w15 (fun x16 => (if v4 < x16 then j88 t14 else jgR t14 a0 3 2 (fun r17 => jdr r17 (fun b18 => jcv t14 b18 2 (J_X2_get b18 x10 t14) (fun w20 t19 => jvI w20 (fun x21 => jcv t19 a5 1 (J_X1_add a5 x21 t19) (fun w23 t22 => jvV w23 (jgR t22 a0 3 3 (fun r24 => jdr r24 (fun b25 => jcv t22 b25 2 (J_X2_get b25 x10 t22) (fun w27 t26 => jvI w27 (fun x28 => (if x28 = 0 then some (.inl (some (.int v6)), t26) else jgR t26 a0 3 3 (fun r29 => jdr r29 (fun b30 => jcv t26 b30 2 (J_X2_get b30 x10 t26) (fun w32 t31 => jvI w32 (fun x33 => jcv t31 a5 1 (J_X1_add a5 x33 t31) (fun w35 t34 => jvV w35 (some (.inl (some (.int v6)), t34))) (fun E t => some (.inr E, t)))) (fun E t => some (.inr E, t))))))) (fun E t => some (.inr E, t)))))) (fun E t => some (.inr E, t)))) (fun E t => some (.inr E, t))))))) (fun E t => some (.inr E, t)))))))) (fun E t => some (.inr E, t)))) (fun E t => some (.inr E, t)))))
def J_X3_addCells_L3   : Nat → Nat → Nat → Int32 → Int32 → Nat → Int32 → Hp → jR
  | 0 => fun _ _ _ _ _ _ _ => none
  | n + 1 => J_X3_addCells_L3b   (J_X3_addCells_L3   n)
def J_X3_addCells  (a0 : Nat) (a1 : Nat) (v2 : Int32) (v3 : Int32) (v4 : Int32) (a5 : Nat) (σ : Hp) : jR := J_X3_addCells_L3   jN a0 a1 v2 v4 a5 v3 σ
set_option maxHeartbeats 4000000 in
set_option maxRecDepth 100000 in
theorem w_X3_addCells_L3 (l : Launch) (hst : l.stackTraces = false) {p : Program} {e : Env} {s : State} {m : MethodId} {args : Array Value} {below : List Frame} {meth : Method} {c : Code} {g : jG} {o : jO} {τ : Hp}  (C : jC p l s m args meth c g RX3 cX3_addCells 8 (some FieldType.int)) (hE : ∀ x ∈ c.exceptionTable.toList, False)  : ∀ (n : Nat) (a0 : Nat) (a1 : Nat) (v2 : Int32) (v4 : Int32) (a5 : Nat) (v6 : Int32) (t0 : Hp), J_X3_addCells_L3   n a0 a1 v2 v4 a5 v6 t0 = some (o, τ) → jW p l e ({ frames := 3, cells := 0, slots := 0, locals := 58 } : Room) s m args below meth c g (jQ below g o τ args s 0 0) 0 0 3 [(0, .ref a0), (1, .ref a1), (2, .int v2), (4, .int v4), (5, .ref a5), (6, .int v6)] [] t0 := by
  intro n
  induction n with
  | zero => intro a0 a1 v2 v4 a5 v6 t0 h; cases h
  | succ n ih =>
    intro a0 a1 v2 v4 a5 v6 t0 h
    skip
    have h : J_X3_addCells_L3b   (J_X3_addCells_L3   n) a0 a1 v2 v4 a5 v6 t0 = some (o, τ) := h
    unfold J_X3_addCells_L3b at h
    refine r_iload C 5 rfl 5 dX3_addCells_3 rfl ?_
    refine r_iconst C (v := 1) 6 rfl dX3_addCells_5 (by decide) ?_
    refine r_icmp_lt C 94 9 rfl dX3_addCells_6 (by decide) h (fun h => ?_) (fun h => ?_)
    · refine r_aload C (x := some a5) 96 rfl 4 dX3_addCells_94 rfl ?_
      refine r_bipush C (v := 63) 98 rfl dX3_addCells_96 (by decide) ?_
      refine r_callV C (ci := 1) mm_X3_67 im_yX1_add se_yX1_add rfl 101 0 0 rfl rfl rfl dX3_addCells_98 rfl rfl (As := [.int 63]) rfl rfl (Nat.le_of_ble_eq_true rfl) ⟨Nat.le_of_ble_eq_true rfl, Nat.le_of_ble_eq_true rfl⟩ ⟨(Nat.le_of_ble_eq_true rfl), (Nat.le_of_ble_eq_true rfl)⟩ (fun o t h => k_X1_add l hst g _ _ _ o t h) h (fun w2 t1 h => ?_) (fun E t h => r_out C (fun x hx => (hE x hx).elim) (Nat.le_refl _) (Nat.le_refl _) h)
      replace h := jvV_some h
      obtain ⟨rfl, h⟩ := h
      refine r_iconst C (v := 1) 102 rfl dX3_addCells_101 (by decide) ?_
      exact r_iret C dX3_addCells_102 (Nat.le_refl _) (Nat.le_refl _) h
    · refine r_aload_n C (x := some a0) 10 rfl 0 dX3_addCells_9 rfl ?_
      refine r_getR C 13 rfl ff_X3_16 dX3_addCells_10 h (fun r3 h => ?_)
      refine r_aload_n C (x := some a1) 14 rfl 1 dX3_addCells_13 rfl ?_
      refine r_iload_n C 15 rfl 2 dX3_addCells_14 rfl ?_
      refine r_iload C 17 rfl 5 dX3_addCells_15 rfl ?_
      replace h := jdr_some h
      obtain ⟨b4, hr, h⟩ := h
      rw [hr]
      refine r_callS C mm_X3_90 st_yX3_keyOf 20 0 0 rfl rfl rfl dX3_addCells_17 rfl rfl (As := [.ref a1, .int v2, .int v6]) rfl rfl (Nat.le_of_ble_eq_true rfl) ⟨Nat.le_of_ble_eq_true rfl, Nat.le_of_ble_eq_true rfl⟩ ⟨(Nat.le_of_ble_eq_true rfl), (Nat.le_of_ble_eq_true rfl)⟩ (fun o t h => k_X3_keyOf l hst g _ _ _ _ o t h) h (fun w6 t5 h => ?_) (fun E t h => r_out C (fun x hx => (hE x hx).elim) (Nat.le_refl _) (Nat.le_refl _) h)
      replace h := jvI_some h
      obtain ⟨x7, rfl, h⟩ := h
      refine r_callV C (ci := 2) mm_X3_50 im_yX2_placeOf se_yX2_placeOf rfl 23 0 0 rfl rfl rfl dX3_addCells_20 rfl rfl (As := [.int x7]) rfl rfl (Nat.le_of_ble_eq_true rfl) ⟨Nat.le_of_ble_eq_true rfl, Nat.le_of_ble_eq_true rfl⟩ ⟨(Nat.le_of_ble_eq_true rfl), (Nat.le_of_ble_eq_true rfl)⟩ (fun o t h => k_X2_placeOf l hst g _ _ _ o t h) h (fun w9 t8 h => ?_) (fun E t h => r_out C (fun x hx => (hE x hx).elim) (Nat.le_refl _) (Nat.le_refl _) h)
      replace h := jvI_some h
      obtain ⟨x10, rfl, h⟩ := h
      refine r_istore C 25 rfl [(7, .int x10), (0, .ref a0), (1, .ref a1), (2, .int v2), (4, .int v4), (5, .ref a5), (6, .int v6)] dX3_addCells_23 (by decide) rfl ?_
      refine r_iload C 27 rfl 0 dX3_addCells_25 rfl ?_
      refine r_iconst C (v := (-1)) 28 rfl dX3_addCells_27 (by decide) ?_
      obtain ⟨j88, hj88E, h⟩ := jj_some h
      have hj88 : ∀ (t11 : Hp), j88 t11 = some (o, τ) → jW p l e ({ frames := 3, cells := 0, slots := 0, locals := 58 } : Room) s m args below meth c g (jQ below g o τ args s 0 0) 0 0 88 [(0, .ref a0), (1, .ref a1), (2, .int v2), (4, .int v4), (5, .ref a5), (6, .int v6)] [] t11 := by
        subst hj88E
        intro t11 h
        refine r_iinc C (v := v6 + (-1)) 91 rfl 5 [(6, .int (v6 + (-1))), (0, .ref a0), (1, .ref a1), (2, .int v2), (4, .int v4), (5, .ref a5)] dX3_addCells_88 rfl rfl (by decide) rfl ?_
        refine r_goto C 3 dX3_addCells_91 (by decide) ?_
        refine r_lv [1, 2, 3, 4, 5, 0] rfl ?_
        exact ih a0 a1 v2 v4 a5 (v6 + (-1)) t11 h
      clear hj88E
      refine r_icmp_eq C 88 31 rfl dX3_addCells_28 (by decide) h (fun h => ?_) (fun h => ?_)
      · refine r_lv [1, 2, 3, 4, 5, 6] rfl ?_
        exact hj88 t8 h
      · refine r_aload_n C (x := some a0) 32 rfl 1 dX3_addCells_31 rfl ?_
        refine r_getR C 35 rfl ff_X3_20 dX3_addCells_32 h (fun r12 h => ?_)
        refine r_iload C 37 rfl 0 dX3_addCells_35 rfl ?_
        replace h := jdr_some h
        obtain ⟨b13, hr, h⟩ := h
        rw [hr]
        refine r_callV C (ci := 2) mm_X3_38 im_yX2_get se_yX2_get rfl 40 0 0 rfl rfl rfl dX3_addCells_37 rfl rfl (As := [.int x10]) rfl rfl (Nat.le_of_ble_eq_true rfl) ⟨Nat.le_of_ble_eq_true rfl, Nat.le_of_ble_eq_true rfl⟩ ⟨(Nat.le_of_ble_eq_true rfl), (Nat.le_of_ble_eq_true rfl)⟩ (fun o t h => k_X2_get l hst g _ _ _ o t h) h (fun w15 t14 h => ?_) (fun E t h => r_out C (fun x hx => (hE x hx).elim) (Nat.le_refl _) (Nat.le_refl _) h)
        replace h := jvI_some h
        obtain ⟨x16, rfl, h⟩ := h
        refine r_iload C 42 rfl 4 dX3_addCells_40 rfl ?_
        refine r_icmp_gt C 88 45 rfl dX3_addCells_42 (by decide) h (fun h => ?_) (fun h => ?_)
        · refine r_lv [1, 2, 3, 4, 5, 6] rfl ?_
          exact hj88 t14 h
        · refine r_aload C (x := some a5) 47 rfl 5 dX3_addCells_45 rfl ?_
          refine r_aload_n C (x := some a0) 48 rfl 1 dX3_addCells_47 rfl ?_
          refine r_getR C 51 rfl ff_X3_23 dX3_addCells_48 h (fun r17 h => ?_)
          refine r_iload C 53 rfl 0 dX3_addCells_51 rfl ?_
          replace h := jdr_some h
          obtain ⟨b18, hr, h⟩ := h
          rw [hr]
          refine r_callV C (ci := 2) mm_X3_38 im_yX2_get se_yX2_get rfl 56 0 0 rfl rfl rfl dX3_addCells_53 rfl rfl (As := [.int x10]) rfl rfl (Nat.le_of_ble_eq_true rfl) ⟨Nat.le_of_ble_eq_true rfl, Nat.le_of_ble_eq_true rfl⟩ ⟨(Nat.le_of_ble_eq_true rfl), (Nat.le_of_ble_eq_true rfl)⟩ (fun o t h => k_X2_get l hst g _ _ _ o t h) h (fun w20 t19 h => ?_) (fun E t h => r_out C (fun x hx => (hE x hx).elim) (Nat.le_refl _) (Nat.le_refl _) h)
          replace h := jvI_some h
          obtain ⟨x21, rfl, h⟩ := h
          refine r_callV C (ci := 1) mm_X3_67 im_yX1_add se_yX1_add rfl 59 0 0 rfl rfl rfl dX3_addCells_56 rfl rfl (As := [.int x21]) rfl rfl (Nat.le_of_ble_eq_true rfl) ⟨Nat.le_of_ble_eq_true rfl, Nat.le_of_ble_eq_true rfl⟩ ⟨(Nat.le_of_ble_eq_true rfl), (Nat.le_of_ble_eq_true rfl)⟩ (fun o t h => k_X1_add l hst g _ _ _ o t h) h (fun w23 t22 h => ?_) (fun E t h => r_out C (fun x hx => (hE x hx).elim) (Nat.le_refl _) (Nat.le_refl _) h)
          replace h := jvV_some h
          obtain ⟨rfl, h⟩ := h
          refine r_aload_n C (x := some a0) 60 rfl 1 dX3_addCells_59 rfl ?_
          refine r_getR C 63 rfl ff_X3_26 dX3_addCells_60 h (fun r24 h => ?_)
          refine r_iload C 65 rfl 0 dX3_addCells_63 rfl ?_
          replace h := jdr_some h
          obtain ⟨b25, hr, h⟩ := h
          rw [hr]
          refine r_callV C (ci := 2) mm_X3_38 im_yX2_get se_yX2_get rfl 68 0 0 rfl rfl rfl dX3_addCells_65 rfl rfl (As := [.int x10]) rfl rfl (Nat.le_of_ble_eq_true rfl) ⟨Nat.le_of_ble_eq_true rfl, Nat.le_of_ble_eq_true rfl⟩ ⟨(Nat.le_of_ble_eq_true rfl), (Nat.le_of_ble_eq_true rfl)⟩ (fun o t h => k_X2_get l hst g _ _ _ o t h) h (fun w27 t26 h => ?_) (fun E t h => r_out C (fun x hx => (hE x hx).elim) (Nat.le_refl _) (Nat.le_refl _) h)
          replace h := jvI_some h
          obtain ⟨x28, rfl, h⟩ := h
          refine r_if_eq C 85 71 rfl dX3_addCells_68 (by decide) h (fun h => ?_) (fun h => ?_)
          · refine r_iload C 87 rfl 6 dX3_addCells_85 rfl ?_
            exact r_iret C dX3_addCells_87 (Nat.le_refl _) (Nat.le_refl _) h
          · refine r_aload C (x := some a5) 73 rfl 5 dX3_addCells_71 rfl ?_
            refine r_aload_n C (x := some a0) 74 rfl 1 dX3_addCells_73 rfl ?_
            refine r_getR C 77 rfl ff_X3_26 dX3_addCells_74 h (fun r29 h => ?_)
            refine r_iload C 79 rfl 0 dX3_addCells_77 rfl ?_
            replace h := jdr_some h
            obtain ⟨b30, hr, h⟩ := h
            rw [hr]
            refine r_callV C (ci := 2) mm_X3_38 im_yX2_get se_yX2_get rfl 82 0 0 rfl rfl rfl dX3_addCells_79 rfl rfl (As := [.int x10]) rfl rfl (Nat.le_of_ble_eq_true rfl) ⟨Nat.le_of_ble_eq_true rfl, Nat.le_of_ble_eq_true rfl⟩ ⟨(Nat.le_of_ble_eq_true rfl), (Nat.le_of_ble_eq_true rfl)⟩ (fun o t h => k_X2_get l hst g _ _ _ o t h) h (fun w32 t31 h => ?_) (fun E t h => r_out C (fun x hx => (hE x hx).elim) (Nat.le_refl _) (Nat.le_refl _) h)
            replace h := jvI_some h
            obtain ⟨x33, rfl, h⟩ := h
            refine r_callV C (ci := 1) mm_X3_67 im_yX1_add se_yX1_add rfl 85 0 0 rfl rfl rfl dX3_addCells_82 rfl rfl (As := [.int x33]) rfl rfl (Nat.le_of_ble_eq_true rfl) ⟨Nat.le_of_ble_eq_true rfl, Nat.le_of_ble_eq_true rfl⟩ ⟨(Nat.le_of_ble_eq_true rfl), (Nat.le_of_ble_eq_true rfl)⟩ (fun o t h => k_X1_add l hst g _ _ _ o t h) h (fun w35 t34 h => ?_) (fun E t h => r_out C (fun x hx => (hE x hx).elim) (Nat.le_refl _) (Nat.le_refl _) h)
            replace h := jvV_some h
            obtain ⟨rfl, h⟩ := h
            refine r_iload C 87 rfl 6 dX3_addCells_85 rfl ?_
            exact r_iret C dX3_addCells_87 (Nat.le_refl _) (Nat.le_refl _) h
set_option maxHeartbeats 4000000 in
set_option maxRecDepth 100000 in
theorem k_X3_addCells (l : Launch) (hst : l.stackTraces = false) (g : jG)   (a0 : Nat) (a1 : Nat) (v2 : Int32) (v3 : Int32) (v4 : Int32) (a5 : Nat) (σ : Hp) (o : jO) (τ : Hp) (h : J_X3_addCells a0 a1 v2 v3 v4 a5 σ = some (o, τ)) : jMet l g yX3_addCells (Cond.code yX3_addCells cX3_addCells 8 (some FieldType.int) :: gT) ({ frames := 3, cells := 0, slots := 0, locals := 58 } : Room) 0 0 [.ref a0, .ref a1, .int v2, .int v3, .int v4, .ref a5] σ o τ := by
  refine j_start l hst (own := RX3) (by decide) rfl (Nat.le_of_ble_eq_true rfl) ?_
  intro p e s m args below meth c C hE hin
  unfold J_X3_addCells at h
  show jW p l e ({ frames := 3, cells := 0, slots := 0, locals := 58 } : Room) s m args below meth c g (jQ below g o τ args s 0 0) 0 0 0 [(0, .ref a0), (1, .ref a1), (2, .int v2), (3, .int v3), (4, .int v4), (5, .ref a5)] [] σ
  refine r_iload_n C 1 rfl 3 dX3_addCells_0 rfl ?_
  refine r_istore C 3 rfl [(6, .int v3), (0, .ref a0), (1, .ref a1), (2, .int v2), (3, .int v3), (4, .int v4), (5, .ref a5)] dX3_addCells_1 (by decide) rfl ?_
  refine r_lv [1, 2, 3, 5, 6, 0] rfl ?_
  refine w_X3_addCells_L3 l hst  C hE   jN a0 a1 v2 v4 a5 v3 σ h

def J_X3_translate_L36b   (rc : Nat → Nat → Int32 → Int32 → Nat → Int32 → Int32 → Int32 → Hp → jR) (a0 : Nat) (a1 : Nat) (v3 : Int32) (v4 : Int32) (a5 : Nat) (v7 : Int32) (v8 : Int32) (v9 : Int32) (t0 : Hp) : jR := (if v3 ≤ v9 then some (.inl none, t0) else jj (fun (x8 : Int32) (t9 : Hp) => rc a0 a1 v3 v4 a5 v7 x8 (v9 + 1) t9) (fun j78 => (if v9 = v8 then jcv t0 a0 3 (J_X3_addCells a0 a1 v9 (if (v3 - v9) < v7 then (v3 - v9) else v7) v4 a5 t0) (fun w11 t10 => jvI w11 (fun x12 => j78 (v8 + x12) t10)) (fun E t => some (.inr E, t)) else j78 v8 t0)))
def J_X3_translate_L36   : Nat → Nat → Nat → Int32 → Int32 → Nat → Int32 → Int32 → Int32 → Hp → jR
  | 0 => fun _ _ _ _ _ _ _ _ _ => none
  | n + 1 => J_X3_translate_L36b   (J_X3_translate_L36   n)
def J_X3_translate  (a0 : Nat) (a1 : Nat) (v2 : Int32) (v3 : Int32) (v4 : Int32) (a5 : Nat) (σ : Hp) : jR := jcv σ a0 3 (J_X3_placeOfException a0 a1 v2 v3 σ) (fun w2 t1 => jvI w2 (fun x3 => jj (fun (x4 : Int32) (t5 : Hp) => jj (fun (x6 : Int32) (t7 : Hp) => J_X3_translate_L36   jN a0 a1 v3 v4 a5 x6 v2 v2 t7) (fun j28 => (if x4 = 0 then j28 4 t5 else j28 1 t5))) (fun j16 => (if x3 = ((-1)) then j16 0 t1 else j16 1 t1)))) (fun E t => some (.inr E, t))
set_option maxHeartbeats 4000000 in
set_option maxRecDepth 100000 in
theorem w_X3_translate_L36 (l : Launch) (hst : l.stackTraces = false) {p : Program} {e : Env} {s : State} {m : MethodId} {args : Array Value} {below : List Frame} {meth : Method} {c : Code} {g : jG} {o : jO} {τ : Hp}  (C : jC p l s m args meth c g RX3 cX3_translate 11 none) (hE : ∀ x ∈ c.exceptionTable.toList, False)  : ∀ (n : Nat) (a0 : Nat) (a1 : Nat) (v3 : Int32) (v4 : Int32) (a5 : Nat) (v7 : Int32) (v8 : Int32) (v9 : Int32) (t0 : Hp), J_X3_translate_L36   n a0 a1 v3 v4 a5 v7 v8 v9 t0 = some (o, τ) → jW p l e ({ frames := 5, cells := 0, slots := 0, locals := 104 } : Room) s m args below meth c g (jQ below g o τ args s 0 0) 0 0 36 [(0, .ref a0), (1, .ref a1), (3, .int v3), (4, .int v4), (5, .ref a5), (7, .int v7), (8, .int v8), (9, .int v9)] [] t0 := by
  intro n
  induction n with
  | zero => intro a0 a1 v3 v4 a5 v7 v8 v9 t0 h; cases h
  | succ n ih =>
    intro a0 a1 v3 v4 a5 v7 v8 v9 t0 h
    skip
    have h : J_X3_translate_L36b   (J_X3_translate_L36   n) a0 a1 v3 v4 a5 v7 v8 v9 t0 = some (o, τ) := h
    unfold J_X3_translate_L36b at h
    refine r_iload C 38 rfl 7 dX3_translate_36 rfl ?_
    refine r_iload_n C 39 rfl 2 dX3_translate_38 rfl ?_
    refine r_icmp_ge C 84 42 rfl dX3_translate_39 (by decide) h (fun h => ?_) (fun h => ?_)
    · exact r_vret C dX3_translate_84 (Nat.le_refl _) (Nat.le_refl _) h
    · refine r_iload C 44 rfl 7 dX3_translate_42 rfl ?_
      refine r_iload C 46 rfl 6 dX3_translate_44 rfl ?_
      obtain ⟨j78, hj78E, h⟩ := jj_some h
      have hj78 : ∀ (x8 : Int32) (t9 : Hp), j78 x8 t9 = some (o, τ) → jW p l e ({ frames := 5, cells := 0, slots := 0, locals := 104 } : Room) s m args below meth c g (jQ below g o τ args s 0 0) 0 0 78 [(0, .ref a0), (1, .ref a1), (3, .int v3), (4, .int v4), (5, .ref a5), (7, .int v7), (8, .int x8), (9, .int v9)] [] t9 := by
        subst hj78E
        intro x8 t9 h
        refine r_iinc C (v := v9 + 1) 81 rfl 7 [(9, .int (v9 + 1)), (0, .ref a0), (1, .ref a1), (3, .int v3), (4, .int v4), (5, .ref a5), (7, .int v7), (8, .int x8)] dX3_translate_78 rfl rfl (by decide) rfl ?_
        refine r_goto C 36 dX3_translate_81 (by decide) ?_
        refine r_lv [1, 2, 3, 4, 5, 6, 7, 0] rfl ?_
        exact ih a0 a1 v3 v4 a5 v7 x8 (v9 + 1) t9 h
      clear hj78E
      refine r_icmp_ne C 78 49 rfl dX3_translate_46 (by decide) h (fun h => ?_) (fun h => ?_)
      · exact hj78 v8 t0 h
      · refine r_iload C 51 rfl 5 dX3_translate_49 rfl ?_
        refine r_iload_n C 52 rfl 2 dX3_translate_51 rfl ?_
        refine r_iload C 54 rfl 7 dX3_translate_52 rfl ?_
        refine r_isub C 55 rfl dX3_translate_54 ?_
        refine r_mmin C 58 rfl ml_X3_80 st_mmin ini_m cd_mmin dX3_translate_55 (Nat.le_of_ble_eq_true rfl) (Nat.le_of_ble_eq_true rfl) (Nat.le_refl _) (Nat.le_refl _) ?_
        refine r_istore C 60 rfl [(10, .int (if (v3 - v9) < v7 then (v3 - v9) else v7)), (0, .ref a0), (1, .ref a1), (3, .int v3), (4, .int v4), (5, .ref a5), (7, .int v7), (8, .int v8), (9, .int v9)] dX3_translate_58 (by decide) rfl ?_
        refine r_iload C 62 rfl 7 dX3_translate_60 rfl ?_
        refine r_aload_n C (x := some a0) 63 rfl 1 dX3_translate_62 rfl ?_
        refine r_aload_n C (x := some a1) 64 rfl 2 dX3_translate_63 rfl ?_
        refine r_iload C 66 rfl 8 dX3_translate_64 rfl ?_
        refine r_iload C 68 rfl 0 dX3_translate_66 rfl ?_
        refine r_iload C 70 rfl 4 dX3_translate_68 rfl ?_
        refine r_aload C (x := some a5) 72 rfl 5 dX3_translate_70 rfl ?_
        refine r_callV C (ci := 3) mm_X3_86 im_yX3_addCells se_yX3_addCells rfl 75 0 0 rfl rfl rfl dX3_translate_72 rfl rfl (As := [.ref a1, .int v9, .int (if (v3 - v9) < v7 then (v3 - v9) else v7), .int v4, .ref a5]) rfl rfl (Nat.le_of_ble_eq_true rfl) ⟨Nat.le_of_ble_eq_true rfl, Nat.le_of_ble_eq_true rfl⟩ ⟨(Nat.le_of_ble_eq_true rfl), (Nat.le_of_ble_eq_true rfl)⟩ (fun o t h => k_X3_addCells l hst g _ _ _ _ _ _ _ o t h) h (fun w11 t10 h => ?_) (fun E t h => r_out C (fun x hx => (hE x hx).elim) (Nat.le_refl _) (Nat.le_refl _) h)
        replace h := jvI_some h
        obtain ⟨x12, rfl, h⟩ := h
        refine r_iadd C 76 rfl dX3_translate_75 ?_
        refine r_istore C 78 rfl [(8, .int (v8 + x12)), (10, .int (if (v3 - v9) < v7 then (v3 - v9) else v7)), (0, .ref a0), (1, .ref a1), (3, .int v3), (4, .int v4), (5, .ref a5), (7, .int v7), (9, .int v9)] dX3_translate_76 (by decide) rfl ?_
        refine r_lv [2, 3, 4, 5, 6, 7, 0, 8] rfl ?_
        exact hj78 (v8 + x12) t10 h
set_option maxHeartbeats 4000000 in
set_option maxRecDepth 100000 in
theorem k_X3_translate (l : Launch) (hst : l.stackTraces = false) (g : jG)   (a0 : Nat) (a1 : Nat) (v2 : Int32) (v3 : Int32) (v4 : Int32) (a5 : Nat) (σ : Hp) (o : jO) (τ : Hp) (h : J_X3_translate a0 a1 v2 v3 v4 a5 σ = some (o, τ)) : jMet l g yX3_translate (Cond.code yX3_translate cX3_translate 11 none :: gT) ({ frames := 5, cells := 0, slots := 0, locals := 104 } : Room) 0 0 [.ref a0, .ref a1, .int v2, .int v3, .int v4, .ref a5] σ o τ := by
  refine j_start l hst (own := RX3) (by decide) rfl (Nat.le_of_ble_eq_true rfl) ?_
  intro p e s m args below meth c C hE hin
  unfold J_X3_translate at h
  show jW p l e ({ frames := 5, cells := 0, slots := 0, locals := 104 } : Room) s m args below meth c g (jQ below g o τ args s 0 0) 0 0 0 [(0, .ref a0), (1, .ref a1), (2, .int v2), (3, .int v3), (4, .int v4), (5, .ref a5)] [] σ
  refine r_aload_n C (x := some a0) 1 rfl 0 dX3_translate_0 rfl ?_
  refine r_aload_n C (x := some a1) 2 rfl 1 dX3_translate_1 rfl ?_
  refine r_iload_n C 3 rfl 2 dX3_translate_2 rfl ?_
  refine r_iload_n C 4 rfl 3 dX3_translate_3 rfl ?_
  refine r_callV C (ci := 3) mm_X3_76 im_yX3_placeOfException se_yX3_placeOfException rfl 7 0 0 rfl rfl rfl dX3_translate_4 rfl rfl (As := [.ref a1, .int v2, .int v3]) rfl rfl (Nat.le_of_ble_eq_true rfl) ⟨Nat.le_of_ble_eq_true rfl, Nat.le_of_ble_eq_true rfl⟩ ⟨(Nat.le_of_ble_eq_true rfl), (Nat.le_of_ble_eq_true rfl)⟩ (fun o t h => k_X3_placeOfException l hst g _ _ _ _ _ o t h) h (fun w2 t1 h => ?_) (fun E t h => r_out C (fun x hx => (hE x hx).elim) (Nat.le_refl _) (Nat.le_refl _) h)
  replace h := jvI_some h
  obtain ⟨x3, rfl, h⟩ := h
  refine r_iconst C (v := (-1)) 8 rfl dX3_translate_7 (by decide) ?_
  obtain ⟨j16, hj16E, h⟩ := jj_some h
  have hj16 : ∀ (x4 : Int32) (t5 : Hp), j16 x4 t5 = some (o, τ) → jW p l e ({ frames := 5, cells := 0, slots := 0, locals := 104 } : Room) s m args below meth c g (jQ below g o τ args s 0 0) 0 0 16 [(0, .ref a0), (1, .ref a1), (2, .int v2), (3, .int v3), (4, .int v4), (5, .ref a5)] [.int x4] t5 := by
    subst hj16E
    intro x4 t5 h
    refine r_istore C 18 rfl [(6, .int x4), (0, .ref a0), (1, .ref a1), (2, .int v2), (3, .int v3), (4, .int v4), (5, .ref a5)] dX3_translate_16 (by decide) rfl ?_
    refine r_iload C 20 rfl 0 dX3_translate_18 rfl ?_
    obtain ⟨j28, hj28E, h⟩ := jj_some h
    have hj28 : ∀ (x6 : Int32) (t7 : Hp), j28 x6 t7 = some (o, τ) → jW p l e ({ frames := 5, cells := 0, slots := 0, locals := 104 } : Room) s m args below meth c g (jQ below g o τ args s 0 0) 0 0 28 [(0, .ref a0), (1, .ref a1), (2, .int v2), (3, .int v3), (4, .int v4), (5, .ref a5)] [.int x6] t7 := by
      subst hj28E
      intro x6 t7 h
      refine r_istore C 30 rfl [(7, .int x6), (0, .ref a0), (1, .ref a1), (2, .int v2), (3, .int v3), (4, .int v4), (5, .ref a5)] dX3_translate_28 (by decide) rfl ?_
      refine r_iload_n C 31 rfl 3 dX3_translate_30 rfl ?_
      refine r_istore C 33 rfl [(8, .int v2), (7, .int x6), (0, .ref a0), (1, .ref a1), (2, .int v2), (3, .int v3), (4, .int v4), (5, .ref a5)] dX3_translate_31 (by decide) rfl ?_
      refine r_iload_n C 34 rfl 4 dX3_translate_33 rfl ?_
      refine r_istore C 36 rfl [(9, .int v2), (8, .int v2), (7, .int x6), (0, .ref a0), (1, .ref a1), (2, .int v2), (3, .int v3), (4, .int v4), (5, .ref a5)] dX3_translate_34 (by decide) rfl ?_
      refine r_lv [3, 4, 6, 7, 8, 2, 1, 0] rfl ?_
      refine w_X3_translate_L36 l hst  C hE   jN a0 a1 v3 v4 a5 x6 v2 v2 t7 h
    clear hj28E
    refine r_if_eq C 27 23 rfl dX3_translate_20 (by decide) h (fun h => ?_) (fun h => ?_)
    · refine r_iconst C (v := 4) 28 rfl dX3_translate_27 (by decide) ?_
      refine r_lv [1, 2, 3, 4, 5, 6] rfl ?_
      exact hj28 4 t5 h
    · refine r_iconst C (v := 1) 24 rfl dX3_translate_23 (by decide) ?_
      refine r_goto C 28 dX3_translate_24 (by decide) ?_
      refine r_lv [1, 2, 3, 4, 5, 6] rfl ?_
      exact hj28 1 t5 h
  clear hj16E
  refine r_icmp_eq C 15 11 rfl dX3_translate_8 (by decide) h (fun h => ?_) (fun h => ?_)
  · refine r_iconst C (v := 0) 16 rfl dX3_translate_15 (by decide) ?_
    exact hj16 0 t1 h
  · refine r_iconst C (v := 1) 12 rfl dX3_translate_11 (by decide) ?_
    refine r_goto C 16 dX3_translate_12 (by decide) ?_
    exact hj16 1 t1 h
