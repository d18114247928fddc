def J_X4_init  (a0 : Nat) (σ : Hp) : jR := jnw σ 1 (fun b1 t2 => jcv t2 b1 1 (J_X1_init 40 80 b1 40 80 t2) (fun w4 t3 => jvV w4 (jpR t3 a0 4 0 (some b1) (fun t5 => jnw t5 1 (fun b6 t7 => jcv t7 b6 1 (J_X1_init 40 160 b6 40 160 t7) (fun w9 t8 => jvV w9 (jpR t8 a0 4 1 (some b6) (fun t10 => jnw t10 2 (fun b11 t12 => jcv t12 b11 2 (J_X2_init 80 b11 80 t12) (fun w14 t13 => jvV w14 (jpR t13 a0 4 2 (some b11) (fun t15 => jnw t15 1 (fun b16 t17 => jcv t17 b16 1 (J_X1_init 60 160 b16 60 160 t17) (fun w19 t18 => jvV w19 (jpR t18 a0 4 3 (some b16) (fun t20 => jnw t20 2 (fun b21 t22 => jcv t22 b21 2 (J_X2_init 40 b21 40 t22) (fun w24 t23 => jvV w24 (jpR t23 a0 4 4 (some b21) (fun t25 => jnw t25 1 (fun b26 t27 => jcv t27 b26 1 (J_X1_init 60 160 b26 60 160 t27) (fun w29 t28 => jvV w29 (jpR t28 a0 4 5 (some b26) (fun t30 => jpI t30 a0 4 6 1 (fun t31 => some (.inl none, t31))))) (fun E t => some (.inr E, t)))))) (fun E t => some (.inr E, t)))))) (fun E t => some (.inr E, t)))))) (fun E t => some (.inr E, t)))))) (fun E t => some (.inr E, t)))))) (fun E t => some (.inr E, t)))
set_option maxHeartbeats 4000000 in
set_option maxRecDepth 100000 in
theorem k_X4_init (l : Launch) (hst : l.stackTraces = false) (g : jG)   (a0 : Nat) (σ : Hp) (o : jO) (τ : Hp) (h : J_X4_init a0 σ = some (o, τ)) : jMet l g yX4_init (Cond.code yX4_init cX4_init 1 none :: gT) ({ frames := 3, cells := 24, slots := 908, locals := 69 } : Room) 24 908 [.ref a0] σ o τ := by
  refine j_start l hst (own := RX4) (by decide) rfl (Nat.le_of_ble_eq_true rfl) ?_
  intro p e s m args below meth c C hE hin
  unfold J_X4_init at h
  show jW p l e ({ frames := 3, cells := 24, slots := 908, locals := 69 } : Room) s m args below meth c g (jQ below g o τ args s 24 908) 0 0 0 [(0, .ref a0)] [] σ
  refine r_aload_n C (x := some a0) 1 rfl 0 dX4_init_0 rfl ?_
  refine r_objInit C 4 rfl ml_X4_3 im_oi cd_oi dX4_init_1 (Nat.le_of_ble_eq_true rfl) (Nat.le_of_ble_eq_true rfl) ?_
  refine r_aload_n C (x := some a0) 5 rfl 0 dX4_init_4 rfl ?_
  refine r_new C 8 rfl tyX1 (ci := 1) rfl tyX1_ok nw_X1 lay_X1 cl_X4_9 ins_X1 ini_X1 dX4_init_5 (Nat.le_of_ble_eq_true rfl) (Nat.le_of_ble_eq_true rfl) h (fun b1 t2 h => ?_)
  refine r_dup C 9 rfl dX4_init_8 rfl ?_
  refine r_bipush C (v := 40) 11 rfl dX4_init_9 (by decide) ?_
  refine r_bipush C (v := 80) 13 rfl dX4_init_11 (by decide) ?_
  refine r_callI C (ci := 1) mm_X4_11 im_yX1_init rfl 16 5 126 rfl rfl rfl dX4_init_13 rfl rfl (As := [.int 40, .int 80]) rfl rfl (Nat.le_of_ble_eq_true rfl) ⟨Nat.le_of_ble_eq_true rfl, Nat.le_of_ble_eq_true rfl⟩ ⟨(Nat.le_of_ble_eq_true rfl), (Nat.le_of_ble_eq_true rfl)⟩ (fun o t h => k_X1_init l hst g 40 80 (by decide) (by decide) _ _ _ _ o t h) h (fun w4 t3 h => ?_) (fun E t h => r_out C (fun x hx => (hE x hx).elim) (Nat.le_of_ble_eq_true rfl) (Nat.le_of_ble_eq_true rfl) h)
  replace h := jvV_some h
  obtain ⟨rfl, h⟩ := h
  refine r_putRF C hin (v := (some b1)) 19 rfl fp_X4_14 dX4_init_16 h (fun t5 h => ?_)
  refine r_aload_n C (x := some a0) 20 rfl 0 dX4_init_19 rfl ?_
  refine r_new C 23 rfl tyX1 (ci := 1) rfl tyX1_ok nw_X1 lay_X1 cl_X4_9 ins_X1 ini_X1 dX4_init_20 (Nat.le_of_ble_eq_true rfl) (Nat.le_of_ble_eq_true rfl) h (fun b6 t7 h => ?_)
  refine r_dup C 24 rfl dX4_init_23 rfl ?_
  refine r_bipush C (v := 40) 26 rfl dX4_init_24 (by decide) ?_
  refine r_sipush C (v := 160) 29 rfl dX4_init_26 (by decide) ?_
  refine r_callI C (ci := 1) mm_X4_11 im_yX1_init rfl 32 10 332 rfl rfl rfl dX4_init_29 rfl rfl (As := [.int 40, .int 160]) rfl rfl (Nat.le_of_ble_eq_true rfl) ⟨Nat.le_of_ble_eq_true rfl, Nat.le_of_ble_eq_true rfl⟩ ⟨(Nat.le_of_ble_eq_true rfl), (Nat.le_of_ble_eq_true rfl)⟩ (fun o t h => k_X1_init l hst g 40 160 (by decide) (by decide) _ _ _ _ o t h) h (fun w9 t8 h => ?_) (fun E t h => r_out C (fun x hx => (hE x hx).elim) (Nat.le_of_ble_eq_true rfl) (Nat.le_of_ble_eq_true rfl) h)
  replace h := jvV_some h
  obtain ⟨rfl, h⟩ := h
  refine r_putRF C hin (v := (some b6)) 35 rfl fp_X4_20 dX4_init_32 h (fun t10 h => ?_)
  refine r_aload_n C (x := some a0) 36 rfl 0 dX4_init_35 rfl ?_
  refine r_new C 39 rfl tyX2 (ci := 2) rfl tyX2_ok nw_X2 lay_X2 cl_X4_23 ins_X2 ini_X2 dX4_init_36 (Nat.le_of_ble_eq_true rfl) (Nat.le_of_ble_eq_true rfl) h (fun b11 t12 h => ?_)
  refine r_dup C 40 rfl dX4_init_39 rfl ?_
  refine r_bipush C (v := 80) 42 rfl dX4_init_40 (by decide) ?_
  refine r_callI C (ci := 2) mm_X4_25 im_yX2_init rfl 45 12 414 rfl rfl rfl dX4_init_42 rfl rfl (As := [.int 80]) rfl rfl (Nat.le_of_ble_eq_true rfl) ⟨Nat.le_of_ble_eq_true rfl, Nat.le_of_ble_eq_true rfl⟩ ⟨(Nat.le_of_ble_eq_true rfl), (Nat.le_of_ble_eq_true rfl)⟩ (fun o t h => k_X2_init l hst g 80 (by decide) _ _ _ o t h) h (fun w14 t13 h => ?_) (fun E t h => r_out C (fun x hx => (hE x hx).elim) (Nat.le_of_ble_eq_true rfl) (Nat.le_of_ble_eq_true rfl) h)
  replace h := jvV_some h
  obtain ⟨rfl, h⟩ := h
  refine r_putRF C hin (v := (some b11)) 48 rfl fp_X4_28 dX4_init_45 h (fun t15 h => ?_)
  refine r_aload_n C (x := some a0) 49 rfl 0 dX4_init_48 rfl ?_
  refine r_new C 52 rfl tyX1 (ci := 1) rfl tyX1_ok nw_X1 lay_X1 cl_X4_9 ins_X1 ini_X1 dX4_init_49 (Nat.le_of_ble_eq_true rfl) (Nat.le_of_ble_eq_true rfl) h (fun b16 t17 h => ?_)
  refine r_dup C 53 rfl dX4_init_52 rfl ?_
  refine r_bipush C (v := 60) 55 rfl dX4_init_53 (by decide) ?_
  refine r_sipush C (v := 160) 58 rfl dX4_init_55 (by decide) ?_
  refine r_callI C (ci := 1) mm_X4_11 im_yX1_init rfl 61 17 640 rfl rfl rfl dX4_init_58 rfl rfl (As := [.int 60, .int 160]) rfl rfl (Nat.le_of_ble_eq_true rfl) ⟨Nat.le_of_ble_eq_true rfl, Nat.le_of_ble_eq_true rfl⟩ ⟨(Nat.le_of_ble_eq_true rfl), (Nat.le_of_ble_eq_true rfl)⟩ (fun o t h => k_X1_init l hst g 60 160 (by decide) (by decide) _ _ _ _ o t h) h (fun w19 t18 h => ?_) (fun E t h => r_out C (fun x hx => (hE x hx).elim) (Nat.le_of_ble_eq_true rfl) (Nat.le_of_ble_eq_true rfl) h)
  replace h := jvV_some h
  obtain ⟨rfl, h⟩ := h
  refine r_putRF C hin (v := (some b16)) 64 rfl fp_X4_32 dX4_init_61 h (fun t20 h => ?_)
  refine r_aload_n C (x := some a0) 65 rfl 0 dX4_init_64 rfl ?_
  refine r_new C 68 rfl tyX2 (ci := 2) rfl tyX2_ok nw_X2 lay_X2 cl_X4_23 ins_X2 ini_X2 dX4_init_65 (Nat.le_of_ble_eq_true rfl) (Nat.le_of_ble_eq_true rfl) h (fun b21 t22 h => ?_)
  refine r_dup C 69 rfl dX4_init_68 rfl ?_
  refine r_bipush C (v := 40) 71 rfl dX4_init_69 (by decide) ?_
  refine r_callI C (ci := 2) mm_X4_25 im_yX2_init rfl 74 19 682 rfl rfl rfl dX4_init_71 rfl rfl (As := [.int 40]) rfl rfl (Nat.le_of_ble_eq_true rfl) ⟨Nat.le_of_ble_eq_true rfl, Nat.le_of_ble_eq_true rfl⟩ ⟨(Nat.le_of_ble_eq_true rfl), (Nat.le_of_ble_eq_true rfl)⟩ (fun o t h => k_X2_init l hst g 40 (by decide) _ _ _ o t h) h (fun w24 t23 h => ?_) (fun E t h => r_out C (fun x hx => (hE x hx).elim) (Nat.le_of_ble_eq_true rfl) (Nat.le_of_ble_eq_true rfl) h)
  replace h := jvV_some h
  obtain ⟨rfl, h⟩ := h
  refine r_putRF C hin (v := (some b21)) 77 rfl fp_X4_35 dX4_init_74 h (fun t25 h => ?_)
  refine r_aload_n C (x := some a0) 78 rfl 0 dX4_init_77 rfl ?_
  refine r_new C 81 rfl tyX1 (ci := 1) rfl tyX1_ok nw_X1 lay_X1 cl_X4_9 ins_X1 ini_X1 dX4_init_78 (Nat.le_of_ble_eq_true rfl) (Nat.le_of_ble_eq_true rfl) h (fun b26 t27 h => ?_)
  refine r_dup C 82 rfl dX4_init_81 rfl ?_
  refine r_bipush C (v := 60) 84 rfl dX4_init_82 (by decide) ?_
  refine r_sipush C (v := 160) 87 rfl dX4_init_84 (by decide) ?_
  refine r_callI C (ci := 1) mm_X4_11 im_yX1_init rfl 90 24 908 rfl rfl rfl dX4_init_87 rfl rfl (As := [.int 60, .int 160]) rfl rfl (Nat.le_of_ble_eq_true rfl) ⟨Nat.le_of_ble_eq_true rfl, Nat.le_of_ble_eq_true rfl⟩ ⟨(Nat.le_of_ble_eq_true rfl), (Nat.le_of_ble_eq_true rfl)⟩ (fun o t h => k_X1_init l hst g 60 160 (by decide) (by decide) _ _ _ _ o t h) h (fun w29 t28 h => ?_) (fun E t h => r_out C (fun x hx => (hE x hx).elim) (Nat.le_refl _) (Nat.le_refl _) h)
  replace h := jvV_some h
  obtain ⟨rfl, h⟩ := h
  refine r_putRF C hin (v := (some b26)) 93 rfl fp_X4_38 dX4_init_90 h (fun t30 h => ?_)
  refine r_aload_n C (x := some a0) 94 rfl 0 dX4_init_93 rfl ?_
  refine r_iconst C (v := 1) 95 rfl dX4_init_94 (by decide) ?_
  refine r_putI C 98 rfl fp_X4_41 dX4_init_95 h (fun t31 h => ?_)
  exact r_vret C dX4_init_98 (Nat.le_refl _) (Nat.le_refl _) h

def J_X4_take_L76b   (rc : Nat → Int32 → Hp → jR) (a0 : Nat) (v3 : Int32) (t0 : Hp) : jR := jgR t0 a0 4 0 (fun r17 => jdr r17 (fun b18 => jcv t0 b18 1 (J_X1_count b18 t0) (fun w20 t19 => jvI w20 (fun x21 => (if (2 * x21) ≤ v3 then some (.inl none, t19) else jgR t19 a0 4 2 (fun r22 => jdr r22 (fun b23 => jcv t19 b23 2 (J_X2_add b23 45 t19) (fun w25 t24 => jvV w25 (rc a0 (v3 + 1) t24)) (fun E t => some (.inr E, t))))))) (fun E t => some (.inr E, t))))
def J_X4_take_L76   : Nat → Nat → Int32 → Hp → jR
  | 0 => fun _ _ _ => none
  | n + 1 => J_X4_take_L76b   (J_X4_take_L76   n)
def J_X4_take_L14b   (rc : Nat → Nat → Int32 → Hp → jR) (a0 : Nat) (a1 : Nat) (v3 : Int32) (t0 : Hp) : jR := jcv t0 a1 2 (J_X2_count a1 t0) (fun w7 t6 => jvI w7 (fun x8 => (if x8 ≤ v3 then jgR t6 a0 4 0 (fun r9 => jdr r9 (fun b10 => jcv t6 b10 1 (J_X1_cut b10 t6) (fun w12 t11 => jvV w12 (jgR t11 a0 4 2 (fun r13 => jdr r13 (fun b14 => jcv t11 b14 2 (J_X2_empty b14 t11) (fun w16 t15 => jvV w16 (J_X4_take_L76   jN a0 0 t15)) (fun E t => some (.inr E, t)))))) (fun E t => some (.inr E, t)))) else jcv t6 a1 2 (J_X2_get a1 v3 t6) (fun w27 t26 => jvI w27 (fun x28 => jj (fun (t29 : Hp) => rc a0 a1 (v3 + 1) t29) (fun j54 => (if x28 = 32 then jgR t26 a0 4 0 (fun r37 => jdr r37 (fun b38 => jcv t26 b38 1 (J_X1_cut b38 t26) (fun w40 t39 => jvV w40 (j54 t39)) (fun E t => some (.inr E, t)))) else jgR t26 a0 4 0 (fun r30 => jdr r30 (fun b31 => jcv t26 a1 2 (J_X2_get a1 v3 t26) (fun w33 t32 => jvI w33 (fun x34 => jcv t32 b31 1 (J_X1_add b31 x34 t32) (fun w36 t35 => jvV w36 (j54 t35)) (fun E t => some (.inr E, t)))) (fun E t => some (.inr E, t)))))))) (fun E t => some (.inr E, t))))) (fun E t => some (.inr E, t))
def J_X4_take_L14   : Nat → Nat → Nat → Int32 → Hp → jR
  | 0 => fun _ _ _ _ => none
  | n + 1 => J_X4_take_L14b   (J_X4_take_L14   n)
def J_X4_take  (a0 : Nat) (a1 : Nat) (v2 : Int32) (σ : Hp) : jR := jpI σ a0 4 6 v2 (fun t1 => jgR t1 a0 4 0 (fun r2 => jdr r2 (fun b3 => jcv t1 b3 1 (J_X1_empty b3 t1) (fun w5 t4 => jvV w5 (J_X4_take_L14   jN a0 a1 0 t4)) (fun E t => some (.inr E, t)))))
set_option maxHeartbeats 4000000 in
set_option maxRecDepth 100000 in
theorem w_X4_take_L76 (l : Launch) (hst : l.stackTraces = false) {p : Program} {e : Env} {s : State} {m : MethodId} {args : Array Value} {below : List Frame} {meth : Method} {c : Code} {g : jG} {o : jO} {τ : Hp}  (C : jC p l s m args meth c g RX4 cX4_take 4 none) (hE : ∀ x ∈ c.exceptionTable.toList, False)  : ∀ (n : Nat) (a0 : Nat) (v3 : Int32) (t0 : Hp), J_X4_take_L76   n a0 v3 t0 = some (o, τ) → jW p l e ({ frames := 5, cells := 0, slots := 0, locals := 94 } : Room) s m args below meth c g (jQ below g o τ args s 0 0) 0 0 76 [(0, .ref a0), (3, .int v3)] [] t0 := by
  intro n
  induction n with
  | zero => intro a0 v3 t0 h; cases h
  | succ n ih =>
    intro a0 v3 t0 h
    skip
    have h : J_X4_take_L76b   (J_X4_take_L76   n) a0 v3 t0 = some (o, τ) := h
    unfold J_X4_take_L76b at h
    refine r_iload_n C 77 rfl 1 dX4_take_76 rfl ?_
    refine r_iconst C (v := 2) 78 rfl dX4_take_77 (by decide) ?_
    refine r_aload_n C (x := some a0) 79 rfl 0 dX4_take_78 rfl ?_
    refine r_getR C 82 rfl ff_X4_14 dX4_take_79 h (fun r17 h => ?_)
    replace h := jdr_some h
    obtain ⟨b18, hr, h⟩ := h
    rw [hr]
    refine r_callV C (ci := 1) mm_X4_63 im_yX1_count se_yX1_count rfl 85 0 0 rfl rfl rfl dX4_take_82 rfl rfl (As := []) rfl rfl (Nat.le_of_ble_eq_true rfl) ⟨Nat.le_of_ble_eq_true rfl, Nat.le_of_ble_eq_true rfl⟩ ⟨(Nat.le_of_ble_eq_true rfl), (Nat.le_of_ble_eq_true rfl)⟩ (fun o t h => k_X1_count l hst g _ _ o t h) h (fun w20 t19 h => ?_) (fun E t h => r_out C (fun x hx => (hE x hx).elim) (Nat.le_refl _) (Nat.le_refl _) h)
    replace h := jvI_some h
    obtain ⟨x21, rfl, h⟩ := h
    refine r_imul C 86 rfl dX4_take_85 ?_
    refine r_icmp_ge C 104 89 rfl dX4_take_86 (by decide) h (fun h => ?_) (fun h => ?_)
    · exact r_vret C dX4_take_104 (Nat.le_refl _) (Nat.le_refl _) h
    · refine r_aload_n C (x := some a0) 90 rfl 0 dX4_take_89 rfl ?_
      refine r_getR C 93 rfl ff_X4_28 dX4_take_90 h (fun r22 h => ?_)
      refine r_bipush C (v := 45) 95 rfl dX4_take_93 (by decide) ?_
      replace h := jdr_some h
      obtain ⟨b23, hr, h⟩ := h
      rw [hr]
      refine r_callV C (ci := 2) mm_X4_64 im_yX2_add se_yX2_add rfl 98 0 0 rfl rfl rfl dX4_take_95 rfl rfl (As := [.int 45]) rfl rfl (Nat.le_of_ble_eq_true rfl) ⟨Nat.le_of_ble_eq_true rfl, Nat.le_of_ble_eq_true rfl⟩ ⟨(Nat.le_of_ble_eq_true rfl), (Nat.le_of_ble_eq_true rfl)⟩ (fun o t h => k_X2_add l hst g _ _ _ o t h) h (fun w25 t24 h => ?_) (fun E t h => r_out C (fun x hx => (hE x hx).elim) (Nat.le_refl _) (Nat.le_refl _) h)
      replace h := jvV_some h
      obtain ⟨rfl, h⟩ := h
      refine r_iinc C (v := v3 + 1) 101 rfl 1 [(3, .int (v3 + 1)), (0, .ref a0)] dX4_take_98 rfl rfl (by decide) rfl ?_
      refine r_goto C 76 dX4_take_101 (by decide) ?_
      refine r_lv [1, 0] rfl ?_
      exact ih a0 (v3 + 1) t24 h
set_option maxHeartbeats 4000000 in
set_option maxRecDepth 100000 in
theorem w_X4_take_L14 (l : Launch) (hst : l.stackTraces = false) {p : Program} {e : Env} {s : State} {m : MethodId} {args : Array Value} {below : List Frame} {meth : Method} {c : Code} {g : jG} {o : jO} {τ : Hp}  (C : jC p l s m args meth c g RX4 cX4_take 4 none) (hE : ∀ x ∈ c.exceptionTable.toList, False)  : ∀ (n : Nat) (a0 : Nat) (a1 : Nat) (v3 : Int32) (t0 : Hp), J_X4_take_L14   n a0 a1 v3 t0 = some (o, τ) → jW p l e ({ frames := 5, cells := 0, slots := 0, locals := 94 } : Room) s m args below meth c g (jQ below g o τ args s 0 0) 0 0 14 [(0, .ref a0), (1, .ref a1), (3, .int v3)] [] t0 := by
  intro n
  induction n with
  | zero => intro a0 a1 v3 t0 h; cases h
  | succ n ih =>
    intro a0 a1 v3 t0 h
    skip
    have h : J_X4_take_L14b   (J_X4_take_L14   n) a0 a1 v3 t0 = some (o, τ) := h
    unfold J_X4_take_L14b at h
    refine r_iload_n C 15 rfl 2 dX4_take_14 rfl ?_
    refine r_aload_n C (x := some a1) 16 rfl 1 dX4_take_15 rfl ?_
    refine r_callV C (ci := 2) mm_X4_48 im_yX2_count se_yX2_count rfl 19 0 0 rfl rfl rfl dX4_take_16 rfl rfl (As := []) rfl rfl (Nat.le_of_ble_eq_true rfl) ⟨Nat.le_of_ble_eq_true rfl, Nat.le_of_ble_eq_true rfl⟩ ⟨(Nat.le_of_ble_eq_true rfl), (Nat.le_of_ble_eq_true rfl)⟩ (fun o t h => k_X2_count l hst g _ _ o t h) h (fun w7 t6 h => ?_) (fun E t h => r_out C (fun x hx => (hE x hx).elim) (Nat.le_refl _) (Nat.le_refl _) h)
    replace h := jvI_some h
    obtain ⟨x8, rfl, h⟩ := h
    refine r_icmp_ge C 60 22 rfl dX4_take_19 (by decide) h (fun h => ?_) (fun h => ?_)
    · refine r_aload_n C (x := some a0) 61 rfl 0 dX4_take_60 rfl ?_
      refine r_getR C 64 rfl ff_X4_14 dX4_take_61 h (fun r9 h => ?_)
      replace h := jdr_some h
      obtain ⟨b10, hr, h⟩ := h
      rw [hr]
      refine r_callV C (ci := 1) mm_X4_56 im_yX1_cut se_yX1_cut rfl 67 0 0 rfl rfl rfl dX4_take_64 rfl rfl (As := []) rfl rfl (Nat.le_of_ble_eq_true rfl) ⟨Nat.le_of_ble_eq_true rfl, Nat.le_of_ble_eq_true rfl⟩ ⟨(Nat.le_of_ble_eq_true rfl), (Nat.le_of_ble_eq_true rfl)⟩ (fun o t h => k_X1_cut l hst g _ _ o t h) h (fun w12 t11 h => ?_) (fun E t h => r_out C (fun x hx => (hE x hx).elim) (Nat.le_refl _) (Nat.le_refl _) h)
      replace h := jvV_some h
      obtain ⟨rfl, h⟩ := h
      refine r_aload_n C (x := some a0) 68 rfl 0 dX4_take_67 rfl ?_
      refine r_getR C 71 rfl ff_X4_28 dX4_take_68 h (fun r13 h => ?_)
      replace h := jdr_some h
      obtain ⟨b14, hr, h⟩ := h
      rw [hr]
      refine r_callV C (ci := 2) mm_X4_62 im_yX2_empty se_yX2_empty rfl 74 0 0 rfl rfl rfl dX4_take_71 rfl rfl (As := []) rfl rfl (Nat.le_of_ble_eq_true rfl) ⟨Nat.le_of_ble_eq_true rfl, Nat.le_of_ble_eq_true rfl⟩ ⟨(Nat.le_of_ble_eq_true rfl), (Nat.le_of_ble_eq_true rfl)⟩ (fun o t h => k_X2_empty l hst g _ _ o t h) h (fun w16 t15 h => ?_) (fun E t h => r_out C (fun x hx => (hE x hx).elim) (Nat.le_refl _) (Nat.le_refl _) h)
      replace h := jvV_some h
      obtain ⟨rfl, h⟩ := h
      refine r_iconst C (v := 0) 75 rfl dX4_take_74 (by decide) ?_
      refine r_istore_n C 76 rfl [(3, .int 0), (0, .ref a0), (1, .ref a1)] dX4_take_75 (by decide) rfl ?_
      refine r_lv [1, 0] rfl ?_
      refine w_X4_take_L76 l hst  C hE   jN a0 0 t15 h
    · refine r_aload_n C (x := some a1) 23 rfl 1 dX4_take_22 rfl ?_
      refine r_iload_n C 24 rfl 2 dX4_take_23 rfl ?_
      refine r_callV C (ci := 2) mm_X4_52 im_yX2_get se_yX2_get rfl 27 0 0 rfl rfl rfl dX4_take_24 rfl rfl (As := [.int v3]) rfl rfl (Nat.le_of_ble_eq_true rfl) ⟨Nat.le_of_ble_eq_true rfl, Nat.le_of_ble_eq_true rfl⟩ ⟨(Nat.le_of_ble_eq_true rfl), (Nat.le_of_ble_eq_true rfl)⟩ (fun o t h => k_X2_get l hst g _ _ _ o t h) h (fun w27 t26 h => ?_) (fun E t h => r_out C (fun x hx => (hE x hx).elim) (Nat.le_refl _) (Nat.le_refl _) h)
      replace h := jvI_some h
      obtain ⟨x28, rfl, h⟩ := h
      refine r_bipush C (v := 32) 29 rfl dX4_take_27 (by decide) ?_
      obtain ⟨j54, hj54E, h⟩ := jj_some h
      have hj54 : ∀ (t29 : Hp), j54 t29 = some (o, τ) → jW p l e ({ frames := 5, cells := 0, slots := 0, locals := 94 } : Room) s m args below meth c g (jQ below g o τ args s 0 0) 0 0 54 [(0, .ref a0), (1, .ref a1), (3, .int v3)] [] t29 := by
        subst hj54E
        intro t29 h
        refine r_iinc C (v := v3 + 1) 57 rfl 2 [(3, .int (v3 + 1)), (0, .ref a0), (1, .ref a1)] dX4_take_54 rfl rfl (by decide) rfl ?_
        refine r_goto C 14 dX4_take_57 (by decide) ?_
        refine r_lv [1, 2, 0] rfl ?_
        exact ih a0 a1 (v3 + 1) t29 h
      clear hj54E
      refine r_icmp_ne C 42 32 rfl dX4_take_29 (by decide) h (fun h => ?_) (fun h => ?_)
      · refine r_aload_n C (x := some a0) 43 rfl 0 dX4_take_42 rfl ?_
        refine r_getR C 46 rfl ff_X4_14 dX4_take_43 h (fun r30 h => ?_)
        refine r_aload_n C (x := some a1) 47 rfl 1 dX4_take_46 rfl ?_
        refine r_iload_n C 48 rfl 2 dX4_take_47 rfl ?_
        replace h := jdr_some h
        obtain ⟨b31, hr, h⟩ := h
        rw [hr]
        refine r_callV C (ci := 2) mm_X4_52 im_yX2_get se_yX2_get rfl 51 0 0 rfl rfl rfl dX4_take_48 rfl rfl (As := [.int v3]) rfl rfl (Nat.le_of_ble_eq_true rfl) ⟨Nat.le_of_ble_eq_true rfl, Nat.le_of_ble_eq_true rfl⟩ ⟨(Nat.le_of_ble_eq_true rfl), (Nat.le_of_ble_eq_true rfl)⟩ (fun o t h => k_X2_get l hst g _ _ _ o t h) h (fun w33 t32 h => ?_) (fun E t h => r_out C (fun x hx => (hE x hx).elim) (Nat.le_refl _) (Nat.le_refl _) h)
        replace h := jvI_some h
        obtain ⟨x34, rfl, h⟩ := h
        refine r_callV C (ci := 1) mm_X4_59 im_yX1_add se_yX1_add rfl 54 0 0 rfl rfl rfl dX4_take_51 rfl rfl (As := [.int x34]) rfl rfl (Nat.le_of_ble_eq_true rfl) ⟨Nat.le_of_ble_eq_true rfl, Nat.le_of_ble_eq_true rfl⟩ ⟨(Nat.le_of_ble_eq_true rfl), (Nat.le_of_ble_eq_true rfl)⟩ (fun o t h => k_X1_add l hst g _ _ _ o t h) h (fun w36 t35 h => ?_) (fun E t h => r_out C (fun x hx => (hE x hx).elim) (Nat.le_refl _) (Nat.le_refl _) h)
        replace h := jvV_some h
        obtain ⟨rfl, h⟩ := h
        exact hj54 t35 h
      · refine r_aload_n C (x := some a0) 33 rfl 0 dX4_take_32 rfl ?_
        refine r_getR C 36 rfl ff_X4_14 dX4_take_33 h (fun r37 h => ?_)
        replace h := jdr_some h
        obtain ⟨b38, hr, h⟩ := h
        rw [hr]
        refine r_callV C (ci := 1) mm_X4_56 im_yX1_cut se_yX1_cut rfl 39 0 0 rfl rfl rfl dX4_take_36 rfl rfl (As := []) rfl rfl (Nat.le_of_ble_eq_true rfl) ⟨Nat.le_of_ble_eq_true rfl, Nat.le_of_ble_eq_true rfl⟩ ⟨(Nat.le_of_ble_eq_true rfl), (Nat.le_of_ble_eq_true rfl)⟩ (fun o t h => k_X1_cut l hst g _ _ o t h) h (fun w40 t39 h => ?_) (fun E t h => r_out C (fun x hx => (hE x hx).elim) (Nat.le_refl _) (Nat.le_refl _) h)
        replace h := jvV_some h
        obtain ⟨rfl, h⟩ := h
        refine r_goto C 54 dX4_take_39 (by decide) ?_
        exact hj54 t39 h
set_option maxHeartbeats 4000000 in
set_option maxRecDepth 100000 in
theorem k_X4_take (l : Launch) (hst : l.stackTraces = false) (g : jG)   (a0 : Nat) (a1 : Nat) (v2 : Int32) (σ : Hp) (o : jO) (τ : Hp) (h : J_X4_take a0 a1 v2 σ = some (o, τ)) : jMet l g yX4_take (Cond.code yX4_take cX4_take 4 none :: gT) ({ frames := 5, cells := 0, slots := 0, locals := 94 } : Room) 0 0 [.ref a0, .ref a1, .int v2] σ o τ := by
  refine j_start l hst (own := RX4) (by decide) rfl (Nat.le_of_ble_eq_true rfl) ?_
  intro p e s m args below meth c C hE hin
  unfold J_X4_take at h
  show jW p l e ({ frames := 5, cells := 0, slots := 0, locals := 94 } : Room) s m args below meth c g (jQ below g o τ args s 0 0) 0 0 0 [(0, .ref a0), (1, .ref a1), (2, .int v2)] [] σ
  refine r_aload_n C (x := some a0) 1 rfl 0 dX4_take_0 rfl ?_
  refine r_iload_n C 2 rfl 2 dX4_take_1 rfl ?_
  refine r_putI C 5 rfl fp_X4_41 dX4_take_2 h (fun t1 h => ?_)
  refine r_aload_n C (x := some a0) 6 rfl 0 dX4_take_5 rfl ?_
  refine r_getR C 9 rfl ff_X4_14 dX4_take_6 h (fun r2 h => ?_)
  replace h := jdr_some h
  obtain ⟨b3, hr, h⟩ := h
  rw [hr]
  refine r_callV C (ci := 1) mm_X4_45 im_yX1_empty se_yX1_empty rfl 12 0 0 rfl rfl rfl dX4_take_9 rfl rfl (As := []) rfl rfl (Nat.le_of_ble_eq_true rfl) ⟨Nat.le_of_ble_eq_true rfl, Nat.le_of_ble_eq_true rfl⟩ ⟨(Nat.le_of_ble_eq_true rfl), (Nat.le_of_ble_eq_true rfl)⟩ (fun o t h => k_X1_empty l hst g _ _ o t h) h (fun w5 t4 h => ?_) (fun E t h => r_out C (fun x hx => (hE x hx).elim) (Nat.le_refl _) (Nat.le_refl _) h)
  replace h := jvV_some h
  obtain ⟨rfl, h⟩ := h
  refine r_iconst C (v := 0) 13 rfl dX4_take_12 (by decide) ?_
  refine r_istore_n C 14 rfl [(3, .int 0), (0, .ref a0), (1, .ref a1), (2, .int v2)] dX4_take_13 (by decide) rfl ?_
  refine r_lv [1, 2, 0] rfl ?_
  refine w_X4_take_L14 l hst  C hE   jN a0 a1 0 t4 h

def J_X4_putMark  (a0 : Nat) (v1 : Int32) (v2 : Int32) (v3 : Int32) (σ : Hp) : jR := jgR σ a0 4 2 (fun r1 => jdr r1 (fun b2 => jcv σ b2 2 (J_X2_set b2 ((2 * v2) + v1) v3 σ) (fun w4 t3 => jvV w4 (some (.inl none, t3))) (fun E t => some (.inr E, t))))
set_option maxHeartbeats 4000000 in
set_option maxRecDepth 100000 in
theorem k_X4_putMark (l : Launch) (hst : l.stackTraces = false) (g : jG)   (a0 : Nat) (v1 : Int32) (v2 : Int32) (v3 : Int32) (σ : Hp) (o : jO) (τ : Hp) (h : J_X4_putMark a0 v1 v2 v3 σ = some (o, τ)) : jMet l g yX4_putMark (Cond.code yX4_putMark cX4_putMark 4 none :: gT) ({ frames := 2, cells := 0, slots := 0, locals := 34 } : Room) 0 0 [.ref a0, .int v1, .int v2, .int v3] σ o τ := by
  refine j_start l hst (own := RX4) (by decide) rfl (Nat.le_of_ble_eq_true rfl) ?_
  intro p e s m args below meth c C hE hin
  unfold J_X4_putMark at h
  show jW p l e ({ frames := 2, cells := 0, slots := 0, locals := 34 } : Room) s m args below meth c g (jQ below g o τ args s 0 0) 0 0 0 [(0, .ref a0), (1, .int v1), (2, .int v2), (3, .int v3)] [] σ
  refine r_aload_n C (x := some a0) 1 rfl 0 dX4_putMark_0 rfl ?_
  refine r_getR C 4 rfl ff_X4_28 dX4_putMark_1 h (fun r1 h => ?_)
  refine r_iconst C (v := 2) 5 rfl dX4_putMark_4 (by decide) ?_
  refine r_iload_n C 6 rfl 2 dX4_putMark_5 rfl ?_
  refine r_imul C 7 rfl dX4_putMark_6 ?_
  refine r_iload_n C 8 rfl 1 dX4_putMark_7 rfl ?_
  refine r_iadd C 9 rfl dX4_putMark_8 ?_
  refine r_iload_n C 10 rfl 3 dX4_putMark_9 rfl ?_
  replace h := jdr_some h
  obtain ⟨b2, hr, h⟩ := h
  rw [hr]
  refine r_callV C (ci := 2) mm_X4_113 im_yX2_set se_yX2_set rfl 13 0 0 rfl rfl rfl dX4_putMark_10 rfl rfl (As := [.int ((2 * v2) + v1), .int v3]) rfl rfl (Nat.le_of_ble_eq_true rfl) ⟨Nat.le_of_ble_eq_true rfl, Nat.le_of_ble_eq_true rfl⟩ ⟨(Nat.le_of_ble_eq_true rfl), (Nat.le_of_ble_eq_true rfl)⟩ (fun o t h => k_X2_set l hst g _ _ _ _ o t h) h (fun w4 t3 h => ?_) (fun E t h => r_out C (fun x hx => (hE x hx).elim) (Nat.le_refl _) (Nat.le_refl _) h)
  replace h := jvV_some h
  obtain ⟨rfl, h⟩ := h
  exact r_vret C dX4_putMark_13 (Nat.le_refl _) (Nat.le_refl _) h

def J_X4_unmark_L2b   (rc : Nat → Int32 → Int32 → Hp → jR) (a0 : Nat) (v1 : Int32) (v2 : Int32) (t0 : Hp) : jR := (if 2 ≤ v2 then some (.inl none, t0) else jcv t0 a0 4 (J_X4_putMark a0 v2 v1 45 t0) (fun w2 t1 => jvV w2 (rc a0 v1 (v2 + 1) t1)) (fun E t => some (.inr E, t)))
def J_X4_unmark_L2   : Nat → Nat → Int32 → Int32 → Hp → jR
  | 0 => fun _ _ _ _ => none
  | n + 1 => J_X4_unmark_L2b   (J_X4_unmark_L2   n)
def J_X4_unmark  (a0 : Nat) (v1 : Int32) (σ : Hp) : jR := J_X4_unmark_L2   jN a0 v1 0 σ
set_option maxHeartbeats 4000000 in
set_option maxRecDepth 100000 in
theorem w_X4_unmark_L2 (l : Launch) (hst : l.stackTraces = false) {p : Program} {e : Env} {s : State} {m : MethodId} {args : Array Value} {below : List Frame} {meth : Method} {c : Code} {g : jG} {o : jO} {τ : Hp}  (C : jC p l s m args meth c g RX4 cX4_unmark 3 none) (hE : ∀ x ∈ c.exceptionTable.toList, False)  : ∀ (n : Nat) (a0 : Nat) (v1 : Int32) (v2 : Int32) (t0 : Hp), J_X4_unmark_L2   n a0 v1 v2 t0 = some (o, τ) → jW p l e ({ frames := 3, cells := 0, slots := 0, locals := 57 } : Room) s m args below meth c g (jQ below g o τ args s 0 0) 0 0 2 [(0, .ref a0), (1, .int v1), (2, .int v2)] [] t0 := by
  intro n
  induction n with
  | zero => intro a0 v1 v2 t0 h; cases h
  | succ n ih =>
    intro a0 v1 v2 t0 h
    skip
    have h : J_X4_unmark_L2b   (J_X4_unmark_L2   n) a0 v1 v2 t0 = some (o, τ) := h
    unfold J_X4_unmark_L2b at h
    refine r_iload_n C 3 rfl 2 dX4_unmark_2 rfl ?_
    refine r_iconst C (v := 2) 4 rfl dX4_unmark_3 (by decide) ?_
    refine r_icmp_ge C 21 7 rfl dX4_unmark_4 (by decide) h (fun h => ?_) (fun h => ?_)
    · exact r_vret C dX4_unmark_21 (Nat.le_refl _) (Nat.le_refl _) h
    · refine r_aload_n C (x := some a0) 8 rfl 0 dX4_unmark_7 rfl ?_
      refine r_iload_n C 9 rfl 2 dX4_unmark_8 rfl ?_
      refine r_iload_n C 10 rfl 1 dX4_unmark_9 rfl ?_
      refine r_bipush C (v := 45) 12 rfl dX4_unmark_10 (by decide) ?_
      refine r_callV C (ci := 4) mm_X4_116 im_yX4_putMark se_yX4_putMark rfl 15 0 0 rfl rfl rfl dX4_unmark_12 rfl rfl (As := [.int v2, .int v1, .int 45]) rfl rfl (Nat.le_of_ble_eq_true rfl) ⟨Nat.le_of_ble_eq_true rfl, Nat.le_of_ble_eq_true rfl⟩ ⟨(Nat.le_of_ble_eq_true rfl), (Nat.le_of_ble_eq_true rfl)⟩ (fun o t h => k_X4_putMark l hst g _ _ _ _ _ o t h) h (fun w2 t1 h => ?_) (fun E t h => r_out C (fun x hx => (hE x hx).elim) (Nat.le_refl _) (Nat.le_refl _) h)
      replace h := jvV_some h
      obtain ⟨rfl, h⟩ := h
      refine r_iinc C (v := v2 + 1) 18 rfl 2 [(2, .int (v2 + 1)), (0, .ref a0), (1, .int v1)] dX4_unmark_15 rfl rfl (by decide) rfl ?_
      refine r_goto C 2 dX4_unmark_18 (by decide) ?_
      refine r_lv [1, 2, 0] rfl ?_
      exact ih a0 v1 (v2 + 1) t1 h
set_option maxHeartbeats 4000000 in
set_option maxRecDepth 100000 in
theorem k_X4_unmark (l : Launch) (hst : l.stackTraces = false) (g : jG)   (a0 : Nat) (v1 : Int32) (σ : Hp) (o : jO) (τ : Hp) (h : J_X4_unmark a0 v1 σ = some (o, τ)) : jMet l g yX4_unmark (Cond.code yX4_unmark cX4_unmark 3 none :: gT) ({ frames := 3, cells := 0, slots := 0, locals := 57 } : Room) 0 0 [.ref a0, .int v1] σ o τ := by
  refine j_start l hst (own := RX4) (by decide) rfl (Nat.le_of_ble_eq_true rfl) ?_
  intro p e s m args below meth c C hE hin
  unfold J_X4_unmark at h
  show jW p l e ({ frames := 3, cells := 0, slots := 0, locals := 57 } : Room) s m args below meth c g (jQ below g o τ args s 0 0) 0 0 0 [(0, .ref a0), (1, .int v1)] [] σ
  refine r_iconst C (v := 0) 1 rfl dX4_unmark_0 (by decide) ?_
  refine r_istore_n C 2 rfl [(2, .int 0), (0, .ref a0), (1, .int v1)] dX4_unmark_1 (by decide) rfl ?_
  refine r_lv [1, 2, 0] rfl ?_
  refine w_X4_unmark_L2 l hst  C hE   jN a0 v1 0 σ h

def J_X4_translate_L9b   (rc : Nat → Nat → Nat → Int32 → Int32 → Hp → jR) (a0 : Nat) (a1 : Nat) (a2 : Nat) (v3 : Int32) (v4 : Int32) (t0 : Hp) : jR := jgR t0 a0 4 0 (fun r3 => jdr r3 (fun b4 => jcv t0 b4 1 (J_X1_count b4 t0) (fun w6 t5 => jvI w6 (fun x7 => (if x7 ≤ v4 then jgR t5 a0 4 1 (fun r8 => jdr r8 (fun b9 => jcv t5 b9 1 (J_X1_takeOver b9 a2 t5) (fun w11 t10 => jvV w11 (jrt .boolean v3 t10)) (fun E t => some (.inr E, t)))) else jgR t5 a0 4 0 (fun r12 => jdr r12 (fun b13 => jcv t5 b13 1 (J_X1_uncut b13 t5) (fun w15 t14 => jvA w15 (fun b16 => jgR t14 a0 4 0 (fun r17 => jdr r17 (fun b18 => jcv t14 b18 1 (J_X1_startOf b18 v4 t14) (fun w20 t19 => jvI w20 (fun x21 => jgR t19 a0 4 0 (fun r22 => jdr r22 (fun b23 => jcv t19 b23 1 (J_X1_endOf b23 v4 t19) (fun w25 t24 => jvI w25 (fun x26 => jgI t24 a0 4 6 (fun x27 => jcv t24 a1 3 (J_X3_translate a1 b16 x21 x26 x27 a2 t24) (fun w29 t28 => jvV w29 (jcv t28 a2 1 (J_X1_cut a2 t28) (fun w31 t30 => jvV w31 (jgR t30 a0 4 1 (fun r32 => jdr r32 (fun b33 => jcv t30 a2 1 (J_X1_shares a2 v4 b33 t30) (fun w35 t34 => jvI w35 (fun x36 => jj (fun (x37 : Int32) (t38 : Hp) => rc a0 a1 a2 x37 (v4 + 1) t38) (fun j80 => (if x36 = 0 then jcv t34 a0 4 (J_X4_unmark a0 v4 t34) (fun w40 t39 => jvV w40 (j80 1 t39)) (fun E t => some (.inr E, t)) else j80 v3 t34)))) (fun E t => some (.inr E, t)))))) (fun E t => some (.inr E, t)))) (fun E t => some (.inr E, t))))) (fun E t => some (.inr E, t)))))) (fun E t => some (.inr E, t)))))) (fun E t => some (.inr E, t))))))) (fun E t => some (.inr E, t))))
def J_X4_translate_L9   : Nat → Nat → Nat → Nat → Int32 → Int32 → Hp → jR
  | 0 => fun _ _ _ _ _ _ => none
  | n + 1 => J_X4_translate_L9b   (J_X4_translate_L9   n)
def J_X4_translate  (a0 : Nat) (a1 : Nat) (a2 : Nat) (σ : Hp) : jR := jcv σ a2 1 (J_X1_empty a2 σ) (fun w2 t1 => jvV w2 (J_X4_translate_L9   jN a0 a1 a2 0 0 t1)) (fun E t => some (.inr E, t))
set_option maxHeartbeats 4000000 in
set_option maxRecDepth 100000 in
theorem w_X4_translate_L9 (l : Launch) (hst : l.stackTraces = false) {p : Program} {e : Env} {s : State} {m : MethodId} {args : Array Value} {below : List Frame} {meth : Method} {c : Code} {g : jG} {o : jO} {τ : Hp}  (C : jC p l s m args meth c g RX4 cX4_translate 5 (some FieldType.boolean)) (hE : ∀ x ∈ c.exceptionTable.toList, False)  : ∀ (n : Nat) (a0 : Nat) (a1 : Nat) (a2 : Nat) (v3 : Int32) (v4 : Int32) (t0 : Hp), J_X4_translate_L9   n a0 a1 a2 v3 v4 t0 = some (o, τ) → jW p l e ({ frames := 6, cells := 0, slots := 0, locals := 134 } : Room) s m args below meth c g (jQ below g o τ args s 0 0) 0 0 9 [(0, .ref a0), (1, .ref a1), (2, .ref a2), (3, .int v3), (4, .int v4)] [] t0 := by
  intro n
  induction n with
  | zero => intro a0 a1 a2 v3 v4 t0 h; cases h
  | succ n ih =>
    intro a0 a1 a2 v3 v4 t0 h
    skip
    have h : J_X4_translate_L9b   (J_X4_translate_L9   n) a0 a1 a2 v3 v4 t0 = some (o, τ) := h
    unfold J_X4_translate_L9b at h
    refine r_iload C 11 rfl 4 dX4_translate_9 rfl ?_
    refine r_aload_n C (x := some a0) 12 rfl 0 dX4_translate_11 rfl ?_
    refine r_getR C 15 rfl ff_X4_14 dX4_translate_12 h (fun r3 h => ?_)
    replace h := jdr_some h
    obtain ⟨b4, hr, h⟩ := h
    rw [hr]
    refine r_callV C (ci := 1) mm_X4_63 im_yX1_count se_yX1_count rfl 18 0 0 rfl rfl rfl dX4_translate_15 rfl rfl (As := []) rfl rfl (Nat.le_of_ble_eq_true rfl) ⟨Nat.le_of_ble_eq_true rfl, Nat.le_of_ble_eq_true rfl⟩ ⟨(Nat.le_of_ble_eq_true rfl), (Nat.le_of_ble_eq_true rfl)⟩ (fun o t h => k_X1_count l hst g _ _ o t h) h (fun w6 t5 h => ?_) (fun E t h => r_out C (fun x hx => (hE x hx).elim) (Nat.le_refl _) (Nat.le_refl _) h)
    replace h := jvI_some h
    obtain ⟨x7, rfl, h⟩ := h
    refine r_icmp_ge C 86 21 rfl dX4_translate_18 (by decide) h (fun h => ?_) (fun h => ?_)
    · refine r_aload_n C (x := some a0) 87 rfl 0 dX4_translate_86 rfl ?_
      refine r_getR C 90 rfl ff_X4_20 dX4_translate_87 h (fun r8 h => ?_)
      refine r_aload_n C (x := some a2) 91 rfl 2 dX4_translate_90 rfl ?_
      replace h := jdr_some h
      obtain ⟨b9, hr, h⟩ := h
      rw [hr]
      refine r_callV C (ci := 1) mm_X4_88 im_yX1_takeOver se_yX1_takeOver rfl 94 0 0 rfl rfl rfl dX4_translate_91 rfl rfl (As := [.ref a2]) rfl rfl (Nat.le_of_ble_eq_true rfl) ⟨Nat.le_of_ble_eq_true rfl, Nat.le_of_ble_eq_true rfl⟩ ⟨(Nat.le_of_ble_eq_true rfl), (Nat.le_of_ble_eq_true rfl)⟩ (fun o t h => k_X1_takeOver l hst g _ _ _ o t h) h (fun w11 t10 h => ?_) (fun E t h => r_out C (fun x hx => (hE x hx).elim) (Nat.le_refl _) (Nat.le_refl _) h)
      replace h := jvV_some h
      obtain ⟨rfl, h⟩ := h
      refine r_iload_n C 95 rfl 3 dX4_translate_94 rfl ?_
      exact r_zret C (fun _ => rfl) dX4_translate_95 (Nat.le_refl _) (Nat.le_refl _) h
    · refine r_aload_n C (x := some a1) 22 rfl 1 dX4_translate_21 rfl ?_
      refine r_aload_n C (x := some a0) 23 rfl 0 dX4_translate_22 rfl ?_
      refine r_getR C 26 rfl ff_X4_14 dX4_translate_23 h (fun r12 h => ?_)
      replace h := jdr_some h
      obtain ⟨b13, hr, h⟩ := h
      rw [hr]
      refine r_callV C (ci := 1) mm_X4_65 im_yX1_uncut se_yX1_uncut rfl 29 0 0 rfl rfl rfl dX4_translate_26 rfl rfl (As := []) rfl rfl (Nat.le_of_ble_eq_true rfl) ⟨Nat.le_of_ble_eq_true rfl, Nat.le_of_ble_eq_true rfl⟩ ⟨(Nat.le_of_ble_eq_true rfl), (Nat.le_of_ble_eq_true rfl)⟩ (fun o t h => k_X1_uncut l hst g _ _ o t h) h (fun w15 t14 h => ?_) (fun E t h => r_out C (fun x hx => (hE x hx).elim) (Nat.le_refl _) (Nat.le_refl _) h)
      replace h := jvA_some h
      obtain ⟨b16, rfl, h⟩ := h
      refine r_aload_n C (x := some a0) 30 rfl 0 dX4_translate_29 rfl ?_
      refine r_getR C 33 rfl ff_X4_14 dX4_translate_30 h (fun r17 h => ?_)
      refine r_iload C 35 rfl 4 dX4_translate_33 rfl ?_
      replace h := jdr_some h
      obtain ⟨b18, hr, h⟩ := h
      rw [hr]
      refine r_callV C (ci := 1) mm_X4_69 im_yX1_startOf se_yX1_startOf rfl 38 0 0 rfl rfl rfl dX4_translate_35 rfl rfl (As := [.int v4]) rfl rfl (Nat.le_of_ble_eq_true rfl) ⟨Nat.le_of_ble_eq_true rfl, Nat.le_of_ble_eq_true rfl⟩ ⟨(Nat.le_of_ble_eq_true rfl), (Nat.le_of_ble_eq_true rfl)⟩ (fun o t h => k_X1_startOf l hst g _ _ _ o t h) h (fun w20 t19 h => ?_) (fun E t h => r_out C (fun x hx => (hE x hx).elim) (Nat.le_refl _) (Nat.le_refl _) h)
      replace h := jvI_some h
      obtain ⟨x21, rfl, h⟩ := h
      refine r_aload_n C (x := some a0) 39 rfl 0 dX4_translate_38 rfl ?_
      refine r_getR C 42 rfl ff_X4_14 dX4_translate_39 h (fun r22 h => ?_)
      refine r_iload C 44 rfl 4 dX4_translate_42 rfl ?_
      replace h := jdr_some h
      obtain ⟨b23, hr, h⟩ := h
      rw [hr]
      refine r_callV C (ci := 1) mm_X4_72 im_yX1_endOf se_yX1_endOf rfl 47 0 0 rfl rfl rfl dX4_translate_44 rfl rfl (As := [.int v4]) rfl rfl (Nat.le_of_ble_eq_true rfl) ⟨Nat.le_of_ble_eq_true rfl, Nat.le_of_ble_eq_true rfl⟩ ⟨(Nat.le_of_ble_eq_true rfl), (Nat.le_of_ble_eq_true rfl)⟩ (fun o t h => k_X1_endOf l hst g _ _ _ o t h) h (fun w25 t24 h => ?_) (fun E t h => r_out C (fun x hx => (hE x hx).elim) (Nat.le_refl _) (Nat.le_refl _) h)
      replace h := jvI_some h
      obtain ⟨x26, rfl, h⟩ := h
      refine r_aload_n C (x := some a0) 48 rfl 0 dX4_translate_47 rfl ?_
      refine r_getI C 51 rfl ff_X4_41 dX4_translate_48 h (fun x27 h => ?_)
      refine r_aload_n C (x := some a2) 52 rfl 2 dX4_translate_51 rfl ?_
      refine r_callV C (ci := 3) mm_X4_75 im_yX3_translate se_yX3_translate rfl 55 0 0 rfl rfl rfl dX4_translate_52 rfl rfl (As := [.ref b16, .int x21, .int x26, .int x27, .ref a2]) rfl rfl (Nat.le_of_ble_eq_true rfl) ⟨Nat.le_of_ble_eq_true rfl, Nat.le_of_ble_eq_true rfl⟩ ⟨(Nat.le_of_ble_eq_true rfl), (Nat.le_of_ble_eq_true rfl)⟩ (fun o t h => k_X3_translate l hst g _ _ _ _ _ _ _ o t h) h (fun w29 t28 h => ?_) (fun E t h => r_out C (fun x hx => (hE x hx).elim) (Nat.le_refl _) (Nat.le_refl _) h)
      replace h := jvV_some h
      obtain ⟨rfl, h⟩ := h
      refine r_aload_n C (x := some a2) 56 rfl 2 dX4_translate_55 rfl ?_
      refine r_callV C (ci := 1) mm_X4_56 im_yX1_cut se_yX1_cut rfl 59 0 0 rfl rfl rfl dX4_translate_56 rfl rfl (As := []) rfl rfl (Nat.le_of_ble_eq_true rfl) ⟨Nat.le_of_ble_eq_true rfl, Nat.le_of_ble_eq_true rfl⟩ ⟨(Nat.le_of_ble_eq_true rfl), (Nat.le_of_ble_eq_true rfl)⟩ (fun o t h => k_X1_cut l hst g _ _ o t h) h (fun w31 t30 h => ?_) (fun E t h => r_out C (fun x hx => (hE x hx).elim) (Nat.le_refl _) (Nat.le_refl _) h)
      replace h := jvV_some h
      obtain ⟨rfl, h⟩ := h
      refine r_aload_n C (x := some a2) 60 rfl 2 dX4_translate_59 rfl ?_
      refine r_iload C 62 rfl 4 dX4_translate_60 rfl ?_
      refine r_aload_n C (x := some a0) 63 rfl 0 dX4_translate_62 rfl ?_
      refine r_getR C 66 rfl ff_X4_20 dX4_translate_63 h (fun r32 h => ?_)
      replace h := jdr_some h
      obtain ⟨b33, hr, h⟩ := h
      rw [hr]
      refine r_callV C (ci := 1) mm_X4_81 im_yX1_shares se_yX1_shares rfl 69 0 0 rfl rfl rfl dX4_translate_66 rfl rfl (As := [.int v4, .ref b33]) rfl rfl (Nat.le_of_ble_eq_true rfl) ⟨Nat.le_of_ble_eq_true rfl, Nat.le_of_ble_eq_true rfl⟩ ⟨(Nat.le_of_ble_eq_true rfl), (Nat.le_of_ble_eq_true rfl)⟩ (fun o t h => k_X1_shares l hst g _ _ _ _ o t h) h (fun w35 t34 h => ?_) (fun E t h => r_out C (fun x hx => (hE x hx).elim) (Nat.le_refl _) (Nat.le_refl _) h)
      replace h := jvI_some h
      obtain ⟨x36, rfl, h⟩ := h
      obtain ⟨j80, hj80E, h⟩ := jj_some h
      have hj80 : ∀ (x37 : Int32) (t38 : Hp), j80 x37 t38 = some (o, τ) → jW p l e ({ frames := 6, cells := 0, slots := 0, locals := 134 } : Room) s m args below meth c g (jQ below g o τ args s 0 0) 0 0 80 [(0, .ref a0), (1, .ref a1), (2, .ref a2), (3, .int x37), (4, .int v4)] [] t38 := by
        subst hj80E
        intro x37 t38 h
        refine r_iinc C (v := v4 + 1) 83 rfl 4 [(4, .int (v4 + 1)), (0, .ref a0), (1, .ref a1), (2, .ref a2), (3, .int x37)] dX4_translate_80 rfl rfl (by decide) rfl ?_
        refine r_goto C 9 dX4_translate_83 (by decide) ?_
        refine r_lv [1, 2, 3, 4, 0] rfl ?_
        exact ih a0 a1 a2 x37 (v4 + 1) t38 h
      clear hj80E
      refine r_if_ne C 80 72 rfl dX4_translate_69 (by decide) h (fun h => ?_) (fun h => ?_)
      · exact hj80 v3 t34 h
      · refine r_iconst C (v := 1) 73 rfl dX4_translate_72 (by decide) ?_
        refine r_istore_n C 74 rfl [(3, .int 1), (0, .ref a0), (1, .ref a1), (2, .ref a2), (4, .int v4)] dX4_translate_73 (by decide) rfl ?_
        refine r_aload_n C (x := some a0) 75 rfl 1 dX4_translate_74 rfl ?_
        refine r_iload C 77 rfl 4 dX4_translate_75 rfl ?_
        refine r_callV C (ci := 4) mm_X4_85 im_yX4_unmark se_yX4_unmark rfl 80 0 0 rfl rfl rfl dX4_translate_77 rfl rfl (As := [.int v4]) rfl rfl (Nat.le_of_ble_eq_true rfl) ⟨Nat.le_of_ble_eq_true rfl, Nat.le_of_ble_eq_true rfl⟩ ⟨(Nat.le_of_ble_eq_true rfl), (Nat.le_of_ble_eq_true rfl)⟩ (fun o t h => k_X4_unmark l hst g _ _ _ o t h) h (fun w40 t39 h => ?_) (fun E t h => r_out C (fun x hx => (hE x hx).elim) (Nat.le_refl _) (Nat.le_refl _) h)
        replace h := jvV_some h
        obtain ⟨rfl, h⟩ := h
        refine r_lv [1, 2, 3, 0, 4] rfl ?_
        exact hj80 1 t39 h
set_option maxHeartbeats 4000000 in
set_option maxRecDepth 100000 in
theorem k_X4_translate (l : Launch) (hst : l.stackTraces = false) (g : jG)   (a0 : Nat) (a1 : Nat) (a2 : Nat) (σ : Hp) (o : jO) (τ : Hp) (h : J_X4_translate a0 a1 a2 σ = some (o, τ)) : jMet l g yX4_translate (Cond.code yX4_translate cX4_translate 5 (some FieldType.boolean) :: gT) ({ frames := 6, cells := 0, slots := 0, locals := 134 } : Room) 0 0 [.ref a0, .ref a1, .ref a2] σ o τ := by
  refine j_start l hst (own := RX4) (by decide) rfl (Nat.le_of_ble_eq_true rfl) ?_
  intro p e s m args below meth c C hE hin
  unfold J_X4_translate at h
  show jW p l e ({ frames := 6, cells := 0, slots := 0, locals := 134 } : Room) s m args below meth c g (jQ below g o τ args s 0 0) 0 0 0 [(0, .ref a0), (1, .ref a1), (2, .ref a2)] [] σ
  refine r_iconst C (v := 0) 1 rfl dX4_translate_0 (by decide) ?_
  refine r_istore_n C 2 rfl [(3, .int 0), (0, .ref a0), (1, .ref a1), (2, .ref a2)] dX4_translate_1 (by decide) rfl ?_
  refine r_aload_n C (x := some a2) 3 rfl 3 dX4_translate_2 rfl ?_
  refine r_callV C (ci := 1) mm_X4_45 im_yX1_empty se_yX1_empty rfl 6 0 0 rfl rfl rfl dX4_translate_3 rfl rfl (As := []) rfl rfl (Nat.le_of_ble_eq_true rfl) ⟨Nat.le_of_ble_eq_true rfl, Nat.le_of_ble_eq_true rfl⟩ ⟨(Nat.le_of_ble_eq_true rfl), (Nat.le_of_ble_eq_true rfl)⟩ (fun o t h => k_X1_empty l hst g _ _ o t h) h (fun w2 t1 h => ?_) (fun E t h => r_out C (fun x hx => (hE x hx).elim) (Nat.le_refl _) (Nat.le_refl _) h)
  replace h := jvV_some h
  obtain ⟨rfl, h⟩ := h
  refine r_iconst C (v := 0) 7 rfl dX4_translate_6 (by decide) ?_
  refine r_istore C 9 rfl [(4, .int 0), (3, .int 0), (0, .ref a0), (1, .ref a1), (2, .ref a2)] dX4_translate_7 (by decide) rfl ?_
  refine r_lv [2, 3, 4, 1, 0] rfl ?_
  refine w_X4_translate_L9 l hst  C hE   jN a0 a1 a2 0 0 t1 h

def J_X4_beginWord  (a0 : Nat) (v1 : Int32) (v2 : Int32) (σ : Hp) : jR := jgR σ a0 4 3 (fun r1 => jdr r1 (fun b2 => jcv σ b2 1 (J_X1_uncutSize b2 σ) (fun w4 t3 => jvI w4 (fun x5 => jj (fun (t6 : Hp) => jgR t6 a0 4 3 (fun r7 => jdr r7 (fun b8 => jcv t6 b8 1 (J_X1_cut b8 t6) (fun w10 t9 => jvV w10 (some (.inl none, t9))) (fun E t => some (.inr E, t))))) (fun j32 => (if x5 ≤ 0 then j32 t3 else (if v2 < ((x5 + 1) + v1) then j32 t3 else jgR t3 a0 4 3 (fun r11 => jdr r11 (fun b12 => jcv t3 b12 1 (J_X1_add b12 0 t3) (fun w14 t13 => jvV w14 (some (.inl none, t13))) (fun E t => some (.inr E, t))))))))) (fun E t => some (.inr E, t))))
set_option maxHeartbeats 4000000 in
set_option maxRecDepth 100000 in
theorem k_X4_beginWord (l : Launch) (hst : l.stackTraces = false) (g : jG)   (a0 : Nat) (v1 : Int32) (v2 : Int32) (σ : Hp) (o : jO) (τ : Hp) (h : J_X4_beginWord a0 v1 v2 σ = some (o, τ)) : jMet l g yX4_beginWord (Cond.code yX4_beginWord cX4_beginWord 4 none :: gT) ({ frames := 5, cells := 0, slots := 0, locals := 94 } : Room) 0 0 [.ref a0, .int v1, .int v2] σ o τ := by
  refine j_start l hst (own := RX4) (by decide) rfl (Nat.le_of_ble_eq_true rfl) ?_
  intro p e s m args below meth c C hE hin
  unfold J_X4_beginWord at h
  show jW p l e ({ frames := 5, cells := 0, slots := 0, locals := 94 } : Room) s m args below meth c g (jQ below g o τ args s 0 0) 0 0 0 [(0, .ref a0), (1, .int v1), (2, .int v2)] [] σ
  refine r_aload_n C (x := some a0) 1 rfl 0 dX4_beginWord_0 rfl ?_
  refine r_getR C 4 rfl ff_X4_32 dX4_beginWord_1 h (fun r1 h => ?_)
  replace h := jdr_some h
  obtain ⟨b2, hr, h⟩ := h
  rw [hr]
  refine r_callV C (ci := 1) mm_X4_98 im_yX1_uncutSize se_yX1_uncutSize rfl 7 0 0 rfl rfl rfl dX4_beginWord_4 rfl rfl (As := []) rfl rfl (Nat.le_of_ble_eq_true rfl) ⟨Nat.le_of_ble_eq_true rfl, Nat.le_of_ble_eq_true rfl⟩ ⟨(Nat.le_of_ble_eq_true rfl), (Nat.le_of_ble_eq_true rfl)⟩ (fun o t h => k_X1_uncutSize l hst g _ _ o t h) h (fun w4 t3 h => ?_) (fun E t h => r_out C (fun x hx => (hE x hx).elim) (Nat.le_refl _) (Nat.le_refl _) h)
  replace h := jvI_some h
  obtain ⟨x5, rfl, h⟩ := h
  refine r_istore_n C 8 rfl [(3, .int x5), (0, .ref a0), (1, .int v1), (2, .int v2)] dX4_beginWord_7 (by decide) rfl ?_
  refine r_iload_n C 9 rfl 0 dX4_beginWord_8 rfl ?_
  obtain ⟨j32, hj32E, h⟩ := jj_some h
  have hj32 : ∀ (t6 : Hp), j32 t6 = some (o, τ) → jW p l e ({ frames := 5, cells := 0, slots := 0, locals := 94 } : Room) s m args below meth c g (jQ below g o τ args s 0 0) 0 0 32 [(0, .ref a0)] [] t6 := by
    subst hj32E
    intro t6 h
    refine r_aload_n C (x := some a0) 33 rfl 0 dX4_beginWord_32 rfl ?_
    refine r_getR C 36 rfl ff_X4_32 dX4_beginWord_33 h (fun r7 h => ?_)
    replace h := jdr_some h
    obtain ⟨b8, hr, h⟩ := h
    rw [hr]
    refine r_callV C (ci := 1) mm_X4_56 im_yX1_cut se_yX1_cut rfl 39 0 0 rfl rfl rfl dX4_beginWord_36 rfl rfl (As := []) rfl rfl (Nat.le_of_ble_eq_true rfl) ⟨Nat.le_of_ble_eq_true rfl, Nat.le_of_ble_eq_true rfl⟩ ⟨(Nat.le_of_ble_eq_true rfl), (Nat.le_of_ble_eq_true rfl)⟩ (fun o t h => k_X1_cut l hst g _ _ o t h) h (fun w10 t9 h => ?_) (fun E t h => r_out C (fun x hx => (hE x hx).elim) (Nat.le_refl _) (Nat.le_refl _) h)
    replace h := jvV_some h
    obtain ⟨rfl, h⟩ := h
    exact r_vret C dX4_beginWord_39 (Nat.le_refl _) (Nat.le_refl _) h
  clear hj32E
  refine r_if_le C 32 12 rfl dX4_beginWord_9 (by decide) h (fun h => ?_) (fun h => ?_)
  · refine r_lv [1] rfl ?_
    exact hj32 t3 h
  · refine r_iload_n C 13 rfl 0 dX4_beginWord_12 rfl ?_
    refine r_iconst C (v := 1) 14 rfl dX4_beginWord_13 (by decide) ?_
    refine r_iadd C 15 rfl dX4_beginWord_14 ?_
    refine r_iload_n C 16 rfl 2 dX4_beginWord_15 rfl ?_
    refine r_iadd C 17 rfl dX4_beginWord_16 ?_
    refine r_iload_n C 18 rfl 3 dX4_beginWord_17 rfl ?_
    refine r_icmp_gt C 32 21 rfl dX4_beginWord_18 (by decide) h (fun h => ?_) (fun h => ?_)
    · refine r_lv [1] rfl ?_
      exact hj32 t3 h
    · refine r_aload_n C (x := some a0) 22 rfl 1 dX4_beginWord_21 rfl ?_
      refine r_getR C 25 rfl ff_X4_32 dX4_beginWord_22 h (fun r11 h => ?_)
      refine r_iconst C (v := 0) 26 rfl dX4_beginWord_25 (by decide) ?_
      replace h := jdr_some h
      obtain ⟨b12, hr, h⟩ := h
      rw [hr]
      refine r_callV C (ci := 1) mm_X4_59 im_yX1_add se_yX1_add rfl 29 0 0 rfl rfl rfl dX4_beginWord_26 rfl rfl (As := [.int 0]) rfl rfl (Nat.le_of_ble_eq_true rfl) ⟨Nat.le_of_ble_eq_true rfl, Nat.le_of_ble_eq_true rfl⟩ ⟨(Nat.le_of_ble_eq_true rfl), (Nat.le_of_ble_eq_true rfl)⟩ (fun o t h => k_X1_add l hst g _ _ _ o t h) h (fun w14 t13 h => ?_) (fun E t h => r_out C (fun x hx => (hE x hx).elim) (Nat.le_refl _) (Nat.le_refl _) h)
      replace h := jvV_some h
      obtain ⟨rfl, h⟩ := h
      refine r_goto C 39 dX4_beginWord_29 (by decide) ?_
      exact r_vret C dX4_beginWord_39 (Nat.le_refl _) (Nat.le_refl _) h

def J_X4_lay_L56b  (k108 : Nat → Int32 → Int32 → Hp → jR) (rc : Nat → Int32 → Int32 → Int32 → Hp → jR) (a0 : Nat) (v1 : Int32) (v2 : Int32) (v3 : Int32) (t0 : Hp) : jR := jgR t0 a0 4 1 (fun r34 => jdr r34 (fun b35 => jcv t0 b35 1 (J_X1_sizeOf b35 v2 t0) (fun w37 t36 => jvI w37 (fun x38 => (if x38 ≤ v3 then k108 a0 v1 v2 t36 else jgR t36 a0 4 3 (fun r39 => jdr r39 (fun b40 => jcv t36 b40 1 (J_X1_uncutSize b40 t36) (fun w42 t41 => jvI w42 (fun x43 => jj (fun (t44 : Hp) => jgR t44 a0 4 3 (fun r45 => jgR t44 a0 4 1 (fun r46 => jdr r46 (fun b47 => jdr r45 (fun b48 => jcv t44 b47 1 (J_X1_get b47 v2 v3 t44) (fun w50 t49 => jvI w50 (fun x51 => jcv t49 b48 1 (J_X1_add b48 x51 t49) (fun w53 t52 => jvV w53 (rc a0 v1 v2 (v3 + 1) t52)) (fun E t => some (.inr E, t)))) (fun E t => some (.inr E, t))))))) (fun j86 => (if x43 < v1 then j86 t41 else jgR t41 a0 4 3 (fun r54 => jdr r54 (fun b55 => jcv t41 b55 1 (J_X1_cut b55 t41) (fun w57 t56 => jvV w57 (j86 t56)) (fun E t => some (.inr E, t)))))))) (fun E t => some (.inr E, t))))))) (fun E t => some (.inr E, t))))
def J_X4_lay_L56  (k108 : Nat → Int32 → Int32 → Hp → jR) : Nat → Nat → Int32 → Int32 → Int32 → Hp → jR
  | 0 => fun _ _ _ _ _ => none
  | n + 1 => J_X4_lay_L56b  k108 (J_X4_lay_L56  k108 n)
def J_X4_lay_L16b   (rc : Nat → Int32 → Int32 → Hp → jR) (a0 : Nat) (v1 : Int32) (v2 : Int32) (t0 : Hp) : jR := jgR t0 a0 4 1 (fun r9 => jdr r9 (fun b10 => jcv t0 b10 1 (J_X1_count b10 t0) (fun w12 t11 => jvI w12 (fun x13 => (if x13 ≤ v2 then jgR t11 a0 4 3 (fun r14 => jdr r14 (fun b15 => jcv t11 b15 1 (J_X1_cut b15 t11) (fun w17 t16 => jvV w17 (some (.inl none, t16))) (fun E t => some (.inr E, t)))) else jgR t11 a0 4 1 (fun r18 => jdr r18 (fun b19 => jcv t11 b19 1 (J_X1_sizeOf b19 v2 t11) (fun w21 t20 => jvI w21 (fun x22 => jcv t20 a0 4 (J_X4_beginWord a0 x22 v1 t20) (fun w24 t23 => jvV w24 (jgR t23 a0 4 4 (fun r25 => jgR t23 a0 4 3 (fun r26 => jdr r26 (fun b27 => jdr r25 (fun b28 => jcv t23 b27 1 (J_X1_count b27 t23) (fun w30 t29 => jvI w30 (fun x31 => jcv t29 b28 2 (J_X2_add b28 x31 t29) (fun w33 t32 => jvV w33 (J_X4_lay_L56  (fun (x58 : Nat) (x59 : Int32) (x60 : Int32) (t61 : Hp) => rc x58 x59 (x60 + 1) t61) jN a0 v1 v2 0 t32)) (fun E t => some (.inr E, t)))) (fun E t => some (.inr E, t)))))))) (fun E t => some (.inr E, t)))) (fun E t => some (.inr E, t))))))) (fun E t => some (.inr E, t))))
def J_X4_lay_L16   : Nat → Nat → Int32 → Int32 → Hp → jR
  | 0 => fun _ _ _ _ => none
  | n + 1 => J_X4_lay_L16b   (J_X4_lay_L16   n)
def J_X4_lay  (a0 : Nat) (v1 : Int32) (σ : Hp) : jR := jgR σ a0 4 3 (fun r1 => jdr r1 (fun b2 => jcv σ b2 1 (J_X1_empty b2 σ) (fun w4 t3 => jvV w4 (jgR t3 a0 4 4 (fun r5 => jdr r5 (fun b6 => jcv t3 b6 2 (J_X2_empty b6 t3) (fun w8 t7 => jvV w8 (J_X4_lay_L16   jN a0 v1 0 t7)) (fun E t => some (.inr E, t)))))) (fun E t => some (.inr E, t))))
set_option maxHeartbeats 4000000 in
set_option maxRecDepth 100000 in
theorem w_X4_lay_L56 (l : Launch) (hst : l.stackTraces = false) {p : Program} {e : Env} {s : State} {m : MethodId} {args : Array Value} {below : List Frame} {meth : Method} {c : Code} {g : jG} {o : jO} {τ : Hp}  (C : jC p l s m args meth c g RX4 cX4_lay 4 none) (hE : ∀ x ∈ c.exceptionTable.toList, False) (k108 : Nat → Int32 → Int32 → Hp → jR) (hk108 : ∀ (a0x : Nat) (v1x : Int32) (v2x : Int32) (tx : Hp), k108 a0x v1x v2x tx = some (o, τ) → jW p l e ({ frames := 6, cells := 0, slots := 0, locals := 117 } : Room) s m args below meth c g (jQ below g o τ args s 0 0) 0 0 108 [(0, .ref a0x), (1, .int v1x), (2, .int v2x)] [] tx) : ∀ (n : Nat) (a0 : Nat) (v1 : Int32) (v2 : Int32) (v3 : Int32) (t0 : Hp), J_X4_lay_L56  k108 n a0 v1 v2 v3 t0 = some (o, τ) → jW p l e ({ frames := 6, cells := 0, slots := 0, locals := 117 } : Room) s m args below meth c g (jQ below g o τ args s 0 0) 0 0 56 [(0, .ref a0), (1, .int v1), (2, .int v2), (3, .int v3)] [] t0 := by
  intro n
  induction n with
  | zero => intro a0 v1 v2 v3 t0 h; cases h
  | succ n ih =>
    intro a0 v1 v2 v3 t0 h
    skip
    have h : J_X4_lay_L56b  k108 (J_X4_lay_L56  k108 n) a0 v1 v2 v3 t0 = some (o, τ) := h
    unfold J_X4_lay_L56b at h
    refine r_iload_n C 57 rfl 3 dX4_lay_56 rfl ?_
    refine r_aload_n C (x := some a0) 58 rfl 0 dX4_lay_57 rfl ?_
    refine r_getR C 61 rfl ff_X4_20 dX4_lay_58 h (fun r34 h => ?_)
    refine r_iload_n C 62 rfl 2 dX4_lay_61 rfl ?_
    replace h := jdr_some h
    obtain ⟨b35, hr, h⟩ := h
    rw [hr]
    refine r_callV C (ci := 1) mm_X4_92 im_yX1_sizeOf se_yX1_sizeOf rfl 65 0 0 rfl rfl rfl dX4_lay_62 rfl rfl (As := [.int v2]) rfl rfl (Nat.le_of_ble_eq_true rfl) ⟨Nat.le_of_ble_eq_true rfl, Nat.le_of_ble_eq_true rfl⟩ ⟨(Nat.le_of_ble_eq_true rfl), (Nat.le_of_ble_eq_true rfl)⟩ (fun o t h => k_X1_sizeOf l hst g _ _ _ o t h) h (fun w37 t36 h => ?_) (fun E t h => r_out C (fun x hx => (hE x hx).elim) (Nat.le_refl _) (Nat.le_refl _) h)
    replace h := jvI_some h
    obtain ⟨x38, rfl, h⟩ := h
    refine r_icmp_ge C 108 68 rfl dX4_lay_65 (by decide) h (fun h => ?_) (fun h => ?_)
    · refine r_lv [0, 1, 2] rfl ?_
      exact hk108 a0 v1 v2 t36 h
    · refine r_aload_n C (x := some a0) 69 rfl 0 dX4_lay_68 rfl ?_
      refine r_getR C 72 rfl ff_X4_32 dX4_lay_69 h (fun r39 h => ?_)
      replace h := jdr_some h
      obtain ⟨b40, hr, h⟩ := h
      rw [hr]
      refine r_callV C (ci := 1) mm_X4_98 im_yX1_uncutSize se_yX1_uncutSize rfl 75 0 0 rfl rfl rfl dX4_lay_72 rfl rfl (As := []) rfl rfl (Nat.le_of_ble_eq_true rfl) ⟨Nat.le_of_ble_eq_true rfl, Nat.le_of_ble_eq_true rfl⟩ ⟨(Nat.le_of_ble_eq_true rfl), (Nat.le_of_ble_eq_true rfl)⟩ (fun o t h => k_X1_uncutSize l hst g _ _ o t h) h (fun w42 t41 h => ?_) (fun E t h => r_out C (fun x hx => (hE x hx).elim) (Nat.le_refl _) (Nat.le_refl _) h)
      replace h := jvI_some h
      obtain ⟨x43, rfl, h⟩ := h
      refine r_iload_n C 76 rfl 1 dX4_lay_75 rfl ?_
      obtain ⟨j86, hj86E, h⟩ := jj_some h
      have hj86 : ∀ (t44 : Hp), j86 t44 = some (o, τ) → jW p l e ({ frames := 6, cells := 0, slots := 0, locals := 117 } : Room) s m args below meth c g (jQ below g o τ args s 0 0) 0 0 86 [(0, .ref a0), (1, .int v1), (2, .int v2), (3, .int v3)] [] t44 := by
        subst hj86E
        intro t44 h
        refine r_aload_n C (x := some a0) 87 rfl 0 dX4_lay_86 rfl ?_
        refine r_getR C 90 rfl ff_X4_32 dX4_lay_87 h (fun r45 h => ?_)
        refine r_aload_n C (x := some a0) 91 rfl 0 dX4_lay_90 rfl ?_
        refine r_getR C 94 rfl ff_X4_20 dX4_lay_91 h (fun r46 h => ?_)
        refine r_iload_n C 95 rfl 2 dX4_lay_94 rfl ?_
        refine r_iload_n C 96 rfl 3 dX4_lay_95 rfl ?_
        replace h := jdr_some h
        obtain ⟨b47, hr, h⟩ := h
        rw [hr]
        replace h := jdr_some h
        obtain ⟨b48, hr, h⟩ := h
        rw [hr]
        refine r_callV C (ci := 1) mm_X4_101 im_yX1_get se_yX1_get rfl 99 0 0 rfl rfl rfl dX4_lay_96 rfl rfl (As := [.int v2, .int v3]) rfl rfl (Nat.le_of_ble_eq_true rfl) ⟨Nat.le_of_ble_eq_true rfl, Nat.le_of_ble_eq_true rfl⟩ ⟨(Nat.le_of_ble_eq_true rfl), (Nat.le_of_ble_eq_true rfl)⟩ (fun o t h => k_X1_get l hst g _ _ _ _ o t h) h (fun w50 t49 h => ?_) (fun E t h => r_out C (fun x hx => (hE x hx).elim) (Nat.le_refl _) (Nat.le_refl _) h)
        replace h := jvI_some h
        obtain ⟨x51, rfl, h⟩ := h
        refine r_callV C (ci := 1) mm_X4_59 im_yX1_add se_yX1_add rfl 102 0 0 rfl rfl rfl dX4_lay_99 rfl rfl (As := [.int x51]) rfl rfl (Nat.le_of_ble_eq_true rfl) ⟨Nat.le_of_ble_eq_true rfl, Nat.le_of_ble_eq_true rfl⟩ ⟨(Nat.le_of_ble_eq_true rfl), (Nat.le_of_ble_eq_true rfl)⟩ (fun o t h => k_X1_add l hst g _ _ _ o t h) h (fun w53 t52 h => ?_) (fun E t h => r_out C (fun x hx => (hE x hx).elim) (Nat.le_refl _) (Nat.le_refl _) h)
        replace h := jvV_some h
        obtain ⟨rfl, h⟩ := h
        refine r_iinc C (v := v3 + 1) 105 rfl 3 [(3, .int (v3 + 1)), (0, .ref a0), (1, .int v1), (2, .int v2)] dX4_lay_102 rfl rfl (by decide) rfl ?_
        refine r_goto C 56 dX4_lay_105 (by decide) ?_
        refine r_lv [1, 2, 3, 0] rfl ?_
        exact ih a0 v1 v2 (v3 + 1) t52 h
      clear hj86E
      refine r_icmp_lt C 86 79 rfl dX4_lay_76 (by decide) h (fun h => ?_) (fun h => ?_)
      · exact hj86 t41 h
      · refine r_aload_n C (x := some a0) 80 rfl 0 dX4_lay_79 rfl ?_
        refine r_getR C 83 rfl ff_X4_32 dX4_lay_80 h (fun r54 h => ?_)
        replace h := jdr_some h
        obtain ⟨b55, hr, h⟩ := h
        rw [hr]
        refine r_callV C (ci := 1) mm_X4_56 im_yX1_cut se_yX1_cut rfl 86 0 0 rfl rfl rfl dX4_lay_83 rfl rfl (As := []) rfl rfl (Nat.le_of_ble_eq_true rfl) ⟨Nat.le_of_ble_eq_true rfl, Nat.le_of_ble_eq_true rfl⟩ ⟨(Nat.le_of_ble_eq_true rfl), (Nat.le_of_ble_eq_true rfl)⟩ (fun o t h => k_X1_cut l hst g _ _ o t h) h (fun w57 t56 h => ?_) (fun E t h => r_out C (fun x hx => (hE x hx).elim) (Nat.le_refl _) (Nat.le_refl _) h)
        replace h := jvV_some h
        obtain ⟨rfl, h⟩ := h
        exact hj86 t56 h
set_option maxHeartbeats 4000000 in
set_option maxRecDepth 100000 in
theorem w_X4_lay_L16 (l : Launch) (hst : l.stackTraces = false) {p : Program} {e : Env} {s : State} {m : MethodId} {args : Array Value} {below : List Frame} {meth : Method} {c : Code} {g : jG} {o : jO} {τ : Hp}  (C : jC p l s m args meth c g RX4 cX4_lay 4 none) (hE : ∀ x ∈ c.exceptionTable.toList, False)  : ∀ (n : Nat) (a0 : Nat) (v1 : Int32) (v2 : Int32) (t0 : Hp), J_X4_lay_L16   n a0 v1 v2 t0 = some (o, τ) → jW p l e ({ frames := 6, cells := 0, slots := 0, locals := 117 } : Room) s m args below meth c g (jQ below g o τ args s 0 0) 0 0 16 [(0, .ref a0), (1, .int v1), (2, .int v2)] [] t0 := by
  intro n
  induction n with
  | zero => intro a0 v1 v2 t0 h; cases h
  | succ n ih =>
    intro a0 v1 v2 t0 h
    skip
    have h : J_X4_lay_L16b   (J_X4_lay_L16   n) a0 v1 v2 t0 = some (o, τ) := h
    unfold J_X4_lay_L16b at h
    refine r_iload_n C 17 rfl 2 dX4_lay_16 rfl ?_
    refine r_aload_n C (x := some a0) 18 rfl 0 dX4_lay_17 rfl ?_
    refine r_getR C 21 rfl ff_X4_20 dX4_lay_18 h (fun r9 h => ?_)
    replace h := jdr_some h
    obtain ⟨b10, hr, h⟩ := h
    rw [hr]
    refine r_callV C (ci := 1) mm_X4_63 im_yX1_count se_yX1_count rfl 24 0 0 rfl rfl rfl dX4_lay_21 rfl rfl (As := []) rfl rfl (Nat.le_of_ble_eq_true rfl) ⟨Nat.le_of_ble_eq_true rfl, Nat.le_of_ble_eq_true rfl⟩ ⟨(Nat.le_of_ble_eq_true rfl), (Nat.le_of_ble_eq_true rfl)⟩ (fun o t h => k_X1_count l hst g _ _ o t h) h (fun w12 t11 h => ?_) (fun E t h => r_out C (fun x hx => (hE x hx).elim) (Nat.le_refl _) (Nat.le_refl _) h)
    replace h := jvI_some h
    obtain ⟨x13, rfl, h⟩ := h
    refine r_icmp_ge C 114 27 rfl dX4_lay_24 (by decide) h (fun h => ?_) (fun h => ?_)
    · refine r_aload_n C (x := some a0) 115 rfl 0 dX4_lay_114 rfl ?_
      refine r_getR C 118 rfl ff_X4_32 dX4_lay_115 h (fun r14 h => ?_)
      replace h := jdr_some h
      obtain ⟨b15, hr, h⟩ := h
      rw [hr]
      refine r_callV C (ci := 1) mm_X4_56 im_yX1_cut se_yX1_cut rfl 121 0 0 rfl rfl rfl dX4_lay_118 rfl rfl (As := []) rfl rfl (Nat.le_of_ble_eq_true rfl) ⟨Nat.le_of_ble_eq_true rfl, Nat.le_of_ble_eq_true rfl⟩ ⟨(Nat.le_of_ble_eq_true rfl), (Nat.le_of_ble_eq_true rfl)⟩ (fun o t h => k_X1_cut l hst g _ _ o t h) h (fun w17 t16 h => ?_) (fun E t h => r_out C (fun x hx => (hE x hx).elim) (Nat.le_refl _) (Nat.le_refl _) h)
      replace h := jvV_some h
      obtain ⟨rfl, h⟩ := h
      exact r_vret C dX4_lay_121 (Nat.le_refl _) (Nat.le_refl _) h
    · refine r_aload_n C (x := some a0) 28 rfl 0 dX4_lay_27 rfl ?_
      refine r_aload_n C (x := some a0) 29 rfl 0 dX4_lay_28 rfl ?_
      refine r_getR C 32 rfl ff_X4_20 dX4_lay_29 h (fun r18 h => ?_)
      refine r_iload_n C 33 rfl 2 dX4_lay_32 rfl ?_
      replace h := jdr_some h
      obtain ⟨b19, hr, h⟩ := h
      rw [hr]
      refine r_callV C (ci := 1) mm_X4_92 im_yX1_sizeOf se_yX1_sizeOf rfl 36 0 0 rfl rfl rfl dX4_lay_33 rfl rfl (As := [.int v2]) rfl rfl (Nat.le_of_ble_eq_true rfl) ⟨Nat.le_of_ble_eq_true rfl, Nat.le_of_ble_eq_true rfl⟩ ⟨(Nat.le_of_ble_eq_true rfl), (Nat.le_of_ble_eq_true rfl)⟩ (fun o t h => k_X1_sizeOf l hst g _ _ _ o t h) h (fun w21 t20 h => ?_) (fun E t h => r_out C (fun x hx => (hE x hx).elim) (Nat.le_refl _) (Nat.le_refl _) h)
      replace h := jvI_some h
      obtain ⟨x22, rfl, h⟩ := h
      refine r_iload_n C 37 rfl 1 dX4_lay_36 rfl ?_
      refine r_callV C (ci := 4) mm_X4_95 im_yX4_beginWord se_yX4_beginWord rfl 40 0 0 rfl rfl rfl dX4_lay_37 rfl rfl (As := [.int x22, .int v1]) rfl rfl (Nat.le_of_ble_eq_true rfl) ⟨Nat.le_of_ble_eq_true rfl, Nat.le_of_ble_eq_true rfl⟩ ⟨(Nat.le_of_ble_eq_true rfl), (Nat.le_of_ble_eq_true rfl)⟩ (fun o t h => k_X4_beginWord l hst g _ _ _ _ o t h) h (fun w24 t23 h => ?_) (fun E t h => r_out C (fun x hx => (hE x hx).elim) (Nat.le_refl _) (Nat.le_refl _) h)
      replace h := jvV_some h
      obtain ⟨rfl, h⟩ := h
      refine r_aload_n C (x := some a0) 41 rfl 0 dX4_lay_40 rfl ?_
      refine r_getR C 44 rfl ff_X4_35 dX4_lay_41 h (fun r25 h => ?_)
      refine r_aload_n C (x := some a0) 45 rfl 0 dX4_lay_44 rfl ?_
      refine r_getR C 48 rfl ff_X4_32 dX4_lay_45 h (fun r26 h => ?_)
      replace h := jdr_some h
      obtain ⟨b27, hr, h⟩ := h
      rw [hr]
      replace h := jdr_some h
      obtain ⟨b28, hr, h⟩ := h
      rw [hr]
      refine r_callV C (ci := 1) mm_X4_63 im_yX1_count se_yX1_count rfl 51 0 0 rfl rfl rfl dX4_lay_48 rfl rfl (As := []) rfl rfl (Nat.le_of_ble_eq_true rfl) ⟨Nat.le_of_ble_eq_true rfl, Nat.le_of_ble_eq_true rfl⟩ ⟨(Nat.le_of_ble_eq_true rfl), (Nat.le_of_ble_eq_true rfl)⟩ (fun o t h => k_X1_count l hst g _ _ o t h) h (fun w30 t29 h => ?_) (fun E t h => r_out C (fun x hx => (hE x hx).elim) (Nat.le_refl _) (Nat.le_refl _) h)
      replace h := jvI_some h
      obtain ⟨x31, rfl, h⟩ := h
      refine r_callV C (ci := 2) mm_X4_64 im_yX2_add se_yX2_add rfl 54 0 0 rfl rfl rfl dX4_lay_51 rfl rfl (As := [.int x31]) rfl rfl (Nat.le_of_ble_eq_true rfl) ⟨Nat.le_of_ble_eq_true rfl, Nat.le_of_ble_eq_true rfl⟩ ⟨(Nat.le_of_ble_eq_true rfl), (Nat.le_of_ble_eq_true rfl)⟩ (fun o t h => k_X2_add l hst g _ _ _ o t h) h (fun w33 t32 h => ?_) (fun E t h => r_out C (fun x hx => (hE x hx).elim) (Nat.le_refl _) (Nat.le_refl _) h)
      replace h := jvV_some h
      obtain ⟨rfl, h⟩ := h
      refine r_iconst C (v := 0) 55 rfl dX4_lay_54 (by decide) ?_
      refine r_istore_n C 56 rfl [(3, .int 0), (0, .ref a0), (1, .int v1), (2, .int v2)] dX4_lay_55 (by decide) rfl ?_
      refine r_lv [1, 2, 3, 0] rfl ?_
      refine w_X4_lay_L56 l hst  C hE _ (fun x58 x59 x60 t61 h => ?_) jN a0 v1 v2 0 t32 h
      refine r_iinc C (v := x60 + 1) 111 rfl 2 [(2, .int (x60 + 1)), (0, .ref x58), (1, .int x59)] dX4_lay_108 rfl rfl (by decide) rfl ?_
      refine r_goto C 16 dX4_lay_111 (by decide) ?_
      refine r_lv [1, 2, 0] rfl ?_
      exact ih x58 x59 (x60 + 1) t61 h
set_option maxHeartbeats 4000000 in
set_option maxRecDepth 100000 in
theorem k_X4_lay (l : Launch) (hst : l.stackTraces = false) (g : jG)   (a0 : Nat) (v1 : Int32) (σ : Hp) (o : jO) (τ : Hp) (h : J_X4_lay a0 v1 σ = some (o, τ)) : jMet l g yX4_lay (Cond.code yX4_lay cX4_lay 4 none :: gT) ({ frames := 6, cells := 0, slots := 0, locals := 117 } : Room) 0 0 [.ref a0, .int v1] σ o τ := by
  refine j_start l hst (own := RX4) (by decide) rfl (Nat.le_of_ble_eq_true rfl) ?_
  intro p e s m args below meth c C hE hin
  unfold J_X4_lay at h
  show jW p l e ({ frames := 6, cells := 0, slots := 0, locals := 117 } : Room) s m args below meth c g (jQ below g o τ args s 0 0) 0 0 0 [(0, .ref a0), (1, .int v1)] [] σ
  refine r_aload_n C (x := some a0) 1 rfl 0 dX4_lay_0 rfl ?_
  refine r_getR C 4 rfl ff_X4_32 dX4_lay_1 h (fun r1 h => ?_)
  replace h := jdr_some h
  obtain ⟨b2, hr, h⟩ := h
  rw [hr]
  refine r_callV C (ci := 1) mm_X4_45 im_yX1_empty se_yX1_empty rfl 7 0 0 rfl rfl rfl dX4_lay_4 rfl rfl (As := []) rfl rfl (Nat.le_of_ble_eq_true rfl) ⟨Nat.le_of_ble_eq_true rfl, Nat.le_of_ble_eq_true rfl⟩ ⟨(Nat.le_of_ble_eq_true rfl), (Nat.le_of_ble_eq_true rfl)⟩ (fun o t h => k_X1_empty l hst g _ _ o t h) h (fun w4 t3 h => ?_) (fun E t h => r_out C (fun x hx => (hE x hx).elim) (Nat.le_refl _) (Nat.le_refl _) h)
  replace h := jvV_some h
  obtain ⟨rfl, h⟩ := h
  refine r_aload_n C (x := some a0) 8 rfl 0 dX4_lay_7 rfl ?_
  refine r_getR C 11 rfl ff_X4_35 dX4_lay_8 h (fun r5 h => ?_)
  replace h := jdr_some h
  obtain ⟨b6, hr, h⟩ := h
  rw [hr]
  refine r_callV C (ci := 2) mm_X4_62 im_yX2_empty se_yX2_empty rfl 14 0 0 rfl rfl rfl dX4_lay_11 rfl rfl (As := []) rfl rfl (Nat.le_of_ble_eq_true rfl) ⟨Nat.le_of_ble_eq_true rfl, Nat.le_of_ble_eq_true rfl⟩ ⟨(Nat.le_of_ble_eq_true rfl), (Nat.le_of_ble_eq_true rfl)⟩ (fun o t h => k_X2_empty l hst g _ _ o t h) h (fun w8 t7 h => ?_) (fun E t h => r_out C (fun x hx => (hE x hx).elim) (Nat.le_refl _) (Nat.le_refl _) h)
  replace h := jvV_some h
  obtain ⟨rfl, h⟩ := h
  refine r_iconst C (v := 0) 15 rfl dX4_lay_14 (by decide) ?_
  refine r_istore_n C 16 rfl [(2, .int 0), (0, .ref a0), (1, .int v1)] dX4_lay_15 (by decide) rfl ?_
  refine r_lv [1, 2, 0] rfl ?_
  refine w_X4_lay_L16 l hst  C hE   jN a0 v1 0 t7 h

def J_X4_wordCount  (a0 : Nat) (σ : Hp) : jR := jgR σ a0 4 0 (fun r1 => jdr r1 (fun b2 => jcv σ b2 1 (J_X1_count b2 σ) (fun w4 t3 => jvI w4 (fun x5 => some (.inl (some (.int x5)), t3))) (fun E t => some (.inr E, t))))
set_option maxHeartbeats 4000000 in
set_option maxRecDepth 100000 in
theorem k_X4_wordCount (l : Launch) (hst : l.stackTraces = false) (g : jG)   (a0 : Nat) (σ : Hp) (o : jO) (τ : Hp) (h : J_X4_wordCount a0 σ = some (o, τ)) : jMet l g yX4_wordCount (Cond.code yX4_wordCount cX4_wordCount 1 (some FieldType.int) :: gT) ({ frames := 3, cells := 0, slots := 0, locals := 52 } : Room) 0 0 [.ref a0] σ o τ := by
  refine j_start l hst (own := RX4) (by decide) rfl (Nat.le_of_ble_eq_true rfl) ?_
  intro p e s m args below meth c C hE hin
  unfold J_X4_wordCount at h
  show jW p l e ({ frames := 3, cells := 0, slots := 0, locals := 52 } : Room) s m args below meth c g (jQ below g o τ args s 0 0) 0 0 0 [(0, .ref a0)] [] σ
  refine r_aload_n C (x := some a0) 1 rfl 0 dX4_wordCount_0 rfl ?_
  refine r_getR C 4 rfl ff_X4_14 dX4_wordCount_1 h (fun r1 h => ?_)
  replace h := jdr_some h
  obtain ⟨b2, hr, h⟩ := h
  rw [hr]
  refine r_callV C (ci := 1) mm_X4_63 im_yX1_count se_yX1_count rfl 7 0 0 rfl rfl rfl dX4_wordCount_4 rfl rfl (As := []) rfl rfl (Nat.le_of_ble_eq_true rfl) ⟨Nat.le_of_ble_eq_true rfl, Nat.le_of_ble_eq_true rfl⟩ ⟨(Nat.le_of_ble_eq_true rfl), (Nat.le_of_ble_eq_true rfl)⟩ (fun o t h => k_X1_count l hst g _ _ o t h) h (fun w4 t3 h => ?_) (fun E t h => r_out C (fun x hx => (hE x hx).elim) (Nat.le_refl _) (Nat.le_refl _) h)
  replace h := jvI_some h
  obtain ⟨x5, rfl, h⟩ := h
  exact r_iret C dX4_wordCount_7 (Nat.le_refl _) (Nat.le_refl _) h

def J_X4_cellCount  (a0 : Nat) (v1 : Int32) (σ : Hp) : jR := jgR σ a0 4 1 (fun r1 => jdr r1 (fun b2 => jcv σ b2 1 (J_X1_sizeOf b2 v1 σ) (fun w4 t3 => jvI w4 (fun x5 => some (.inl (some (.int x5)), t3))) (fun E t => some (.inr E, t))))
set_option maxHeartbeats 4000000 in
set_option maxRecDepth 100000 in
theorem k_X4_cellCount (l : Launch) (hst : l.stackTraces = false) (g : jG)   (a0 : Nat) (v1 : Int32) (σ : Hp) (o : jO) (τ : Hp) (h : J_X4_cellCount a0 v1 σ = some (o, τ)) : jMet l g yX4_cellCount (Cond.code yX4_cellCount cX4_cellCount 2 (some FieldType.int) :: gT) ({ frames := 4, cells := 0, slots := 0, locals := 75 } : Room) 0 0 [.ref a0, .int v1] σ o τ := by
  refine j_start l hst (own := RX4) (by decide) rfl (Nat.le_of_ble_eq_true rfl) ?_
  intro p e s m args below meth c C hE hin
  unfold J_X4_cellCount at h
  show jW p l e ({ frames := 4, cells := 0, slots := 0, locals := 75 } : Room) s m args below meth c g (jQ below g o τ args s 0 0) 0 0 0 [(0, .ref a0), (1, .int v1)] [] σ
  refine r_aload_n C (x := some a0) 1 rfl 0 dX4_cellCount_0 rfl ?_
  refine r_getR C 4 rfl ff_X4_20 dX4_cellCount_1 h (fun r1 h => ?_)
  refine r_iload_n C 5 rfl 1 dX4_cellCount_4 rfl ?_
  replace h := jdr_some h
  obtain ⟨b2, hr, h⟩ := h
  rw [hr]
  refine r_callV C (ci := 1) mm_X4_92 im_yX1_sizeOf se_yX1_sizeOf rfl 8 0 0 rfl rfl rfl dX4_cellCount_5 rfl rfl (As := [.int v1]) rfl rfl (Nat.le_of_ble_eq_true rfl) ⟨Nat.le_of_ble_eq_true rfl, Nat.le_of_ble_eq_true rfl⟩ ⟨(Nat.le_of_ble_eq_true rfl), (Nat.le_of_ble_eq_true rfl)⟩ (fun o t h => k_X1_sizeOf l hst g _ _ _ o t h) h (fun w4 t3 h => ?_) (fun E t h => r_out C (fun x hx => (hE x hx).elim) (Nat.le_refl _) (Nat.le_refl _) h)
  replace h := jvI_some h
  obtain ⟨x5, rfl, h⟩ := h
  exact r_iret C dX4_cellCount_8 (Nat.le_refl _) (Nat.le_refl _) h

def J_X4_cellAt  (a0 : Nat) (v1 : Int32) (v2 : Int32) (σ : Hp) : jR := jgR σ a0 4 1 (fun r1 => jdr r1 (fun b2 => jcv σ b2 1 (J_X1_get b2 v1 v2 σ) (fun w4 t3 => jvI w4 (fun x5 => some (.inl (some (.int x5)), t3))) (fun E t => some (.inr E, t))))
set_option maxHeartbeats 4000000 in
set_option maxRecDepth 100000 in
theorem k_X4_cellAt (l : Launch) (hst : l.stackTraces = false) (g : jG)   (a0 : Nat) (v1 : Int32) (v2 : Int32) (σ : Hp) (o : jO) (τ : Hp) (h : J_X4_cellAt a0 v1 v2 σ = some (o, τ)) : jMet l g yX4_cellAt (Cond.code yX4_cellAt cX4_cellAt 3 (some FieldType.int) :: gT) ({ frames := 4, cells := 0, slots := 0, locals := 76 } : Room) 0 0 [.ref a0, .int v1, .int v2] σ o τ := by
  refine j_start l hst (own := RX4) (by decide) rfl (Nat.le_of_ble_eq_true rfl) ?_
  intro p e s m args below meth c C hE hin
  unfold J_X4_cellAt at h
  show jW p l e ({ frames := 4, cells := 0, slots := 0, locals := 76 } : Room) s m args below meth c g (jQ below g o τ args s 0 0) 0 0 0 [(0, .ref a0), (1, .int v1), (2, .int v2)] [] σ
  refine r_aload_n C (x := some a0) 1 rfl 0 dX4_cellAt_0 rfl ?_
  refine r_getR C 4 rfl ff_X4_20 dX4_cellAt_1 h (fun r1 h => ?_)
  refine r_iload_n C 5 rfl 1 dX4_cellAt_4 rfl ?_
  refine r_iload_n C 6 rfl 2 dX4_cellAt_5 rfl ?_
  replace h := jdr_some h
  obtain ⟨b2, hr, h⟩ := h
  rw [hr]
  refine r_callV C (ci := 1) mm_X4_101 im_yX1_get se_yX1_get rfl 9 0 0 rfl rfl rfl dX4_cellAt_6 rfl rfl (As := [.int v1, .int v2]) rfl rfl (Nat.le_of_ble_eq_true rfl) ⟨Nat.le_of_ble_eq_true rfl, Nat.le_of_ble_eq_true rfl⟩ ⟨(Nat.le_of_ble_eq_true rfl), (Nat.le_of_ble_eq_true rfl)⟩ (fun o t h => k_X1_get l hst g _ _ _ _ o t h) h (fun w4 t3 h => ?_) (fun E t h => r_out C (fun x hx => (hE x hx).elim) (Nat.le_refl _) (Nat.le_refl _) h)
  replace h := jvI_some h
  obtain ⟨x5, rfl, h⟩ := h
  exact r_iret C dX4_cellAt_9 (Nat.le_refl _) (Nat.le_refl _) h

def J_X4_lineCount  (a0 : Nat) (σ : Hp) : jR := jgR σ a0 4 3 (fun r1 => jdr r1 (fun b2 => jcv σ b2 1 (J_X1_count b2 σ) (fun w4 t3 => jvI w4 (fun x5 => some (.inl (some (.int x5)), t3))) (fun E t => some (.inr E, t))))
set_option maxHeartbeats 4000000 in
set_option maxRecDepth 100000 in
theorem k_X4_lineCount (l : Launch) (hst : l.stackTraces = false) (g : jG)   (a0 : Nat) (σ : Hp) (o : jO) (τ : Hp) (h : J_X4_lineCount a0 σ = some (o, τ)) : jMet l g yX4_lineCount (Cond.code yX4_lineCount cX4_lineCount 1 (some FieldType.int) :: gT) ({ frames := 3, cells := 0, slots := 0, locals := 52 } : Room) 0 0 [.ref a0] σ o τ := by
  refine j_start l hst (own := RX4) (by decide) rfl (Nat.le_of_ble_eq_true rfl) ?_
  intro p e s m args below meth c C hE hin
  unfold J_X4_lineCount at h
  show jW p l e ({ frames := 3, cells := 0, slots := 0, locals := 52 } : Room) s m args below meth c g (jQ below g o τ args s 0 0) 0 0 0 [(0, .ref a0)] [] σ
  refine r_aload_n C (x := some a0) 1 rfl 0 dX4_lineCount_0 rfl ?_
  refine r_getR C 4 rfl ff_X4_32 dX4_lineCount_1 h (fun r1 h => ?_)
  replace h := jdr_some h
  obtain ⟨b2, hr, h⟩ := h
  rw [hr]
  refine r_callV C (ci := 1) mm_X4_63 im_yX1_count se_yX1_count rfl 7 0 0 rfl rfl rfl dX4_lineCount_4 rfl rfl (As := []) rfl rfl (Nat.le_of_ble_eq_true rfl) ⟨Nat.le_of_ble_eq_true rfl, Nat.le_of_ble_eq_true rfl⟩ ⟨(Nat.le_of_ble_eq_true rfl), (Nat.le_of_ble_eq_true rfl)⟩ (fun o t h => k_X1_count l hst g _ _ o t h) h (fun w4 t3 h => ?_) (fun E t h => r_out C (fun x hx => (hE x hx).elim) (Nat.le_refl _) (Nat.le_refl _) h)
  replace h := jvI_some h
  obtain ⟨x5, rfl, h⟩ := h
  exact r_iret C dX4_lineCount_7 (Nat.le_refl _) (Nat.le_refl _) h

def J_X4_lineSize  (a0 : Nat) (v1 : Int32) (σ : Hp) : jR := jgR σ a0 4 3 (fun r1 => jdr r1 (fun b2 => jcv σ b2 1 (J_X1_sizeOf b2 v1 σ) (fun w4 t3 => jvI w4 (fun x5 => some (.inl (some (.int x5)), t3))) (fun E t => some (.inr E, t))))
set_option maxHeartbeats 4000000 in
set_option maxRecDepth 100000 in
theorem k_X4_lineSize (l : Launch) (hst : l.stackTraces = false) (g : jG)   (a0 : Nat) (v1 : Int32) (σ : Hp) (o : jO) (τ : Hp) (h : J_X4_lineSize a0 v1 σ = some (o, τ)) : jMet l g yX4_lineSize (Cond.code yX4_lineSize cX4_lineSize 2 (some FieldType.int) :: gT) ({ frames := 4, cells := 0, slots := 0, locals := 75 } : Room) 0 0 [.ref a0, .int v1] σ o τ := by
  refine j_start l hst (own := RX4) (by decide) rfl (Nat.le_of_ble_eq_true rfl) ?_
  intro p e s m args below meth c C hE hin
  unfold J_X4_lineSize at h
  show jW p l e ({ frames := 4, cells := 0, slots := 0, locals := 75 } : Room) s m args below meth c g (jQ below g o τ args s 0 0) 0 0 0 [(0, .ref a0), (1, .int v1)] [] σ
  refine r_aload_n C (x := some a0) 1 rfl 0 dX4_lineSize_0 rfl ?_
  refine r_getR C 4 rfl ff_X4_32 dX4_lineSize_1 h (fun r1 h => ?_)
  refine r_iload_n C 5 rfl 1 dX4_lineSize_4 rfl ?_
  replace h := jdr_some h
  obtain ⟨b2, hr, h⟩ := h
  rw [hr]
  refine r_callV C (ci := 1) mm_X4_92 im_yX1_sizeOf se_yX1_sizeOf rfl 8 0 0 rfl rfl rfl dX4_lineSize_5 rfl rfl (As := [.int v1]) rfl rfl (Nat.le_of_ble_eq_true rfl) ⟨Nat.le_of_ble_eq_true rfl, Nat.le_of_ble_eq_true rfl⟩ ⟨(Nat.le_of_ble_eq_true rfl), (Nat.le_of_ble_eq_true rfl)⟩ (fun o t h => k_X1_sizeOf l hst g _ _ _ o t h) h (fun w4 t3 h => ?_) (fun E t h => r_out C (fun x hx => (hE x hx).elim) (Nat.le_refl _) (Nat.le_refl _) h)
  replace h := jvI_some h
  obtain ⟨x5, rfl, h⟩ := h
  exact r_iret C dX4_lineSize_8 (Nat.le_refl _) (Nat.le_refl _) h

def J_X4_laidCellAt  (a0 : Nat) (v1 : Int32) (v2 : Int32) (σ : Hp) : jR := jgR σ a0 4 3 (fun r1 => jdr r1 (fun b2 => jcv σ b2 1 (J_X1_get b2 v1 v2 σ) (fun w4 t3 => jvI w4 (fun x5 => some (.inl (some (.int x5)), t3))) (fun E t => some (.inr E, t))))
set_option maxHeartbeats 4000000 in
set_option maxRecDepth 100000 in
theorem k_X4_laidCellAt (l : Launch) (hst : l.stackTraces = false) (g : jG)   (a0 : Nat) (v1 : Int32) (v2 : Int32) (σ : Hp) (o : jO) (τ : Hp) (h : J_X4_laidCellAt a0 v1 v2 σ = some (o, τ)) : jMet l g yX4_laidCellAt (Cond.code yX4_laidCellAt cX4_laidCellAt 3 (some FieldType.int) :: gT) ({ frames := 4, cells := 0, slots := 0, locals := 76 } : Room) 0 0 [.ref a0, .int v1, .int v2] σ o τ := by
  refine j_start l hst (own := RX4) (by decide) rfl (Nat.le_of_ble_eq_true rfl) ?_
  intro p e s m args below meth c C hE hin
  unfold J_X4_laidCellAt at h
  show jW p l e ({ frames := 4, cells := 0, slots := 0, locals := 76 } : Room) s m args below meth c g (jQ below g o τ args s 0 0) 0 0 0 [(0, .ref a0), (1, .int v1), (2, .int v2)] [] σ
  refine r_aload_n C (x := some a0) 1 rfl 0 dX4_laidCellAt_0 rfl ?_
  refine r_getR C 4 rfl ff_X4_32 dX4_laidCellAt_1 h (fun r1 h => ?_)
  refine r_iload_n C 5 rfl 1 dX4_laidCellAt_4 rfl ?_
  refine r_iload_n C 6 rfl 2 dX4_laidCellAt_5 rfl ?_
  replace h := jdr_some h
  obtain ⟨b2, hr, h⟩ := h
  rw [hr]
  refine r_callV C (ci := 1) mm_X4_101 im_yX1_get se_yX1_get rfl 9 0 0 rfl rfl rfl dX4_laidCellAt_6 rfl rfl (As := [.int v1, .int v2]) rfl rfl (Nat.le_of_ble_eq_true rfl) ⟨Nat.le_of_ble_eq_true rfl, Nat.le_of_ble_eq_true rfl⟩ ⟨(Nat.le_of_ble_eq_true rfl), (Nat.le_of_ble_eq_true rfl)⟩ (fun o t h => k_X1_get l hst g _ _ _ _ o t h) h (fun w4 t3 h => ?_) (fun E t h => r_out C (fun x hx => (hE x hx).elim) (Nat.le_refl _) (Nat.le_refl _) h)
  replace h := jvI_some h
  obtain ⟨x5, rfl, h⟩ := h
  exact r_iret C dX4_laidCellAt_9 (Nat.le_refl _) (Nat.le_refl _) h

def J_X4_firstLineOf  (a0 : Nat) (v1 : Int32) (σ : Hp) : jR := jgR σ a0 4 4 (fun r1 => jdr r1 (fun b2 => jcv σ b2 2 (J_X2_get b2 v1 σ) (fun w4 t3 => jvI w4 (fun x5 => some (.inl (some (.int x5)), t3))) (fun E t => some (.inr E, t))))
set_option maxHeartbeats 4000000 in
set_option maxRecDepth 100000 in
theorem k_X4_firstLineOf (l : Launch) (hst : l.stackTraces = false) (g : jG)   (a0 : Nat) (v1 : Int32) (σ : Hp) (o : jO) (τ : Hp) (h : J_X4_firstLineOf a0 v1 σ = some (o, τ)) : jMet l g yX4_firstLineOf (Cond.code yX4_firstLineOf cX4_firstLineOf 2 (some FieldType.int) :: gT) ({ frames := 2, cells := 0, slots := 0, locals := 33 } : Room) 0 0 [.ref a0, .int v1] σ o τ := by
  refine j_start l hst (own := RX4) (by decide) rfl (Nat.le_of_ble_eq_true rfl) ?_
  intro p e s m args below meth c C hE hin
  unfold J_X4_firstLineOf at h
  show jW p l e ({ frames := 2, cells := 0, slots := 0, locals := 33 } : Room) s m args below meth c g (jQ below g o τ args s 0 0) 0 0 0 [(0, .ref a0), (1, .int v1)] [] σ
  refine r_aload_n C (x := some a0) 1 rfl 0 dX4_firstLineOf_0 rfl ?_
  refine r_getR C 4 rfl ff_X4_35 dX4_firstLineOf_1 h (fun r1 h => ?_)
  refine r_iload_n C 5 rfl 1 dX4_firstLineOf_4 rfl ?_
  replace h := jdr_some h
  obtain ⟨b2, hr, h⟩ := h
  rw [hr]
  refine r_callV C (ci := 2) mm_X4_52 im_yX2_get se_yX2_get rfl 8 0 0 rfl rfl rfl dX4_firstLineOf_5 rfl rfl (As := [.int v1]) rfl rfl (Nat.le_of_ble_eq_true rfl) ⟨Nat.le_of_ble_eq_true rfl, Nat.le_of_ble_eq_true rfl⟩ ⟨(Nat.le_of_ble_eq_true rfl), (Nat.le_of_ble_eq_true rfl)⟩ (fun o t h => k_X2_get l hst g _ _ _ o t h) h (fun w4 t3 h => ?_) (fun E t h => r_out C (fun x hx => (hE x hx).elim) (Nat.le_refl _) (Nat.le_refl _) h)
  replace h := jvI_some h
  obtain ⟨x5, rfl, h⟩ := h
  exact r_iret C dX4_firstLineOf_8 (Nat.le_refl _) (Nat.le_refl _) h

def J_X4_isOther  (a0 : Nat) (v1 : Int32) (σ : Hp) : jR := jgR σ a0 4 3 (fun r1 => jgR σ a0 4 5 (fun r2 => jdr r2 (fun b3 => jdr r1 (fun b4 => jcv σ b4 1 (J_X1_shares b4 v1 b3 σ) (fun w6 t5 => jvI w6 (fun x7 => (if x7 = 0 then jrt .boolean 1 t5 else jrt .boolean 0 t5))) (fun E t => some (.inr E, t))))))
set_option maxHeartbeats 4000000 in
set_option maxRecDepth 100000 in
theorem k_X4_isOther (l : Launch) (hst : l.stackTraces = false) (g : jG)   (a0 : Nat) (v1 : Int32) (σ : Hp) (o : jO) (τ : Hp) (h : J_X4_isOther a0 v1 σ = some (o, τ)) : jMet l g yX4_isOther (Cond.code yX4_isOther cX4_isOther 2 (some FieldType.boolean) :: gT) ({ frames := 5, cells := 0, slots := 0, locals := 102 } : Room) 0 0 [.ref a0, .int v1] σ o τ := by
  refine j_start l hst (own := RX4) (by decide) rfl (Nat.le_of_ble_eq_true rfl) ?_
  intro p e s m args below meth c C hE hin
  unfold J_X4_isOther at h
  show jW p l e ({ frames := 5, cells := 0, slots := 0, locals := 102 } : Room) s m args below meth c g (jQ below g o τ args s 0 0) 0 0 0 [(0, .ref a0), (1, .int v1)] [] σ
  refine r_aload_n C (x := some a0) 1 rfl 0 dX4_isOther_0 rfl ?_
  refine r_getR C 4 rfl ff_X4_32 dX4_isOther_1 h (fun r1 h => ?_)
  refine r_iload_n C 5 rfl 1 dX4_isOther_4 rfl ?_
  refine r_aload_n C (x := some a0) 6 rfl 0 dX4_isOther_5 rfl ?_
  refine r_getR C 9 rfl ff_X4_38 dX4_isOther_6 h (fun r2 h => ?_)
  replace h := jdr_some h
  obtain ⟨b3, hr, h⟩ := h
  rw [hr]
  replace h := jdr_some h
  obtain ⟨b4, hr, h⟩ := h
  rw [hr]
  refine r_callV C (ci := 1) mm_X4_81 im_yX1_shares se_yX1_shares rfl 12 0 0 rfl rfl rfl dX4_isOther_9 rfl rfl (As := [.int v1, .ref b3]) rfl rfl (Nat.le_of_ble_eq_true rfl) ⟨Nat.le_of_ble_eq_true rfl, Nat.le_of_ble_eq_true rfl⟩ ⟨(Nat.le_of_ble_eq_true rfl), (Nat.le_of_ble_eq_true rfl)⟩ (fun o t h => k_X1_shares l hst g _ _ _ _ o t h) h (fun w6 t5 h => ?_) (fun E t h => r_out C (fun x hx => (hE x hx).elim) (Nat.le_refl _) (Nat.le_refl _) h)
  replace h := jvI_some h
  obtain ⟨x7, rfl, h⟩ := h
  refine r_if_ne C 19 15 rfl dX4_isOther_12 (by decide) h (fun h => ?_) (fun h => ?_)
  · refine r_iconst C (v := 0) 20 rfl dX4_isOther_19 (by decide) ?_
    exact r_zret C (fun _ => rfl) dX4_isOther_20 (Nat.le_refl _) (Nat.le_refl _) h
  · refine r_iconst C (v := 1) 16 rfl dX4_isOther_15 (by decide) ?_
    refine r_goto C 20 dX4_isOther_16 (by decide) ?_
    exact r_zret C (fun _ => rfl) dX4_isOther_20 (Nat.le_refl _) (Nat.le_refl _) h

def J_X4_otherLineCount_L4b   (rc : Nat → Int32 → Int32 → Hp → jR) (a0 : Nat) (v1 : Int32) (v2 : Int32) (t0 : Hp) : jR := jgR t0 a0 4 3 (fun r1 => jdr r1 (fun b2 => jcv t0 b2 1 (J_X1_count b2 t0) (fun w4 t3 => jvI w4 (fun x5 => jgR t3 a0 4 5 (fun r6 => jdr r6 (fun b7 => jcv t3 b7 1 (J_X1_count b7 t3) (fun w9 t8 => jvI w9 (fun x10 => (if (if x5 < x10 then x10 else x5) ≤ v2 then some (.inl (some (.int v1)), t8) else jcv t8 a0 4 (J_X4_isOther a0 v2 t8) (fun w12 t11 => jvI w12 (fun x13 => jj (fun (x14 : Int32) (t15 : Hp) => rc a0 (v1 + x14) (v2 + 1) t15) (fun j39 => (if x13 = 0 then j39 0 t11 else j39 1 t11)))) (fun E t => some (.inr E, t))))) (fun E t => some (.inr E, t)))))) (fun E t => some (.inr E, t))))
def J_X4_otherLineCount_L4   : Nat → Nat → Int32 → Int32 → Hp → jR
  | 0 => fun _ _ _ _ => none
  | n + 1 => J_X4_otherLineCount_L4b   (J_X4_otherLineCount_L4   n)
def J_X4_otherLineCount  (a0 : Nat) (σ : Hp) : jR := J_X4_otherLineCount_L4   jN a0 0 0 σ
set_option maxHeartbeats 4000000 in
set_option maxRecDepth 100000 in
theorem w_X4_otherLineCount_L4 (l : Launch) (hst : l.stackTraces = false) {p : Program} {e : Env} {s : State} {m : MethodId} {args : Array Value} {below : List Frame} {meth : Method} {c : Code} {g : jG} {o : jO} {τ : Hp}  (C : jC p l s m args meth c g RX4 cX4_otherLineCount 3 (some FieldType.int)) (hE : ∀ x ∈ c.exceptionTable.toList, False)  : ∀ (n : Nat) (a0 : Nat) (v1 : Int32) (v2 : Int32) (t0 : Hp), J_X4_otherLineCount_L4   n a0 v1 v2 t0 = some (o, τ) → jW p l e ({ frames := 6, cells := 0, slots := 0, locals := 123 } : Room) s m args below meth c g (jQ below g o τ args s 0 0) 0 0 4 [(0, .ref a0), (1, .int v1), (2, .int v2)] [] t0 := by
  intro n
  induction n with
  | zero => intro a0 v1 v2 t0 h; cases h
  | succ n ih =>
    intro a0 v1 v2 t0 h
    skip
    have h : J_X4_otherLineCount_L4b   (J_X4_otherLineCount_L4   n) a0 v1 v2 t0 = some (o, τ) := h
    unfold J_X4_otherLineCount_L4b at h
    refine r_iload_n C 5 rfl 2 dX4_otherLineCount_4 rfl ?_
    refine r_aload_n C (x := some a0) 6 rfl 0 dX4_otherLineCount_5 rfl ?_
    refine r_getR C 9 rfl ff_X4_32 dX4_otherLineCount_6 h (fun r1 h => ?_)
    replace h := jdr_some h
    obtain ⟨b2, hr, h⟩ := h
    rw [hr]
    refine r_callV C (ci := 1) mm_X4_63 im_yX1_count se_yX1_count rfl 12 0 0 rfl rfl rfl dX4_otherLineCount_9 rfl rfl (As := []) rfl rfl (Nat.le_of_ble_eq_true rfl) ⟨Nat.le_of_ble_eq_true rfl, Nat.le_of_ble_eq_true rfl⟩ ⟨(Nat.le_of_ble_eq_true rfl), (Nat.le_of_ble_eq_true rfl)⟩ (fun o t h => k_X1_count l hst g _ _ o t h) h (fun w4 t3 h => ?_) (fun E t h => r_out C (fun x hx => (hE x hx).elim) (Nat.le_refl _) (Nat.le_refl _) h)
    replace h := jvI_some h
    obtain ⟨x5, rfl, h⟩ := h
    refine r_aload_n C (x := some a0) 13 rfl 0 dX4_otherLineCount_12 rfl ?_
    refine r_getR C 16 rfl ff_X4_38 dX4_otherLineCount_13 h (fun r6 h => ?_)
    replace h := jdr_some h
    obtain ⟨b7, hr, h⟩ := h
    rw [hr]
    refine r_callV C (ci := 1) mm_X4_63 im_yX1_count se_yX1_count rfl 19 0 0 rfl rfl rfl dX4_otherLineCount_16 rfl rfl (As := []) rfl rfl (Nat.le_of_ble_eq_true rfl) ⟨Nat.le_of_ble_eq_true rfl, Nat.le_of_ble_eq_true rfl⟩ ⟨(Nat.le_of_ble_eq_true rfl), (Nat.le_of_ble_eq_true rfl)⟩ (fun o t h => k_X1_count l hst g _ _ o t h) h (fun w9 t8 h => ?_) (fun E t h => r_out C (fun x hx => (hE x hx).elim) (Nat.le_refl _) (Nat.le_refl _) h)
    replace h := jvI_some h
    obtain ⟨x10, rfl, h⟩ := h
    refine r_mmax C 22 rfl ml_X4_104 st_mmax ini_m cd_mmax dX4_otherLineCount_19 (Nat.le_of_ble_eq_true rfl) (Nat.le_of_ble_eq_true rfl) (Nat.le_refl _) (Nat.le_refl _) ?_
    refine r_icmp_ge C 47 25 rfl dX4_otherLineCount_22 (by decide) h (fun h => ?_) (fun h => ?_)
    · refine r_iload_n C 48 rfl 1 dX4_otherLineCount_47 rfl ?_
      exact r_iret C dX4_otherLineCount_48 (Nat.le_refl _) (Nat.le_refl _) h
    · refine r_iload_n C 26 rfl 1 dX4_otherLineCount_25 rfl ?_
      refine r_aload_n C (x := some a0) 27 rfl 0 dX4_otherLineCount_26 rfl ?_
      refine r_iload_n C 28 rfl 2 dX4_otherLineCount_27 rfl ?_
      refine r_callV C (ci := 4) mm_X4_109 im_yX4_isOther se_yX4_isOther rfl 31 0 0 rfl rfl rfl dX4_otherLineCount_28 rfl rfl (As := [.int v2]) rfl rfl (Nat.le_of_ble_eq_true rfl) ⟨Nat.le_of_ble_eq_true rfl, Nat.le_of_ble_eq_true rfl⟩ ⟨(Nat.le_of_ble_eq_true rfl), (Nat.le_of_ble_eq_true rfl)⟩ (fun o t h => k_X4_isOther l hst g _ _ _ o t h) h (fun w12 t11 h => ?_) (fun E t h => r_out C (fun x hx => (hE x hx).elim) (Nat.le_refl _) (Nat.le_refl _) h)
      replace h := jvI_some h
      obtain ⟨x13, rfl, h⟩ := h
      obtain ⟨j39, hj39E, h⟩ := jj_some h
      have hj39 : ∀ (x14 : Int32) (t15 : Hp), j39 x14 t15 = some (o, τ) → jW p l e ({ frames := 6, cells := 0, slots := 0, locals := 123 } : Room) s m args below meth c g (jQ below g o τ args s 0 0) 0 0 39 [(0, .ref a0), (2, .int v2)] [.int x14, .int v1] t15 := by
        subst hj39E
        intro x14 t15 h
        refine r_iadd C 40 rfl dX4_otherLineCount_39 ?_
        refine r_istore_n C 41 rfl [(1, .int (v1 + x14)), (0, .ref a0), (2, .int v2)] dX4_otherLineCount_40 (by decide) rfl ?_
        refine r_iinc C (v := v2 + 1) 44 rfl 2 [(2, .int (v2 + 1)), (1, .int (v1 + x14)), (0, .ref a0)] dX4_otherLineCount_41 rfl rfl (by decide) rfl ?_
        refine r_goto C 4 dX4_otherLineCount_44 (by decide) ?_
        refine r_lv [2, 1, 0] rfl ?_
        exact ih a0 (v1 + x14) (v2 + 1) t15 h
      clear hj39E
      refine r_if_eq C 38 34 rfl dX4_otherLineCount_31 (by decide) h (fun h => ?_) (fun h => ?_)
      · refine r_iconst C (v := 0) 39 rfl dX4_otherLineCount_38 (by decide) ?_
        refine r_lv [0, 2] rfl ?_
        exact hj39 0 t11 h
      · refine r_iconst C (v := 1) 35 rfl dX4_otherLineCount_34 (by decide) ?_
        refine r_goto C 39 dX4_otherLineCount_35 (by decide) ?_
        refine r_lv [0, 2] rfl ?_
        exact hj39 1 t11 h
set_option maxHeartbeats 4000000 in
set_option maxRecDepth 100000 in
theorem k_X4_otherLineCount (l : Launch) (hst : l.stackTraces = false) (g : jG)   (a0 : Nat) (σ : Hp) (o : jO) (τ : Hp) (h : J_X4_otherLineCount a0 σ = some (o, τ)) : jMet l g yX4_otherLineCount (Cond.code yX4_otherLineCount cX4_otherLineCount 3 (some FieldType.int) :: gT) ({ frames := 6, cells := 0, slots := 0, locals := 123 } : Room) 0 0 [.ref a0] σ o τ := by
  refine j_start l hst (own := RX4) (by decide) rfl (Nat.le_of_ble_eq_true rfl) ?_
  intro p e s m args below meth c C hE hin
  unfold J_X4_otherLineCount at h
  show jW p l e ({ frames := 6, cells := 0, slots := 0, locals := 123 } : Room) s m args below meth c g (jQ below g o τ args s 0 0) 0 0 0 [(0, .ref a0)] [] σ
  refine r_iconst C (v := 0) 1 rfl dX4_otherLineCount_0 (by decide) ?_
  refine r_istore_n C 2 rfl [(1, .int 0), (0, .ref a0)] dX4_otherLineCount_1 (by decide) rfl ?_
  refine r_iconst C (v := 0) 3 rfl dX4_otherLineCount_2 (by decide) ?_
  refine r_istore_n C 4 rfl [(2, .int 0), (1, .int 0), (0, .ref a0)] dX4_otherLineCount_3 (by decide) rfl ?_
  refine r_lv [2, 1, 0] rfl ?_
  refine w_X4_otherLineCount_L4 l hst  C hE   jN a0 0 0 σ h

def J_X4_keepAsEmbossed  (a0 : Nat) (σ : Hp) : jR := jgR σ a0 4 5 (fun r1 => jgR σ a0 4 3 (fun r2 => jdr r2 (fun b3 => jdr r1 (fun b4 => jcv σ b4 1 (J_X1_takeOver b4 b3 σ) (fun w6 t5 => jvV w6 (some (.inl none, t5))) (fun E t => some (.inr E, t))))))
set_option maxHeartbeats 4000000 in
set_option maxRecDepth 100000 in
theorem k_X4_keepAsEmbossed (l : Launch) (hst : l.stackTraces = false) (g : jG)   (a0 : Nat) (σ : Hp) (o : jO) (τ : Hp) (h : J_X4_keepAsEmbossed a0 σ = some (o, τ)) : jMet l g yX4_keepAsEmbossed (Cond.code yX4_keepAsEmbossed cX4_keepAsEmbossed 1 none :: gT) ({ frames := 4, cells := 0, slots := 0, locals := 76 } : Room) 0 0 [.ref a0] σ o τ := by
  refine j_start l hst (own := RX4) (by decide) rfl (Nat.le_of_ble_eq_true rfl) ?_
  intro p e s m args below meth c C hE hin
  unfold J_X4_keepAsEmbossed at h
  show jW p l e ({ frames := 4, cells := 0, slots := 0, locals := 76 } : Room) s m args below meth c g (jQ below g o τ args s 0 0) 0 0 0 [(0, .ref a0)] [] σ
  refine r_aload_n C (x := some a0) 1 rfl 0 dX4_keepAsEmbossed_0 rfl ?_
  refine r_getR C 4 rfl ff_X4_38 dX4_keepAsEmbossed_1 h (fun r1 h => ?_)
  refine r_aload_n C (x := some a0) 5 rfl 0 dX4_keepAsEmbossed_4 rfl ?_
  refine r_getR C 8 rfl ff_X4_32 dX4_keepAsEmbossed_5 h (fun r2 h => ?_)
  replace h := jdr_some h
  obtain ⟨b3, hr, h⟩ := h
  rw [hr]
  replace h := jdr_some h
  obtain ⟨b4, hr, h⟩ := h
  rw [hr]
  refine r_callV C (ci := 1) mm_X4_88 im_yX1_takeOver se_yX1_takeOver rfl 11 0 0 rfl rfl rfl dX4_keepAsEmbossed_8 rfl rfl (As := [.ref b3]) rfl rfl (Nat.le_of_ble_eq_true rfl) ⟨Nat.le_of_ble_eq_true rfl, Nat.le_of_ble_eq_true rfl⟩ ⟨(Nat.le_of_ble_eq_true rfl), (Nat.le_of_ble_eq_true rfl)⟩ (fun o t h => k_X1_takeOver l hst g _ _ _ o t h) h (fun w6 t5 h => ?_) (fun E t h => r_out C (fun x hx => (hE x hx).elim) (Nat.le_refl _) (Nat.le_refl _) h)
  replace h := jvV_some h
  obtain ⟨rfl, h⟩ := h
  exact r_vret C dX4_keepAsEmbossed_11 (Nat.le_refl _) (Nat.le_refl _) h

def J_X4_markBy  (a0 : Nat) (v1 : Int32) (v2 : Int32) (σ : Hp) : jR := jgR σ a0 4 2 (fun r1 => jdr r1 (fun b2 => jcv σ b2 2 (J_X2_get b2 ((2 * v2) + v1) σ) (fun w4 t3 => jvI w4 (fun x5 => jrt .char ((x5.toUInt32 % 65536).toInt32) t3)) (fun E t => some (.inr E, t))))
set_option maxHeartbeats 4000000 in
set_option maxRecDepth 100000 in
theorem k_X4_markBy (l : Launch) (hst : l.stackTraces = false) (g : jG)   (a0 : Nat) (v1 : Int32) (v2 : Int32) (σ : Hp) (o : jO) (τ : Hp) (h : J_X4_markBy a0 v1 v2 σ = some (o, τ)) : jMet l g yX4_markBy (Cond.code yX4_markBy cX4_markBy 3 (some FieldType.char) :: gT) ({ frames := 2, cells := 0, slots := 0, locals := 33 } : Room) 0 0 [.ref a0, .int v1, .int v2] σ o τ := by
  refine j_start l hst (own := RX4) (by decide) rfl (Nat.le_of_ble_eq_true rfl) ?_
  intro p e s m args below meth c C hE hin
  unfold J_X4_markBy at h
  show jW p l e ({ frames := 2, cells := 0, slots := 0, locals := 33 } : Room) s m args below meth c g (jQ below g o τ args s 0 0) 0 0 0 [(0, .ref a0), (1, .int v1), (2, .int v2)] [] σ
  refine r_aload_n C (x := some a0) 1 rfl 0 dX4_markBy_0 rfl ?_
  refine r_getR C 4 rfl ff_X4_28 dX4_markBy_1 h (fun r1 h => ?_)
  refine r_iconst C (v := 2) 5 rfl dX4_markBy_4 (by decide) ?_
  refine r_iload_n C 6 rfl 2 dX4_markBy_5 rfl ?_
  refine r_imul C 7 rfl dX4_markBy_6 ?_
  refine r_iload_n C 8 rfl 1 dX4_markBy_7 rfl ?_
  refine r_iadd C 9 rfl dX4_markBy_8 ?_
  replace h := jdr_some h
  obtain ⟨b2, hr, h⟩ := h
  rw [hr]
  refine r_callV C (ci := 2) mm_X4_52 im_yX2_get se_yX2_get rfl 12 0 0 rfl rfl rfl dX4_markBy_9 rfl rfl (As := [.int ((2 * v2) + v1)]) rfl rfl (Nat.le_of_ble_eq_true rfl) ⟨Nat.le_of_ble_eq_true rfl, Nat.le_of_ble_eq_true rfl⟩ ⟨(Nat.le_of_ble_eq_true rfl), (Nat.le_of_ble_eq_true rfl)⟩ (fun o t h => k_X2_get l hst g _ _ _ o t h) h (fun w4 t3 h => ?_) (fun E t h => r_out C (fun x hx => (hE x hx).elim) (Nat.le_refl _) (Nat.le_refl _) h)
  replace h := jvI_some h
  obtain ⟨x5, rfl, h⟩ := h
  refine r_i2c C 13 rfl dX4_markBy_12 ?_
  exact r_zret C (fun _ => rfl) dX4_markBy_13 (Nat.le_refl _) (Nat.le_refl _) h

def J_X4_isWellLaid_L46b   (rc : Nat → Nat → Int32 → Int32 → Hp → jR) (a0 : Nat) (a2 : Nat) (v3 : Int32) (v4 : Int32) (t0 : Hp) : jR := jcv t0 a2 2 (J_X2_count a2 t0) (fun w12 t11 => jvI w12 (fun x13 => (if x13 ≤ v4 then jgR t11 a0 4 1 (fun r14 => jdr r14 (fun b15 => jcv t11 b15 1 (J_X1_uncut b15 t11) (fun w17 t16 => jvA w17 (fun b18 => jcv t16 b18 2 (J_X2_count b18 t16) (fun w20 t19 => jvI w20 (fun x21 => (if v3 = x21 then jrt .boolean 1 t19 else jrt .boolean 0 t19))) (fun E t => some (.inr E, t)))) (fun E t => some (.inr E, t)))) else jcv t11 a2 2 (J_X2_get a2 v4 t11) (fun w23 t22 => jvI w23 (fun x24 => jj (fun (x25 : Int32) (t26 : Hp) => rc a0 a2 x25 (v4 + 1) t26) (fun j89 => (if x24 = 0 then j89 v3 t22 else jcv t22 a2 2 (J_X2_get a2 v4 t22) (fun w28 t27 => jvI w28 (fun x29 => jgR t27 a0 4 1 (fun r30 => jdr r30 (fun b31 => jcv t27 b31 1 (J_X1_uncut b31 t27) (fun w33 t32 => jvA w33 (fun b34 => jcv t32 b34 2 (J_X2_get b34 v3 t32) (fun w36 t35 => jvI w36 (fun x37 => (if x29 = x37 then j89 (v3 + 1) t35 else jrt .boolean 0 t35))) (fun E t => some (.inr E, t)))) (fun E t => some (.inr E, t)))))) (fun E t => some (.inr E, t)))))) (fun E t => some (.inr E, t))))) (fun E t => some (.inr E, t))
def J_X4_isWellLaid_L46   : Nat → Nat → Nat → Int32 → Int32 → Hp → jR
  | 0 => fun _ _ _ _ _ => none
  | n + 1 => J_X4_isWellLaid_L46b   (J_X4_isWellLaid_L46   n)
def J_X4_isWellLaid_L2b   (rc : Nat → Int32 → Int32 → Hp → jR) (a0 : Nat) (v1 : Int32) (v2 : Int32) (t0 : Hp) : jR := jgR t0 a0 4 3 (fun r1 => jdr r1 (fun b2 => jcv t0 b2 1 (J_X1_count b2 t0) (fun w4 t3 => jvI w4 (fun x5 => (if x5 ≤ v2 then jgR t3 a0 4 3 (fun r6 => jdr r6 (fun b7 => jcv t3 b7 1 (J_X1_uncut b7 t3) (fun w9 t8 => jvA w9 (fun b10 => J_X4_isWellLaid_L46   jN a0 b10 0 0 t8)) (fun E t => some (.inr E, t)))) else jgR t3 a0 4 3 (fun r38 => jdr r38 (fun b39 => jcv t3 b39 1 (J_X1_sizeOf b39 v2 t3) (fun w41 t40 => jvI w41 (fun x42 => (if x42 ≤ v1 then rc a0 v1 (v2 + 1) t40 else jrt .boolean 0 t40))) (fun E t => some (.inr E, t))))))) (fun E t => some (.inr E, t))))
def J_X4_isWellLaid_L2   : Nat → Nat → Int32 → Int32 → Hp → jR
  | 0 => fun _ _ _ _ => none
  | n + 1 => J_X4_isWellLaid_L2b   (J_X4_isWellLaid_L2   n)
def J_X4_isWellLaid  (a0 : Nat) (v1 : Int32) (σ : Hp) : jR := J_X4_isWellLaid_L2   jN a0 v1 0 σ
set_option maxHeartbeats 4000000 in
set_option maxRecDepth 100000 in
theorem w_X4_isWellLaid_L46 (l : Launch) (hst : l.stackTraces = false) {p : Program} {e : Env} {s : State} {m : MethodId} {args : Array Value} {below : List Frame} {meth : Method} {c : Code} {g : jG} {o : jO} {τ : Hp}  (C : jC p l s m args meth c g RX4 cX4_isWellLaid 5 (some FieldType.boolean)) (hE : ∀ x ∈ c.exceptionTable.toList, False)  : ∀ (n : Nat) (a0 : Nat) (a2 : Nat) (v3 : Int32) (v4 : Int32) (t0 : Hp), J_X4_isWellLaid_L46   n a0 a2 v3 v4 t0 = some (o, τ) → jW p l e ({ frames := 4, cells := 0, slots := 0, locals := 75 } : Room) s m args below meth c g (jQ below g o τ args s 0 0) 0 0 46 [(0, .ref a0), (2, .ref a2), (3, .int v3), (4, .int v4)] [] t0 := by
  intro n
  induction n with
  | zero => intro a0 a2 v3 v4 t0 h; cases h
  | succ n ih =>
    intro a0 a2 v3 v4 t0 h
    skip
    have h : J_X4_isWellLaid_L46b   (J_X4_isWellLaid_L46   n) a0 a2 v3 v4 t0 = some (o, τ) := h
    unfold J_X4_isWellLaid_L46b at h
    refine r_iload C 48 rfl 3 dX4_isWellLaid_46 rfl ?_
    refine r_aload_n C (x := some a2) 49 rfl 1 dX4_isWellLaid_48 rfl ?_
    refine r_callV C (ci := 2) mm_X4_48 im_yX2_count se_yX2_count rfl 52 0 0 rfl rfl rfl dX4_isWellLaid_49 rfl rfl (As := []) rfl rfl (Nat.le_of_ble_eq_true rfl) ⟨Nat.le_of_ble_eq_true rfl, Nat.le_of_ble_eq_true rfl⟩ ⟨(Nat.le_of_ble_eq_true rfl), (Nat.le_of_ble_eq_true rfl)⟩ (fun o t h => k_X2_count l hst g _ _ o t h) h (fun w12 t11 h => ?_) (fun E t h => r_out C (fun x hx => (hE x hx).elim) (Nat.le_refl _) (Nat.le_refl _) h)
    replace h := jvI_some h
    obtain ⟨x13, rfl, h⟩ := h
    refine r_icmp_ge C 95 55 rfl dX4_isWellLaid_52 (by decide) h (fun h => ?_) (fun h => ?_)
    · refine r_iload_n C 96 rfl 2 dX4_isWellLaid_95 rfl ?_
      refine r_aload_n C (x := some a0) 97 rfl 0 dX4_isWellLaid_96 rfl ?_
      refine r_getR C 100 rfl ff_X4_20 dX4_isWellLaid_97 h (fun r14 h => ?_)
      replace h := jdr_some h
      obtain ⟨b15, hr, h⟩ := h
      rw [hr]
      refine r_callV C (ci := 1) mm_X4_65 im_yX1_uncut se_yX1_uncut rfl 103 0 0 rfl rfl rfl dX4_isWellLaid_100 rfl rfl (As := []) rfl rfl (Nat.le_of_ble_eq_true rfl) ⟨Nat.le_of_ble_eq_true rfl, Nat.le_of_ble_eq_true rfl⟩ ⟨(Nat.le_of_ble_eq_true rfl), (Nat.le_of_ble_eq_true rfl)⟩ (fun o t h => k_X1_uncut l hst g _ _ o t h) h (fun w17 t16 h => ?_) (fun E t h => r_out C (fun x hx => (hE x hx).elim) (Nat.le_refl _) (Nat.le_refl _) h)
      replace h := jvA_some h
      obtain ⟨b18, rfl, h⟩ := h
      refine r_callV C (ci := 2) mm_X4_48 im_yX2_count se_yX2_count rfl 106 0 0 rfl rfl rfl dX4_isWellLaid_103 rfl rfl (As := []) rfl rfl (Nat.le_of_ble_eq_true rfl) ⟨Nat.le_of_ble_eq_true rfl, Nat.le_of_ble_eq_true rfl⟩ ⟨(Nat.le_of_ble_eq_true rfl), (Nat.le_of_ble_eq_true rfl)⟩ (fun o t h => k_X2_count l hst g _ _ o t h) h (fun w20 t19 h => ?_) (fun E t h => r_out C (fun x hx => (hE x hx).elim) (Nat.le_refl _) (Nat.le_refl _) h)
      replace h := jvI_some h
      obtain ⟨x21, rfl, h⟩ := h
      refine r_icmp_ne C 113 109 rfl dX4_isWellLaid_106 (by decide) h (fun h => ?_) (fun h => ?_)
      · refine r_iconst C (v := 0) 114 rfl dX4_isWellLaid_113 (by decide) ?_
        exact r_zret C (fun _ => rfl) dX4_isWellLaid_114 (Nat.le_refl _) (Nat.le_refl _) h
      · refine r_iconst C (v := 1) 110 rfl dX4_isWellLaid_109 (by decide) ?_
        refine r_goto C 114 dX4_isWellLaid_110 (by decide) ?_
        exact r_zret C (fun _ => rfl) dX4_isWellLaid_114 (Nat.le_refl _) (Nat.le_refl _) h
    · refine r_aload_n C (x := some a2) 56 rfl 1 dX4_isWellLaid_55 rfl ?_
      refine r_iload C 58 rfl 3 dX4_isWellLaid_56 rfl ?_
      refine r_callV C (ci := 2) mm_X4_52 im_yX2_get se_yX2_get rfl 61 0 0 rfl rfl rfl dX4_isWellLaid_58 rfl rfl (As := [.int v4]) rfl rfl (Nat.le_of_ble_eq_true rfl) ⟨Nat.le_of_ble_eq_true rfl, Nat.le_of_ble_eq_true rfl⟩ ⟨(Nat.le_of_ble_eq_true rfl), (Nat.le_of_ble_eq_true rfl)⟩ (fun o t h => k_X2_get l hst g _ _ _ o t h) h (fun w23 t22 h => ?_) (fun E t h => r_out C (fun x hx => (hE x hx).elim) (Nat.le_refl _) (Nat.le_refl _) h)
      replace h := jvI_some h
      obtain ⟨x24, rfl, h⟩ := h
      obtain ⟨j89, hj89E, h⟩ := jj_some h
      have hj89 : ∀ (x25 : Int32) (t26 : Hp), j89 x25 t26 = some (o, τ) → jW p l e ({ frames := 4, cells := 0, slots := 0, locals := 75 } : Room) s m args below meth c g (jQ below g o τ args s 0 0) 0 0 89 [(0, .ref a0), (2, .ref a2), (3, .int x25), (4, .int v4)] [] t26 := by
        subst hj89E
        intro x25 t26 h
        refine r_iinc C (v := v4 + 1) 92 rfl 3 [(4, .int (v4 + 1)), (0, .ref a0), (2, .ref a2), (3, .int x25)] dX4_isWellLaid_89 rfl rfl (by decide) rfl ?_
        refine r_goto C 46 dX4_isWellLaid_92 (by decide) ?_
        refine r_lv [1, 2, 3, 0] rfl ?_
        exact ih a0 a2 x25 (v4 + 1) t26 h
      clear hj89E
      refine r_if_eq C 89 64 rfl dX4_isWellLaid_61 (by decide) h (fun h => ?_) (fun h => ?_)
      · exact hj89 v3 t22 h
      · refine r_aload_n C (x := some a2) 65 rfl 1 dX4_isWellLaid_64 rfl ?_
        refine r_iload C 67 rfl 3 dX4_isWellLaid_65 rfl ?_
        refine r_callV C (ci := 2) mm_X4_52 im_yX2_get se_yX2_get rfl 70 0 0 rfl rfl rfl dX4_isWellLaid_67 rfl rfl (As := [.int v4]) rfl rfl (Nat.le_of_ble_eq_true rfl) ⟨Nat.le_of_ble_eq_true rfl, Nat.le_of_ble_eq_true rfl⟩ ⟨(Nat.le_of_ble_eq_true rfl), (Nat.le_of_ble_eq_true rfl)⟩ (fun o t h => k_X2_get l hst g _ _ _ o t h) h (fun w28 t27 h => ?_) (fun E t h => r_out C (fun x hx => (hE x hx).elim) (Nat.le_refl _) (Nat.le_refl _) h)
        replace h := jvI_some h
        obtain ⟨x29, rfl, h⟩ := h
        refine r_aload_n C (x := some a0) 71 rfl 0 dX4_isWellLaid_70 rfl ?_
        refine r_getR C 74 rfl ff_X4_20 dX4_isWellLaid_71 h (fun r30 h => ?_)
        replace h := jdr_some h
        obtain ⟨b31, hr, h⟩ := h
        rw [hr]
        refine r_callV C (ci := 1) mm_X4_65 im_yX1_uncut se_yX1_uncut rfl 77 0 0 rfl rfl rfl dX4_isWellLaid_74 rfl rfl (As := []) rfl rfl (Nat.le_of_ble_eq_true rfl) ⟨Nat.le_of_ble_eq_true rfl, Nat.le_of_ble_eq_true rfl⟩ ⟨(Nat.le_of_ble_eq_true rfl), (Nat.le_of_ble_eq_true rfl)⟩ (fun o t h => k_X1_uncut l hst g _ _ o t h) h (fun w33 t32 h => ?_) (fun E t h => r_out C (fun x hx => (hE x hx).elim) (Nat.le_refl _) (Nat.le_refl _) h)
        replace h := jvA_some h
        obtain ⟨b34, rfl, h⟩ := h
        refine r_iload_n C 78 rfl 2 dX4_isWellLaid_77 rfl ?_
        refine r_callV C (ci := 2) mm_X4_52 im_yX2_get se_yX2_get rfl 81 0 0 rfl rfl rfl dX4_isWellLaid_78 rfl rfl (As := [.int v3]) rfl rfl (Nat.le_of_ble_eq_true rfl) ⟨Nat.le_of_ble_eq_true rfl, Nat.le_of_ble_eq_true rfl⟩ ⟨(Nat.le_of_ble_eq_true rfl), (Nat.le_of_ble_eq_true rfl)⟩ (fun o t h => k_X2_get l hst g _ _ _ o t h) h (fun w36 t35 h => ?_) (fun E t h => r_out C (fun x hx => (hE x hx).elim) (Nat.le_refl _) (Nat.le_refl _) h)
        replace h := jvI_some h
        obtain ⟨x37, rfl, h⟩ := h
        refine r_icmp_eq C 86 84 rfl dX4_isWellLaid_81 (by decide) h (fun h => ?_) (fun h => ?_)
        · refine r_iinc C (v := v3 + 1) 89 rfl 2 [(3, .int (v3 + 1)), (0, .ref a0), (2, .ref a2), (4, .int v4)] dX4_isWellLaid_86 rfl rfl (by decide) rfl ?_
          refine r_lv [1, 2, 0, 3] rfl ?_
          exact hj89 (v3 + 1) t35 h
        · refine r_iconst C (v := 0) 85 rfl dX4_isWellLaid_84 (by decide) ?_
          exact r_zret C (fun _ => rfl) dX4_isWellLaid_85 (Nat.le_refl _) (Nat.le_refl _) h
set_option maxHeartbeats 4000000 in
set_option maxRecDepth 100000 in
theorem w_X4_isWellLaid_L2 (l : Launch) (hst : l.stackTraces = false) {p : Program} {e : Env} {s : State} {m : MethodId} {args : Array Value} {below : List Frame} {meth : Method} {c : Code} {g : jG} {o : jO} {τ : Hp}  (C : jC p l s m args meth c g RX4 cX4_isWellLaid 5 (some FieldType.boolean)) (hE : ∀ x ∈ c.exceptionTable.toList, False)  : ∀ (n : Nat) (a0 : Nat) (v1 : Int32) (v2 : Int32) (t0 : Hp), J_X4_isWellLaid_L2   n a0 v1 v2 t0 = some (o, τ) → jW p l e ({ frames := 4, cells := 0, slots := 0, locals := 75 } : Room) s m args below meth c g (jQ below g o τ args s 0 0) 0 0 2 [(0, .ref a0), (1, .int v1), (2, .int v2)] [] t0 := by
  intro n
  induction n with
  | zero => intro a0 v1 v2 t0 h; cases h
  | succ n ih =>
    intro a0 v1 v2 t0 h
    skip
    have h : J_X4_isWellLaid_L2b   (J_X4_isWellLaid_L2   n) a0 v1 v2 t0 = some (o, τ) := h
    unfold J_X4_isWellLaid_L2b at h
    refine r_iload_n C 3 rfl 2 dX4_isWellLaid_2 rfl ?_
    refine r_aload_n C (x := some a0) 4 rfl 0 dX4_isWellLaid_3 rfl ?_
    refine r_getR C 7 rfl ff_X4_32 dX4_isWellLaid_4 h (fun r1 h => ?_)
    replace h := jdr_some h
    obtain ⟨b2, hr, h⟩ := h
    rw [hr]
    refine r_callV C (ci := 1) mm_X4_63 im_yX1_count se_yX1_count rfl 10 0 0 rfl rfl rfl dX4_isWellLaid_7 rfl rfl (As := []) rfl rfl (Nat.le_of_ble_eq_true rfl) ⟨Nat.le_of_ble_eq_true rfl, Nat.le_of_ble_eq_true rfl⟩ ⟨(Nat.le_of_ble_eq_true rfl), (Nat.le_of_ble_eq_true rfl)⟩ (fun o t h => k_X1_count l hst g _ _ o t h) h (fun w4 t3 h => ?_) (fun E t h => r_out C (fun x hx => (hE x hx).elim) (Nat.le_refl _) (Nat.le_refl _) h)
    replace h := jvI_some h
    obtain ⟨x5, rfl, h⟩ := h
    refine r_icmp_ge C 33 13 rfl dX4_isWellLaid_10 (by decide) h (fun h => ?_) (fun h => ?_)
    · refine r_aload_n C (x := some a0) 34 rfl 0 dX4_isWellLaid_33 rfl ?_
      refine r_getR C 37 rfl ff_X4_32 dX4_isWellLaid_34 h (fun r6 h => ?_)
      replace h := jdr_some h
      obtain ⟨b7, hr, h⟩ := h
      rw [hr]
      refine r_callV C (ci := 1) mm_X4_65 im_yX1_uncut se_yX1_uncut rfl 40 0 0 rfl rfl rfl dX4_isWellLaid_37 rfl rfl (As := []) rfl rfl (Nat.le_of_ble_eq_true rfl) ⟨Nat.le_of_ble_eq_true rfl, Nat.le_of_ble_eq_true rfl⟩ ⟨(Nat.le_of_ble_eq_true rfl), (Nat.le_of_ble_eq_true rfl)⟩ (fun o t h => k_X1_uncut l hst g _ _ o t h) h (fun w9 t8 h => ?_) (fun E t h => r_out C (fun x hx => (hE x hx).elim) (Nat.le_refl _) (Nat.le_refl _) h)
      replace h := jvA_some h
      obtain ⟨b10, rfl, h⟩ := h
      refine r_astore_n C (x := some b10) 41 rfl [(2, .ref b10), (0, .ref a0), (1, .int v1)] dX4_isWellLaid_40 (by decide) rfl ?_
      refine r_iconst C (v := 0) 42 rfl dX4_isWellLaid_41 (by decide) ?_
      refine r_istore_n C 43 rfl [(3, .int 0), (2, .ref b10), (0, .ref a0), (1, .int v1)] dX4_isWellLaid_42 (by decide) rfl ?_
      refine r_iconst C (v := 0) 44 rfl dX4_isWellLaid_43 (by decide) ?_
      refine r_istore C 46 rfl [(4, .int 0), (3, .int 0), (2, .ref b10), (0, .ref a0), (1, .int v1)] dX4_isWellLaid_44 (by decide) rfl ?_
      refine r_lv [3, 2, 1, 0] rfl ?_
      refine w_X4_isWellLaid_L46 l hst  C hE   jN a0 b10 0 0 t8 h
    · refine r_aload_n C (x := some a0) 14 rfl 0 dX4_isWellLaid_13 rfl ?_
      refine r_getR C 17 rfl ff_X4_32 dX4_isWellLaid_14 h (fun r38 h => ?_)
      refine r_iload_n C 18 rfl 2 dX4_isWellLaid_17 rfl ?_
      replace h := jdr_some h
      obtain ⟨b39, hr, h⟩ := h
      rw [hr]
      refine r_callV C (ci := 1) mm_X4_92 im_yX1_sizeOf se_yX1_sizeOf rfl 21 0 0 rfl rfl rfl dX4_isWellLaid_18 rfl rfl (As := [.int v2]) rfl rfl (Nat.le_of_ble_eq_true rfl) ⟨Nat.le_of_ble_eq_true rfl, Nat.le_of_ble_eq_true rfl⟩ ⟨(Nat.le_of_ble_eq_true rfl), (Nat.le_of_ble_eq_true rfl)⟩ (fun o t h => k_X1_sizeOf l hst g _ _ _ o t h) h (fun w41 t40 h => ?_) (fun E t h => r_out C (fun x hx => (hE x hx).elim) (Nat.le_refl _) (Nat.le_refl _) h)
      replace h := jvI_some h
      obtain ⟨x42, rfl, h⟩ := h
      refine r_iload_n C 22 rfl 1 dX4_isWellLaid_21 rfl ?_
      refine r_icmp_le C 27 25 rfl dX4_isWellLaid_22 (by decide) h (fun h => ?_) (fun h => ?_)
      · refine r_iinc C (v := v2 + 1) 30 rfl 2 [(2, .int (v2 + 1)), (0, .ref a0), (1, .int v1)] dX4_isWellLaid_27 rfl rfl (by decide) rfl ?_
        refine r_goto C 2 dX4_isWellLaid_30 (by decide) ?_
        refine r_lv [1, 2, 0] rfl ?_
        exact ih a0 v1 (v2 + 1) t40 h
      · refine r_iconst C (v := 0) 26 rfl dX4_isWellLaid_25 (by decide) ?_
        exact r_zret C (fun _ => rfl) dX4_isWellLaid_26 (Nat.le_refl _) (Nat.le_refl _) h
set_option maxHeartbeats 4000000 in
set_option maxRecDepth 100000 in
theorem k_X4_isWellLaid (l : Launch) (hst : l.stackTraces = false) (g : jG)   (a0 : Nat) (v1 : Int32) (σ : Hp) (o : jO) (τ : Hp) (h : J_X4_isWellLaid a0 v1 σ = some (o, τ)) : jMet l g yX4_isWellLaid (Cond.code yX4_isWellLaid cX4_isWellLaid 5 (some FieldType.boolean) :: gT) ({ frames := 4, cells := 0, slots := 0, locals := 75 } : Room) 0 0 [.ref a0, .int v1] σ o τ := by
  refine j_start l hst (own := RX4) (by decide) rfl (Nat.le_of_ble_eq_true rfl) ?_
  intro p e s m args below meth c C hE hin
  unfold J_X4_isWellLaid at h
  show jW p l e ({ frames := 4, cells := 0, slots := 0, locals := 75 } : Room) s m args below meth c g (jQ below g o τ args s 0 0) 0 0 0 [(0, .ref a0), (1, .int v1)] [] σ
  refine r_iconst C (v := 0) 1 rfl dX4_isWellLaid_0 (by decide) ?_
  refine r_istore_n C 2 rfl [(2, .int 0), (0, .ref a0), (1, .int v1)] dX4_isWellLaid_1 (by decide) rfl ?_
  refine r_lv [1, 2, 0] rfl ?_
  refine w_X4_isWellLaid_L2 l hst  C hE   jN a0 v1 0 σ h
