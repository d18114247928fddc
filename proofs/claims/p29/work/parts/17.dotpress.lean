def J_X5_init  (a0 : Nat) (σ : Hp) : jR := jnw σ 2 (fun b1 t2 => jcv t2 b1 2 (J_X2_init 80 b1 80 t2) (fun w4 t3 => jvV w4 (jpR t3 a0 5 0 (some b1) (fun t5 => jnw t5 3 (fun b6 t7 => jcv t7 b6 3 (J_X3_init b6 t7) (fun w9 t8 => jvV w9 (jpR t8 a0 5 1 (some b6) (fun t10 => jnw t10 0 (fun b11 t12 => jcv t12 b11 0 (J_X0_init b11 t12) (fun w14 t13 => jvV w14 (jpR t13 a0 5 2 (some b11) (fun t15 => jnA t15 5 6 6 (fun b16 t17 => jpR t17 a0 5 3 (some b16) (fun t18 => jnw t18 1 (fun b19 t20 => jcv t20 b19 1 (J_X1_init 40 160 b19 40 160 t20) (fun w22 t21 => jvV w22 (jpR t21 a0 5 4 (some b19) (fun t23 => jpI t23 a0 5 5 0 (fun t24 => jpI t24 a0 5 6 20 (fun t25 => some (.inl none, t25)))))) (fun E t => some (.inr E, t)))))))) (fun E t => some (.inr E, t)))))) (fun E t => some (.inr E, t)))))) (fun E t => some (.inr E, t)))
set_option maxHeartbeats 4000000 in
set_option maxRecDepth 100000 in
theorem k_X5_init (l : Launch) (hst : l.stackTraces = false) (g : jG)   (a0 : Nat) (σ : Hp) (o : jO) (τ : Hp) (h : J_X5_init a0 σ = some (o, τ)) : jMet l g yX5_init (Cond.code yX5_init cX5_init 1 none :: gT) ({ frames := 4, cells := 27, slots := 2112, locals := 89 } : Room) 27 2112 [.ref a0] σ o τ := by
  refine j_start l hst (own := RX5) (by decide) rfl (Nat.le_of_ble_eq_true rfl) ?_
  intro p e s m args below meth c C hE hin
  unfold J_X5_init at h
  show jW p l e ({ frames := 4, cells := 27, slots := 2112, locals := 89 } : Room) s m args below meth c g (jQ below g o τ args s 27 2112) 0 0 0 [(0, .ref a0)] [] σ
  refine r_aload_n C (x := some a0) 1 rfl 0 dX5_init_0 rfl ?_
  refine r_objInit C 4 rfl ml_X5_3 im_oi cd_oi dX5_init_1 (Nat.le_of_ble_eq_true rfl) (Nat.le_of_ble_eq_true rfl) ?_
  refine r_aload_n C (x := some a0) 5 rfl 0 dX5_init_4 rfl ?_
  refine r_new C 8 rfl tyX2 (ci := 2) rfl tyX2_ok nw_X2 lay_X2 cl_X5_9 ins_X2 ini_X2 dX5_init_5 (Nat.le_of_ble_eq_true rfl) (Nat.le_of_ble_eq_true rfl) h (fun b1 t2 h => ?_)
  refine r_dup C 9 rfl dX5_init_8 rfl ?_
  refine r_bipush C (v := 80) 11 rfl dX5_init_9 (by decide) ?_
  refine r_callI C (ci := 2) mm_X5_11 im_yX2_init rfl 14 2 82 rfl rfl rfl dX5_init_11 rfl rfl (As := [.int 80]) rfl rfl (Nat.le_of_ble_eq_true rfl) ⟨Nat.le_of_ble_eq_true rfl, Nat.le_of_ble_eq_true rfl⟩ ⟨(Nat.le_of_ble_eq_true rfl), (Nat.le_of_ble_eq_true rfl)⟩ (fun o t h => k_X2_init l hst g 80 (by decide) _ _ _ o t h) h (fun w4 t3 h => ?_) (fun E t h => r_out C (fun x hx => (hE x hx).elim) (Nat.le_of_ble_eq_true rfl) (Nat.le_of_ble_eq_true rfl) h)
  replace h := jvV_some h
  obtain ⟨rfl, h⟩ := h
  refine r_putRF C hin (v := (some b1)) 17 rfl fp_X5_14 dX5_init_14 h (fun t5 h => ?_)
  refine r_aload_n C (x := some a0) 18 rfl 0 dX5_init_17 rfl ?_
  refine r_new C 21 rfl tyX3 (ci := 3) rfl tyX3_ok nw_X3 lay_X3 cl_X5_18 ins_X3 ini_X3 dX5_init_18 (Nat.le_of_ble_eq_true rfl) (Nat.le_of_ble_eq_true rfl) h (fun b6 t7 h => ?_)
  refine r_dup C 22 rfl dX5_init_21 rfl ?_
  refine r_callIN C (ci := 3) mn_X5_20_ im_yX3_init rfl 25 16 1881 rfl rfl rfl dX5_init_22 rfl rfl (As := []) rfl rfl (Nat.le_of_ble_eq_true rfl) ⟨Nat.le_of_ble_eq_true rfl, Nat.le_of_ble_eq_true rfl⟩ ⟨(Nat.le_of_ble_eq_true rfl), (Nat.le_of_ble_eq_true rfl)⟩ (fun o t h => k_X3_init l hst g _ _ o t h) h (fun w9 t8 h => ?_) (fun E t h => r_out C (fun x hx => (hE x hx).elim) (Nat.le_of_ble_eq_true rfl) (Nat.le_of_ble_eq_true rfl) h)
  replace h := jvV_some h
  obtain ⟨rfl, h⟩ := h
  refine r_putRF C hin (v := (some b6)) 28 rfl fp_X5_21 dX5_init_25 h (fun t10 h => ?_)
  refine r_aload_n C (x := some a0) 29 rfl 0 dX5_init_28 rfl ?_
  refine r_new C 32 rfl tyX0 (ci := 0) rfl tyX0_ok nw_X0 lay_X0 cl_X5_25 ins_X0 ini_X0 dX5_init_29 (Nat.le_of_ble_eq_true rfl) (Nat.le_of_ble_eq_true rfl) h (fun b11 t12 h => ?_)
  refine r_dup C 33 rfl dX5_init_32 rfl ?_
  refine r_callI C (ci := 0) mm_X5_27 im_yX0_init rfl 36 21 1900 rfl rfl rfl dX5_init_33 rfl rfl (As := []) rfl rfl (Nat.le_of_ble_eq_true rfl) ⟨Nat.le_of_ble_eq_true rfl, Nat.le_of_ble_eq_true rfl⟩ ⟨(Nat.le_of_ble_eq_true rfl), (Nat.le_of_ble_eq_true rfl)⟩ (fun o t h => k_X0_init l hst g _ _ o t h) h (fun w14 t13 h => ?_) (fun E t h => r_out C (fun x hx => (hE x hx).elim) (Nat.le_of_ble_eq_true rfl) (Nat.le_of_ble_eq_true rfl) h)
  replace h := jvV_some h
  obtain ⟨rfl, h⟩ := h
  refine r_putRF C hin (v := (some b11)) 39 rfl fp_X5_28 dX5_init_36 h (fun t15 h => ?_)
  refine r_aload_n C (x := some a0) 40 rfl 0 dX5_init_39 rfl ?_
  refine r_bipush C (v := 6) 42 rfl dX5_init_40 (by decide) ?_
  refine r_newT C 45 rfl cl_X5_32 dX5_init_42 (by decide) (Nat.le_of_ble_eq_true rfl) (Nat.le_of_ble_eq_true rfl) h (fun b16 t17 h => ?_)
  refine r_putRF C hin (v := (some b16)) 48 rfl fp_X5_34 dX5_init_45 h (fun t18 h => ?_)
  refine r_aload_n C (x := some a0) 49 rfl 0 dX5_init_48 rfl ?_
  refine r_new C 52 rfl tyX1 (ci := 1) rfl tyX1_ok nw_X1 lay_X1 cl_X5_38 ins_X1 ini_X1 dX5_init_49 (Nat.le_of_ble_eq_true rfl) (Nat.le_of_ble_eq_true rfl) h (fun b19 t20 h => ?_)
  refine r_dup C 53 rfl dX5_init_52 rfl ?_
  refine r_bipush C (v := 40) 55 rfl dX5_init_53 (by decide) ?_
  refine r_sipush C (v := 160) 58 rfl dX5_init_55 (by decide) ?_
  refine r_callI C (ci := 1) mm_X5_40 im_yX1_init rfl 61 27 2112 rfl rfl rfl dX5_init_58 rfl rfl (As := [.int 40, .int 160]) rfl rfl (Nat.le_of_ble_eq_true rfl) ⟨Nat.le_of_ble_eq_true rfl, Nat.le_of_ble_eq_true rfl⟩ ⟨(Nat.le_of_ble_eq_true rfl), (Nat.le_of_ble_eq_true rfl)⟩ (fun o t h => k_X1_init l hst g 40 160 (by decide) (by decide) _ _ _ _ o t h) h (fun w22 t21 h => ?_) (fun E t h => r_out C (fun x hx => (hE x hx).elim) (Nat.le_refl _) (Nat.le_refl _) h)
  replace h := jvV_some h
  obtain ⟨rfl, h⟩ := h
  refine r_putRF C hin (v := (some b19)) 64 rfl fp_X5_43 dX5_init_61 h (fun t23 h => ?_)
  refine r_aload_n C (x := some a0) 65 rfl 0 dX5_init_64 rfl ?_
  refine r_iconst C (v := 0) 66 rfl dX5_init_65 (by decide) ?_
  refine r_putI C 69 rfl fp_X5_47 dX5_init_66 h (fun t24 h => ?_)
  refine r_aload_n C (x := some a0) 70 rfl 0 dX5_init_69 rfl ?_
  refine r_bipush C (v := 20) 72 rfl dX5_init_70 (by decide) ?_
  refine r_putI C 75 rfl fp_X5_51 dX5_init_72 h (fun t25 h => ?_)
  exact r_vret C dX5_init_75 (Nat.le_refl _) (Nat.le_refl _) h

def J_X5_type  (a0 : Nat) (v1 : Int32) (σ : Hp) : jR := jj (fun (t1 : Hp) => jgR t1 a0 5 0 (fun r2 => jdr r2 (fun b3 => jcv t1 b3 2 (J_X2_isFull b3 t1) (fun w5 t4 => jvI w5 (fun x6 => (if x6 = 0 then jgR t4 a0 5 0 (fun r7 => jdr r7 (fun b8 => jcv t4 b8 2 (J_X2_add b8 v1 t4) (fun w10 t9 => jvV w10 (jgR t9 a0 5 0 (fun r11 => jdr r11 (fun b12 => jcv t9 b12 2 (J_X2_count b12 t9) (fun w14 t13 => jvI w14 (fun x15 => some (.inl (some (.int x15)), t13))) (fun E t => some (.inr E, t)))))) (fun E t => some (.inr E, t)))) else some (.inr "java/lang/IllegalStateException", thS t4)))) (fun E t => some (.inr E, t))))) (fun j28 => (if v1 = 32 then j28 σ else jj (fun (t16 : Hp) => some (.inr "java/lang/IllegalArgumentException", thS t16)) (fun j18 => (if v1 < 97 then j18 σ else (if v1 ≤ 122 then j28 σ else j18 σ)))))
set_option maxHeartbeats 4000000 in
set_option maxRecDepth 100000 in
theorem k_X5_type (l : Launch) (hst : l.stackTraces = false) (g : jG)   (a0 : Nat) (v1 : Int32) (σ : Hp) (o : jO) (τ : Hp) (h : J_X5_type a0 v1 σ = some (o, τ)) : jMet l g yX5_type (Cond.code yX5_type cX5_type 2 (some FieldType.int) :: gT) ({ frames := 6, cells := 1, slots := 6, locals := 100 } : Room) 1 6 [.ref a0, .int v1] σ o τ := by
  refine j_start l hst (own := RX5) (by decide) rfl (Nat.le_of_ble_eq_true rfl) ?_
  intro p e s m args below meth c C hE hin
  unfold J_X5_type at h
  show jW p l e ({ frames := 6, cells := 1, slots := 6, locals := 100 } : Room) s m args below meth c g (jQ below g o τ args s 1 6) 0 0 0 [(0, .ref a0), (1, .int v1)] [] σ
  refine r_iload_n C 1 rfl 1 dX5_type_0 rfl ?_
  refine r_bipush C (v := 32) 3 rfl dX5_type_1 (by decide) ?_
  obtain ⟨j28, hj28E, h⟩ := jj_some h
  have hj28 : ∀ (t1 : Hp), j28 t1 = some (o, τ) → jW p l e ({ frames := 6, cells := 1, slots := 6, locals := 100 } : Room) s m args below meth c g (jQ below g o τ args s 1 6) 0 0 28 [(0, .ref a0), (1, .int v1)] [] t1 := by
    subst hj28E
    intro t1 h
    refine r_aload_n C (x := some a0) 29 rfl 0 dX5_type_28 rfl ?_
    refine r_getR C 32 rfl ff_X5_14 dX5_type_29 h (fun r2 h => ?_)
    replace h := jdr_some h
    obtain ⟨b3, hr, h⟩ := h
    rw [hr]
    refine r_callV C (ci := 2) mm_X5_61 im_yX2_isFull se_yX2_isFull rfl 35 0 0 rfl rfl rfl dX5_type_32 rfl rfl (As := []) rfl rfl (Nat.le_of_ble_eq_true rfl) ⟨Nat.le_of_ble_eq_true rfl, Nat.le_of_ble_eq_true rfl⟩ ⟨(Nat.le_of_ble_eq_true rfl), (Nat.le_of_ble_eq_true rfl)⟩ (fun o t h => k_X2_isFull l hst g _ _ o t h) h (fun w5 t4 h => ?_) (fun E t h => r_out C (fun x hx => (hE x hx).elim) (Nat.le_of_ble_eq_true rfl) (Nat.le_of_ble_eq_true rfl) h)
    replace h := jvI_some h
    obtain ⟨x6, rfl, h⟩ := h
    refine r_if_eq C 48 38 rfl dX5_type_35 (by decide) h (fun h => ?_) (fun h => ?_)
    · refine r_aload_n C (x := some a0) 49 rfl 0 dX5_type_48 rfl ?_
      refine r_getR C 52 rfl ff_X5_14 dX5_type_49 h (fun r7 h => ?_)
      refine r_iload_n C 53 rfl 1 dX5_type_52 rfl ?_
      replace h := jdr_some h
      obtain ⟨b8, hr, h⟩ := h
      rw [hr]
      refine r_callV C (ci := 2) mm_X5_70 im_yX2_add se_yX2_add rfl 56 0 0 rfl rfl rfl dX5_type_53 rfl rfl (As := [.int v1]) rfl rfl (Nat.le_of_ble_eq_true rfl) ⟨Nat.le_of_ble_eq_true rfl, Nat.le_of_ble_eq_true rfl⟩ ⟨(Nat.le_of_ble_eq_true rfl), (Nat.le_of_ble_eq_true rfl)⟩ (fun o t h => k_X2_add l hst g _ _ _ o t h) h (fun w10 t9 h => ?_) (fun E t h => r_out C (fun x hx => (hE x hx).elim) (Nat.le_of_ble_eq_true rfl) (Nat.le_of_ble_eq_true rfl) h)
      replace h := jvV_some h
      obtain ⟨rfl, h⟩ := h
      refine r_aload_n C (x := some a0) 57 rfl 0 dX5_type_56 rfl ?_
      refine r_getR C 60 rfl ff_X5_14 dX5_type_57 h (fun r11 h => ?_)
      replace h := jdr_some h
      obtain ⟨b12, hr, h⟩ := h
      rw [hr]
      refine r_callV C (ci := 2) mm_X5_73 im_yX2_count se_yX2_count rfl 63 0 0 rfl rfl rfl dX5_type_60 rfl rfl (As := []) rfl rfl (Nat.le_of_ble_eq_true rfl) ⟨Nat.le_of_ble_eq_true rfl, Nat.le_of_ble_eq_true rfl⟩ ⟨(Nat.le_of_ble_eq_true rfl), (Nat.le_of_ble_eq_true rfl)⟩ (fun o t h => k_X2_count l hst g _ _ o t h) h (fun w14 t13 h => ?_) (fun E t h => r_out C (fun x hx => (hE x hx).elim) (Nat.le_of_ble_eq_true rfl) (Nat.le_of_ble_eq_true rfl) h)
      replace h := jvI_some h
      obtain ⟨x15, rfl, h⟩ := h
      exact r_iret C dX5_type_63 (Nat.le_of_ble_eq_true rfl) (Nat.le_of_ble_eq_true rfl) h
    · exact r_throw C th_X5_65_67 dX5_type_38 dX5_type_41 dX5_type_42 dX5_type_44 dX5_type_47 hE (Nat.le_of_ble_eq_true rfl) (Nat.le_of_ble_eq_true rfl) (Nat.le_of_ble_eq_true rfl) (Nat.le_of_ble_eq_true rfl) (Nat.le_of_ble_eq_true rfl) (Nat.le_of_ble_eq_true rfl) h
  clear hj28E
  refine r_icmp_eq C 28 6 rfl dX5_type_3 (by decide) h (fun h => ?_) (fun h => ?_)
  · exact hj28 σ h
  · refine r_iload_n C 7 rfl 1 dX5_type_6 rfl ?_
    refine r_bipush C (v := 97) 9 rfl dX5_type_7 (by decide) ?_
    obtain ⟨j18, hj18E, h⟩ := jj_some h
    have hj18 : ∀ (t16 : Hp), j18 t16 = some (o, τ) → jW p l e ({ frames := 6, cells := 1, slots := 6, locals := 100 } : Room) s m args below meth c g (jQ below g o τ args s 1 6) 0 0 18 [] [] t16 := by
      subst hj18E
      intro t16 h
      exact r_throw C th_X5_54_56 dX5_type_18 dX5_type_21 dX5_type_22 dX5_type_24 dX5_type_27 hE (Nat.le_of_ble_eq_true rfl) (Nat.le_of_ble_eq_true rfl) (Nat.le_of_ble_eq_true rfl) (Nat.le_of_ble_eq_true rfl) (Nat.le_of_ble_eq_true rfl) (Nat.le_of_ble_eq_true rfl) h
    clear hj18E
    refine r_icmp_lt C 18 12 rfl dX5_type_9 (by decide) h (fun h => ?_) (fun h => ?_)
    · refine r_lv [] rfl ?_
      exact hj18 σ h
    · refine r_iload_n C 13 rfl 1 dX5_type_12 rfl ?_
      refine r_bipush C (v := 122) 15 rfl dX5_type_13 (by decide) ?_
      refine r_icmp_le C 28 18 rfl dX5_type_15 (by decide) h (fun h => ?_) (fun h => ?_)
      · exact hj28 σ h
      · refine r_lv [] rfl ?_
        exact hj18 σ h

def J_X5_clear  (a0 : Nat) (σ : Hp) : jR := jgR σ a0 5 0 (fun r1 => jdr r1 (fun b2 => jcv σ b2 2 (J_X2_count b2 σ) (fun w4 t3 => jvI w4 (fun x5 => jgR t3 a0 5 0 (fun r6 => jdr r6 (fun b7 => jcv t3 b7 2 (J_X2_empty b7 t3) (fun w9 t8 => jvV w9 (some (.inl (some (.int x5)), t8))) (fun E t => some (.inr E, t)))))) (fun E t => some (.inr E, t))))
set_option maxHeartbeats 4000000 in
set_option maxRecDepth 100000 in
theorem k_X5_clear (l : Launch) (hst : l.stackTraces = false) (g : jG)   (a0 : Nat) (σ : Hp) (o : jO) (τ : Hp) (h : J_X5_clear a0 σ = some (o, τ)) : jMet l g yX5_clear (Cond.code yX5_clear cX5_clear 2 (some FieldType.int) :: gT) ({ frames := 2, cells := 0, slots := 0, locals := 32 } : Room) 0 0 [.ref a0] σ o τ := by
  refine j_start l hst (own := RX5) (by decide) rfl (Nat.le_of_ble_eq_true rfl) ?_
  intro p e s m args below meth c C hE hin
  unfold J_X5_clear at h
  show jW p l e ({ frames := 2, cells := 0, slots := 0, locals := 32 } : Room) s m args below meth c g (jQ below g o τ args s 0 0) 0 0 0 [(0, .ref a0)] [] σ
  refine r_aload_n C (x := some a0) 1 rfl 0 dX5_clear_0 rfl ?_
  refine r_getR C 4 rfl ff_X5_14 dX5_clear_1 h (fun r1 h => ?_)
  replace h := jdr_some h
  obtain ⟨b2, hr, h⟩ := h
  rw [hr]
  refine r_callV C (ci := 2) mm_X5_73 im_yX2_count se_yX2_count rfl 7 0 0 rfl rfl rfl dX5_clear_4 rfl rfl (As := []) rfl rfl (Nat.le_of_ble_eq_true rfl) ⟨Nat.le_of_ble_eq_true rfl, Nat.le_of_ble_eq_true rfl⟩ ⟨(Nat.le_of_ble_eq_true rfl), (Nat.le_of_ble_eq_true rfl)⟩ (fun o t h => k_X2_count l hst g _ _ o t h) h (fun w4 t3 h => ?_) (fun E t h => r_out C (fun x hx => (hE x hx).elim) (Nat.le_refl _) (Nat.le_refl _) h)
  replace h := jvI_some h
  obtain ⟨x5, rfl, h⟩ := h
  refine r_istore_n C 8 rfl [(1, .int x5), (0, .ref a0)] dX5_clear_7 (by decide) rfl ?_
  refine r_aload_n C (x := some a0) 9 rfl 1 dX5_clear_8 rfl ?_
  refine r_getR C 12 rfl ff_X5_14 dX5_clear_9 h (fun r6 h => ?_)
  replace h := jdr_some h
  obtain ⟨b7, hr, h⟩ := h
  rw [hr]
  refine r_callV C (ci := 2) mm_X5_77 im_yX2_empty se_yX2_empty rfl 15 0 0 rfl rfl rfl dX5_clear_12 rfl rfl (As := []) rfl rfl (Nat.le_of_ble_eq_true rfl) ⟨Nat.le_of_ble_eq_true rfl, Nat.le_of_ble_eq_true rfl⟩ ⟨(Nat.le_of_ble_eq_true rfl), (Nat.le_of_ble_eq_true rfl)⟩ (fun o t h => k_X2_empty l hst g _ _ o t h) h (fun w9 t8 h => ?_) (fun E t h => r_out C (fun x hx => (hE x hx).elim) (Nat.le_refl _) (Nat.le_refl _) h)
  replace h := jvV_some h
  obtain ⟨rfl, h⟩ := h
  refine r_iload_n C 16 rfl 0 dX5_clear_15 rfl ?_
  exact r_iret C dX5_clear_16 (Nat.le_refl _) (Nat.le_refl _) h

def J_X5_typedKey  (a0 : Nat) (σ : Hp) : jR := jgR σ a0 5 0 (fun r1 => jdr r1 (fun b2 => jcv σ b2 2 (J_X2_placeOf b2 32 σ) (fun w4 t3 => jvI w4 (fun x5 => (if x5 = ((-1)) then jgR t3 a0 5 0 (fun r6 => jgR t3 a0 5 0 (fun r7 => jdr r7 (fun b8 => jdr r6 (fun b9 => jcv t3 b8 2 (J_X2_count b8 t3) (fun w11 t10 => jvI w11 (fun x12 => jcs (J_X3_keyOf b9 0 x12 t10) (fun w14 t13 => jvI w14 (fun x15 => some (.inl (some (.int x15)), t13))) (fun E t => some (.inr E, t)))) (fun E t => some (.inr E, t)))))) else some (.inl (some (.int 0)), t3)))) (fun E t => some (.inr E, t))))
set_option maxHeartbeats 4000000 in
set_option maxRecDepth 100000 in
theorem k_X5_typedKey (l : Launch) (hst : l.stackTraces = false) (g : jG)   (a0 : Nat) (σ : Hp) (o : jO) (τ : Hp) (h : J_X5_typedKey a0 σ = some (o, τ)) : jMet l g yX5_typedKey (Cond.code yX5_typedKey cX5_typedKey 1 (some FieldType.int) :: gT) ({ frames := 3, cells := 0, slots := 0, locals := 58 } : Room) 0 0 [.ref a0] σ o τ := by
  refine j_start l hst (own := RX5) (by decide) rfl (Nat.le_of_ble_eq_true rfl) ?_
  intro p e s m args below meth c C hE hin
  unfold J_X5_typedKey at h
  show jW p l e ({ frames := 3, cells := 0, slots := 0, locals := 58 } : Room) s m args below meth c g (jQ below g o τ args s 0 0) 0 0 0 [(0, .ref a0)] [] σ
  refine r_aload_n C (x := some a0) 1 rfl 0 dX5_typedKey_0 rfl ?_
  refine r_getR C 4 rfl ff_X5_14 dX5_typedKey_1 h (fun r1 h => ?_)
  refine r_bipush C (v := 32) 6 rfl dX5_typedKey_4 (by decide) ?_
  replace h := jdr_some h
  obtain ⟨b2, hr, h⟩ := h
  rw [hr]
  refine r_callV C (ci := 2) mm_X5_138 im_yX2_placeOf se_yX2_placeOf rfl 9 0 0 rfl rfl rfl dX5_typedKey_6 rfl rfl (As := [.int 32]) rfl rfl (Nat.le_of_ble_eq_true rfl) ⟨Nat.le_of_ble_eq_true rfl, Nat.le_of_ble_eq_true rfl⟩ ⟨(Nat.le_of_ble_eq_true rfl), (Nat.le_of_ble_eq_true rfl)⟩ (fun o t h => k_X2_placeOf l hst g _ _ _ o t h) h (fun w4 t3 h => ?_) (fun E t h => r_out C (fun x hx => (hE x hx).elim) (Nat.le_refl _) (Nat.le_refl _) h)
  replace h := jvI_some h
  obtain ⟨x5, rfl, h⟩ := h
  refine r_iconst C (v := (-1)) 10 rfl dX5_typedKey_9 (by decide) ?_
  refine r_icmp_eq C 15 13 rfl dX5_typedKey_10 (by decide) h (fun h => ?_) (fun h => ?_)
  · refine r_aload_n C (x := some a0) 16 rfl 0 dX5_typedKey_15 rfl ?_
    refine r_getR C 19 rfl ff_X5_14 dX5_typedKey_16 h (fun r6 h => ?_)
    refine r_iconst C (v := 0) 20 rfl dX5_typedKey_19 (by decide) ?_
    refine r_aload_n C (x := some a0) 21 rfl 0 dX5_typedKey_20 rfl ?_
    refine r_getR C 24 rfl ff_X5_14 dX5_typedKey_21 h (fun r7 h => ?_)
    replace h := jdr_some h
    obtain ⟨b8, hr, h⟩ := h
    rw [hr]
    replace h := jdr_some h
    obtain ⟨b9, hr, h⟩ := h
    rw [hr]
    refine r_callV C (ci := 2) mm_X5_73 im_yX2_count se_yX2_count rfl 27 0 0 rfl rfl rfl dX5_typedKey_24 rfl rfl (As := []) rfl rfl (Nat.le_of_ble_eq_true rfl) ⟨Nat.le_of_ble_eq_true rfl, Nat.le_of_ble_eq_true rfl⟩ ⟨(Nat.le_of_ble_eq_true rfl), (Nat.le_of_ble_eq_true rfl)⟩ (fun o t h => k_X2_count l hst g _ _ o t h) h (fun w11 t10 h => ?_) (fun E t h => r_out C (fun x hx => (hE x hx).elim) (Nat.le_refl _) (Nat.le_refl _) h)
    replace h := jvI_some h
    obtain ⟨x12, rfl, h⟩ := h
    refine r_callS C mm_X5_286 st_yX3_keyOf 30 0 0 rfl rfl rfl dX5_typedKey_27 rfl rfl (As := [.ref b9, .int 0, .int x12]) rfl rfl (Nat.le_of_ble_eq_true rfl) ⟨Nat.le_of_ble_eq_true rfl, Nat.le_of_ble_eq_true rfl⟩ ⟨(Nat.le_of_ble_eq_true rfl), (Nat.le_of_ble_eq_true rfl)⟩ (fun o t h => k_X3_keyOf l hst g _ _ _ _ o t h) h (fun w14 t13 h => ?_) (fun E t h => r_out C (fun x hx => (hE x hx).elim) (Nat.le_refl _) (Nat.le_refl _) h)
    replace h := jvI_some h
    obtain ⟨x15, rfl, h⟩ := h
    exact r_iret C dX5_typedKey_30 (Nat.le_refl _) (Nat.le_refl _) h
  · refine r_iconst C (v := 0) 14 rfl dX5_typedKey_13 (by decide) ?_
    exact r_iret C dX5_typedKey_14 (Nat.le_refl _) (Nat.le_refl _) h

def J_X5_isGrade  (v0 : Int32) (σ : Hp) : jR := (if v0 < 1 then jrt .boolean 0 σ else (if 2 < v0 then jrt .boolean 0 σ else jrt .boolean 1 σ))
set_option maxHeartbeats 4000000 in
set_option maxRecDepth 100000 in
theorem k_X5_isGrade (l : Launch) (hst : l.stackTraces = false) (g : jG)   (v0 : Int32) (σ : Hp) (o : jO) (τ : Hp) (h : J_X5_isGrade v0 σ = some (o, τ)) : jMet l g yX5_isGrade (Cond.code yX5_isGrade cX5_isGrade 1 (some FieldType.boolean) :: gT) ({ frames := 1, cells := 0, slots := 0, locals := 12 } : Room) 0 0 [.int v0] σ o τ := by
  refine j_start l hst (own := RX5) (by decide) rfl (Nat.le_of_ble_eq_true rfl) ?_
  intro p e s m args below meth c C hE hin
  unfold J_X5_isGrade at h
  show jW p l e ({ frames := 1, cells := 0, slots := 0, locals := 12 } : Room) s m args below meth c g (jQ below g o τ args s 0 0) 0 0 0 [(0, .int v0)] [] σ
  refine r_iload_n C 1 rfl 0 dX5_isGrade_0 rfl ?_
  refine r_iconst C (v := 1) 2 rfl dX5_isGrade_1 (by decide) ?_
  refine r_icmp_lt C 14 5 rfl dX5_isGrade_2 (by decide) h (fun h => ?_) (fun h => ?_)
  · refine r_iconst C (v := 0) 15 rfl dX5_isGrade_14 (by decide) ?_
    exact r_zret C (fun _ => rfl) dX5_isGrade_15 (Nat.le_refl _) (Nat.le_refl _) h
  · refine r_iload_n C 6 rfl 0 dX5_isGrade_5 rfl ?_
    refine r_iconst C (v := 2) 7 rfl dX5_isGrade_6 (by decide) ?_
    refine r_icmp_gt C 14 10 rfl dX5_isGrade_7 (by decide) h (fun h => ?_) (fun h => ?_)
    · refine r_iconst C (v := 0) 15 rfl dX5_isGrade_14 (by decide) ?_
      exact r_zret C (fun _ => rfl) dX5_isGrade_15 (Nat.le_refl _) (Nat.le_refl _) h
    · refine r_iconst C (v := 1) 11 rfl dX5_isGrade_10 (by decide) ?_
      refine r_goto C 15 dX5_isGrade_11 (by decide) ?_
      exact r_zret C (fun _ => rfl) dX5_isGrade_15 (Nat.le_refl _) (Nat.le_refl _) h

def J_X5_isRule  (v0 : Int32) (v1 : Int32) (v2 : Int32) (σ : Hp) : jR := jcs (J_X5_isGrade v0 σ) (fun w2 t1 => jvI w2 (fun x3 => (if x3 = 0 then jrt .boolean 0 t1 else (if v1 < 1 then jrt .boolean 0 t1 else (if 63 < v1 then jrt .boolean 0 t1 else (if v2 < 0 then jrt .boolean 0 t1 else (if 63 < v2 then jrt .boolean 0 t1 else jrt .boolean 1 t1))))))) (fun E t => some (.inr E, t))
set_option maxHeartbeats 4000000 in
set_option maxRecDepth 100000 in
theorem k_X5_isRule (l : Launch) (hst : l.stackTraces = false) (g : jG)   (v0 : Int32) (v1 : Int32) (v2 : Int32) (σ : Hp) (o : jO) (τ : Hp) (h : J_X5_isRule v0 v1 v2 σ = some (o, τ)) : jMet l g yX5_isRule (Cond.code yX5_isRule cX5_isRule 3 (some FieldType.boolean) :: gT) ({ frames := 2, cells := 0, slots := 0, locals := 32 } : Room) 0 0 [.int v0, .int v1, .int v2] σ o τ := by
  refine j_start l hst (own := RX5) (by decide) rfl (Nat.le_of_ble_eq_true rfl) ?_
  intro p e s m args below meth c C hE hin
  unfold J_X5_isRule at h
  show jW p l e ({ frames := 2, cells := 0, slots := 0, locals := 32 } : Room) s m args below meth c g (jQ below g o τ args s 0 0) 0 0 0 [(0, .int v0), (1, .int v1), (2, .int v2)] [] σ
  refine r_iload_n C 1 rfl 0 dX5_isRule_0 rfl ?_
  refine r_callS C mm_X5_159 st_yX5_isGrade 4 0 0 rfl rfl rfl dX5_isRule_1 rfl rfl (As := [.int v0]) rfl rfl (Nat.le_of_ble_eq_true rfl) ⟨Nat.le_of_ble_eq_true rfl, Nat.le_of_ble_eq_true rfl⟩ ⟨(Nat.le_of_ble_eq_true rfl), (Nat.le_of_ble_eq_true rfl)⟩ (fun o t h => k_X5_isGrade l hst g _ _ o t h) h (fun w2 t1 h => ?_) (fun E t h => r_out C (fun x hx => (hE x hx).elim) (Nat.le_refl _) (Nat.le_refl _) h)
  replace h := jvI_some h
  obtain ⟨x3, rfl, h⟩ := h
  refine r_if_eq C 32 7 rfl dX5_isRule_4 (by decide) h (fun h => ?_) (fun h => ?_)
  · refine r_iconst C (v := 0) 33 rfl dX5_isRule_32 (by decide) ?_
    exact r_zret C (fun _ => rfl) dX5_isRule_33 (Nat.le_refl _) (Nat.le_refl _) h
  · refine r_iload_n C 8 rfl 1 dX5_isRule_7 rfl ?_
    refine r_iconst C (v := 1) 9 rfl dX5_isRule_8 (by decide) ?_
    refine r_icmp_lt C 32 12 rfl dX5_isRule_9 (by decide) h (fun h => ?_) (fun h => ?_)
    · refine r_iconst C (v := 0) 33 rfl dX5_isRule_32 (by decide) ?_
      exact r_zret C (fun _ => rfl) dX5_isRule_33 (Nat.le_refl _) (Nat.le_refl _) h
    · refine r_iload_n C 13 rfl 1 dX5_isRule_12 rfl ?_
      refine r_bipush C (v := 63) 15 rfl dX5_isRule_13 (by decide) ?_
      refine r_icmp_gt C 32 18 rfl dX5_isRule_15 (by decide) h (fun h => ?_) (fun h => ?_)
      · refine r_iconst C (v := 0) 33 rfl dX5_isRule_32 (by decide) ?_
        exact r_zret C (fun _ => rfl) dX5_isRule_33 (Nat.le_refl _) (Nat.le_refl _) h
      · refine r_iload_n C 19 rfl 2 dX5_isRule_18 rfl ?_
        refine r_if_lt C 32 22 rfl dX5_isRule_19 (by decide) h (fun h => ?_) (fun h => ?_)
        · refine r_iconst C (v := 0) 33 rfl dX5_isRule_32 (by decide) ?_
          exact r_zret C (fun _ => rfl) dX5_isRule_33 (Nat.le_refl _) (Nat.le_refl _) h
        · refine r_iload_n C 23 rfl 2 dX5_isRule_22 rfl ?_
          refine r_bipush C (v := 63) 25 rfl dX5_isRule_23 (by decide) ?_
          refine r_icmp_gt C 32 28 rfl dX5_isRule_25 (by decide) h (fun h => ?_) (fun h => ?_)
          · refine r_iconst C (v := 0) 33 rfl dX5_isRule_32 (by decide) ?_
            exact r_zret C (fun _ => rfl) dX5_isRule_33 (Nat.le_refl _) (Nat.le_refl _) h
          · refine r_iconst C (v := 1) 29 rfl dX5_isRule_28 (by decide) ?_
            refine r_goto C 33 dX5_isRule_29 (by decide) ?_
            exact r_zret C (fun _ => rfl) dX5_isRule_33 (Nat.le_refl _) (Nat.le_refl _) h

def J_X5_translateTexts_L13b   (rc : Nat → Int32 → Nat → Int32 → Int32 → Hp → jR) (a0 : Nat) (v1 : Int32) (a2 : Nat) (v3 : Int32) (v4 : Int32) (t0 : Hp) : jR := (if v3 ≤ v4 then some (.inl (some (.int v1)), t0) else jaR t0 a2 v4 (fun r4 => jj (fun (x5 : Int32) (t6 : Hp) => rc a0 x5 a2 v3 (v4 + 1) t6) (fun j58 => jnu r4 (j58 v1 t0) (fun b7 => jgR t0 a0 5 1 (fun r8 => jgR t0 a0 5 4 (fun r9 => jdr r9 (fun b10 => jdr r8 (fun b11 => jcv t0 b7 4 (J_X4_translate b7 b11 b10 t0) (fun w13 t12 => jvI w13 (fun x14 => (if x14 = 0 then j58 v1 t12 else jgI t12 a0 5 6 (fun x15 => jcv t12 b7 4 (J_X4_lay b7 x15 t12) (fun w17 t16 => jvV w17 (j58 (v1 + 1) t16)) (fun E t => some (.inr E, t)))))) (fun E t => some (.inr E, t))))))))))
def J_X5_translateTexts_L13   : Nat → Nat → Int32 → Nat → Int32 → Int32 → Hp → jR
  | 0 => fun _ _ _ _ _ _ => none
  | n + 1 => J_X5_translateTexts_L13b   (J_X5_translateTexts_L13   n)
def J_X5_translateTexts  (a0 : Nat) (σ : Hp) : jR := jgR σ a0 5 3 (fun r1 => jdr r1 (fun b2 => jal σ b2 5 (fun x3 => J_X5_translateTexts_L13   jN a0 0 b2 x3 0 σ)))
set_option maxHeartbeats 4000000 in
set_option maxRecDepth 100000 in
theorem w_X5_translateTexts_L13 (l : Launch) (hst : l.stackTraces = false) {p : Program} {e : Env} {s : State} {m : MethodId} {args : Array Value} {below : List Frame} {meth : Method} {c : Code} {g : jG} {o : jO} {τ : Hp}  (C : jC p l s m args meth c g RX5 cX5_translateTexts 6 (some FieldType.int)) (hE : ∀ x ∈ c.exceptionTable.toList, False)  : ∀ (n : Nat) (a0 : Nat) (v1 : Int32) (a2 : Nat) (v3 : Int32) (v4 : Int32) (t0 : Hp), J_X5_translateTexts_L13   n a0 v1 a2 v3 v4 t0 = some (o, τ) → jW p l e ({ frames := 7, cells := 0, slots := 0, locals := 158 } : Room) s m args below meth c g (jQ below g o τ args s 0 0) 0 0 13 [(0, .ref a0), (1, .int v1), (2, .ref a2), (3, .int v3), (4, .int v4)] [] t0 := by
  intro n
  induction n with
  | zero => intro a0 v1 a2 v3 v4 t0 h; cases h
  | succ n ih =>
    intro a0 v1 a2 v3 v4 t0 h
    skip
    have h : J_X5_translateTexts_L13b   (J_X5_translateTexts_L13   n) a0 v1 a2 v3 v4 t0 = some (o, τ) := h
    unfold J_X5_translateTexts_L13b at h
    refine r_iload C 15 rfl 4 dX5_translateTexts_13 rfl ?_
    refine r_iload_n C 16 rfl 3 dX5_translateTexts_15 rfl ?_
    refine r_icmp_ge C 64 19 rfl dX5_translateTexts_16 (by decide) h (fun h => ?_) (fun h => ?_)
    · refine r_iload_n C 65 rfl 1 dX5_translateTexts_64 rfl ?_
      exact r_iret C dX5_translateTexts_65 (Nat.le_refl _) (Nat.le_refl _) h
    · refine r_aload_n C (x := some a2) 20 rfl 2 dX5_translateTexts_19 rfl ?_
      refine r_iload C 22 rfl 4 dX5_translateTexts_20 rfl ?_
      refine r_aald C 23 rfl dX5_translateTexts_22 h (fun r4 h => ?_)
      refine r_astore C (x := r4) 25 rfl [(5, va_rf r4), (0, .ref a0), (1, .int v1), (2, .ref a2), (3, .int v3), (4, .int v4)] dX5_translateTexts_23 (by decide) rfl ?_
      refine r_aload C (x := r4) 27 rfl 0 dX5_translateTexts_25 rfl ?_
      obtain ⟨j58, hj58E, h⟩ := jj_some h
      have hj58 : ∀ (x5 : Int32) (t6 : Hp), j58 x5 t6 = some (o, τ) → jW p l e ({ frames := 7, cells := 0, slots := 0, locals := 158 } : Room) s m args below meth c g (jQ below g o τ args s 0 0) 0 0 58 [(0, .ref a0), (1, .int x5), (2, .ref a2), (3, .int v3), (4, .int v4)] [] t6 := by
        subst hj58E
        intro x5 t6 h
        refine r_iinc C (v := v4 + 1) 61 rfl 4 [(4, .int (v4 + 1)), (0, .ref a0), (1, .int x5), (2, .ref a2), (3, .int v3)] dX5_translateTexts_58 rfl rfl (by decide) rfl ?_
        refine r_goto C 13 dX5_translateTexts_61 (by decide) ?_
        refine r_lv [1, 2, 3, 4, 0] rfl ?_
        exact ih a0 x5 a2 v3 (v4 + 1) t6 h
      clear hj58E
      refine r_ifnull C 58 30 rfl dX5_translateTexts_27 (by decide) h (fun hr h => ?_) (fun b7 hr h => ?_)
      · try rw [hr]
        refine r_lv [1, 2, 3, 4, 5] rfl ?_
        exact hj58 v1 t0 h
      · try rw [hr]
        refine r_aload C (x := some b7) 32 rfl 0 dX5_translateTexts_30 rfl ?_
        refine r_aload_n C (x := some a0) 33 rfl 1 dX5_translateTexts_32 rfl ?_
        refine r_getR C 36 rfl ff_X5_21 dX5_translateTexts_33 h (fun r8 h => ?_)
        refine r_aload_n C (x := some a0) 37 rfl 1 dX5_translateTexts_36 rfl ?_
        refine r_getR C 40 rfl ff_X5_43 dX5_translateTexts_37 h (fun r9 h => ?_)
        replace h := jdr_some h
        obtain ⟨b10, hr, h⟩ := h
        rw [hr]
        replace h := jdr_some h
        obtain ⟨b11, hr, h⟩ := h
        rw [hr]
        refine r_callV C (ci := 4) mm_X5_169 im_yX4_translate se_yX4_translate rfl 43 0 0 rfl rfl rfl dX5_translateTexts_40 rfl rfl (As := [.ref b11, .ref b10]) rfl rfl (Nat.le_of_ble_eq_true rfl) ⟨Nat.le_of_ble_eq_true rfl, Nat.le_of_ble_eq_true rfl⟩ ⟨(Nat.le_of_ble_eq_true rfl), (Nat.le_of_ble_eq_true rfl)⟩ (fun o t h => k_X4_translate l hst g _ _ _ _ o t h) h (fun w13 t12 h => ?_) (fun E t h => r_out C (fun x hx => (hE x hx).elim) (Nat.le_refl _) (Nat.le_refl _) h)
        replace h := jvI_some h
        obtain ⟨x14, rfl, h⟩ := h
        refine r_if_eq C 58 46 rfl dX5_translateTexts_43 (by decide) h (fun h => ?_) (fun h => ?_)
        · refine r_lv [1, 2, 3, 4, 5] rfl ?_
          exact hj58 v1 t12 h
        · refine r_aload C (x := some b7) 48 rfl 0 dX5_translateTexts_46 rfl ?_
          refine r_aload_n C (x := some a0) 49 rfl 1 dX5_translateTexts_48 rfl ?_
          refine r_getI C 52 rfl ff_X5_51 dX5_translateTexts_49 h (fun x15 h => ?_)
          refine r_callV C (ci := 4) mm_X5_173 im_yX4_lay se_yX4_lay rfl 55 0 0 rfl rfl rfl dX5_translateTexts_52 rfl rfl (As := [.int x15]) rfl rfl (Nat.le_of_ble_eq_true rfl) ⟨Nat.le_of_ble_eq_true rfl, Nat.le_of_ble_eq_true rfl⟩ ⟨(Nat.le_of_ble_eq_true rfl), (Nat.le_of_ble_eq_true rfl)⟩ (fun o t h => k_X4_lay l hst g _ _ _ o t h) h (fun w17 t16 h => ?_) (fun E t h => r_out C (fun x hx => (hE x hx).elim) (Nat.le_refl _) (Nat.le_refl _) h)
          replace h := jvV_some h
          obtain ⟨rfl, h⟩ := h
          refine r_iinc C (v := v1 + 1) 58 rfl 2 [(1, .int (v1 + 1)), (5, .ref b7), (0, .ref a0), (2, .ref a2), (3, .int v3), (4, .int v4)] dX5_translateTexts_55 rfl rfl (by decide) rfl ?_
          refine r_lv [2, 0, 3, 4, 5] rfl ?_
          exact hj58 (v1 + 1) t16 h
set_option maxHeartbeats 4000000 in
set_option maxRecDepth 100000 in
theorem k_X5_translateTexts (l : Launch) (hst : l.stackTraces = false) (g : jG)   (a0 : Nat) (σ : Hp) (o : jO) (τ : Hp) (h : J_X5_translateTexts a0 σ = some (o, τ)) : jMet l g yX5_translateTexts (Cond.code yX5_translateTexts cX5_translateTexts 6 (some FieldType.int) :: gT) ({ frames := 7, cells := 0, slots := 0, locals := 158 } : Room) 0 0 [.ref a0] σ o τ := by
  refine j_start l hst (own := RX5) (by decide) rfl (Nat.le_of_ble_eq_true rfl) ?_
  intro p e s m args below meth c C hE hin
  unfold J_X5_translateTexts at h
  show jW p l e ({ frames := 7, cells := 0, slots := 0, locals := 158 } : Room) s m args below meth c g (jQ below g o τ args s 0 0) 0 0 0 [(0, .ref a0)] [] σ
  refine r_iconst C (v := 0) 1 rfl dX5_translateTexts_0 (by decide) ?_
  refine r_istore_n C 2 rfl [(1, .int 0), (0, .ref a0)] dX5_translateTexts_1 (by decide) rfl ?_
  refine r_aload_n C (x := some a0) 3 rfl 1 dX5_translateTexts_2 rfl ?_
  refine r_getR C 6 rfl ff_X5_34 dX5_translateTexts_3 h (fun r1 h => ?_)
  refine r_astore_n C (x := r1) 7 rfl [(2, va_rf r1), (1, .int 0), (0, .ref a0)] dX5_translateTexts_6 (by decide) rfl ?_
  refine r_aload_n C (x := r1) 8 rfl 0 dX5_translateTexts_7 rfl ?_
  replace h := jdr_some h
  obtain ⟨b2, hr, h⟩ := h
  rw [hr]
  refine r_alen C (t := 5) 9 rfl (by decide) dX5_translateTexts_8 h (fun x3 h => ?_)
  refine r_istore_n C 10 rfl [(3, .int x3), (2, .ref b2), (1, .int 0), (0, .ref a0)] dX5_translateTexts_9 (by decide) rfl ?_
  refine r_iconst C (v := 0) 11 rfl dX5_translateTexts_10 (by decide) ?_
  refine r_istore C 13 rfl [(4, .int 0), (3, .int x3), (2, .ref b2), (1, .int 0), (0, .ref a0)] dX5_translateTexts_11 (by decide) rfl ?_
  refine r_lv [4, 3, 2, 1, 0] rfl ?_
  refine w_X5_translateTexts_L13 l hst  C hE   jN a0 0 b2 x3 0 σ h

def J_X5_addRule  (a0 : Nat) (v1 : Int32) (v2 : Int32) (v3 : Int32) (σ : Hp) : jR := jcv σ a0 5 (J_X5_typedKey a0 σ) (fun w2 t1 => jvI w2 (fun x3 => jcs (J_X5_isRule v1 v2 v3 t1) (fun w5 t4 => jvI w5 (fun x6 => jj (fun (t7 : Hp) => some (.inr "java/lang/IllegalArgumentException", thS t7)) (fun j20 => (if x6 = 0 then j20 t4 else (if x3 = 0 then j20 t4 else jgR t4 a0 5 1 (fun r8 => jdr r8 (fun b9 => jcv t4 b9 3 (J_X3_isFull b9 t4) (fun w11 t10 => jvI w11 (fun x12 => (if x12 = 0 then jgR t10 a0 5 1 (fun r13 => jdr r13 (fun b14 => jcv t10 b14 3 (J_X3_placeOf b14 x3 t10) (fun w16 t15 => jvI w16 (fun x17 => (if x17 = ((-1)) then jgR t15 a0 5 1 (fun r18 => jdr r18 (fun b19 => jcv t15 b19 3 (J_X3_insert b19 x3 v1 v2 v3 t15) (fun w21 t20 => jvI w21 (fun x22 => jgR t20 a0 5 0 (fun r23 => jdr r23 (fun b24 => jcv t20 b24 2 (J_X2_empty b24 t20) (fun w26 t25 => jvV w26 (jcv t25 a0 5 (J_X5_translateTexts a0 t25) (fun w28 t27 => jvI w28 (fun x29 => some (.inl (some (.int x22)), t27))) (fun E t => some (.inr E, t)))) (fun E t => some (.inr E, t)))))) (fun E t => some (.inr E, t)))) else some (.inr "java/lang/UnsupportedOperationException", thS t15)))) (fun E t => some (.inr E, t)))) else some (.inr "java/lang/IllegalStateException", thS t10)))) (fun E t => some (.inr E, t))))))))) (fun E t => some (.inr E, t)))) (fun E t => some (.inr E, t))
set_option maxHeartbeats 4000000 in
set_option maxRecDepth 100000 in
theorem k_X5_addRule (l : Launch) (hst : l.stackTraces = false) (g : jG)   (a0 : Nat) (v1 : Int32) (v2 : Int32) (v3 : Int32) (σ : Hp) (o : jO) (τ : Hp) (h : J_X5_addRule a0 v1 v2 v3 σ = some (o, τ)) : jMet l g yX5_addRule (Cond.code yX5_addRule cX5_addRule 6 (some FieldType.int) :: gT) ({ frames := 8, cells := 1, slots := 6, locals := 183 } : Room) 1 6 [.ref a0, .int v1, .int v2, .int v3] σ o τ := by
  refine j_start l hst (own := RX5) (by decide) rfl (Nat.le_of_ble_eq_true rfl) ?_
  intro p e s m args below meth c C hE hin
  unfold J_X5_addRule at h
  show jW p l e ({ frames := 8, cells := 1, slots := 6, locals := 183 } : Room) s m args below meth c g (jQ below g o τ args s 1 6) 0 0 0 [(0, .ref a0), (1, .int v1), (2, .int v2), (3, .int v3)] [] σ
  refine r_aload_n C (x := some a0) 1 rfl 0 dX5_addRule_0 rfl ?_
  refine r_callV C (ci := 5) mm_X5_80 im_yX5_typedKey se_yX5_typedKey rfl 4 0 0 rfl rfl rfl dX5_addRule_1 rfl rfl (As := []) rfl rfl (Nat.le_of_ble_eq_true rfl) ⟨Nat.le_of_ble_eq_true rfl, Nat.le_of_ble_eq_true rfl⟩ ⟨(Nat.le_of_ble_eq_true rfl), (Nat.le_of_ble_eq_true rfl)⟩ (fun o t h => k_X5_typedKey l hst g _ _ o t h) h (fun w2 t1 h => ?_) (fun E t h => r_out C (fun x hx => (hE x hx).elim) (Nat.le_of_ble_eq_true rfl) (Nat.le_of_ble_eq_true rfl) h)
  replace h := jvI_some h
  obtain ⟨x3, rfl, h⟩ := h
  refine r_istore C 6 rfl [(4, .int x3), (0, .ref a0), (1, .int v1), (2, .int v2), (3, .int v3)] dX5_addRule_4 (by decide) rfl ?_
  refine r_iload_n C 7 rfl 2 dX5_addRule_6 rfl ?_
  refine r_iload_n C 8 rfl 3 dX5_addRule_7 rfl ?_
  refine r_iload_n C 9 rfl 4 dX5_addRule_8 rfl ?_
  refine r_callS C mm_X5_83 st_yX5_isRule 12 0 0 rfl rfl rfl dX5_addRule_9 rfl rfl (As := [.int v1, .int v2, .int v3]) rfl rfl (Nat.le_of_ble_eq_true rfl) ⟨Nat.le_of_ble_eq_true rfl, Nat.le_of_ble_eq_true rfl⟩ ⟨(Nat.le_of_ble_eq_true rfl), (Nat.le_of_ble_eq_true rfl)⟩ (fun o t h => k_X5_isRule l hst g _ _ _ _ o t h) h (fun w5 t4 h => ?_) (fun E t h => r_out C (fun x hx => (hE x hx).elim) (Nat.le_of_ble_eq_true rfl) (Nat.le_of_ble_eq_true rfl) h)
  replace h := jvI_some h
  obtain ⟨x6, rfl, h⟩ := h
  obtain ⟨j20, hj20E, h⟩ := jj_some h
  have hj20 : ∀ (t7 : Hp), j20 t7 = some (o, τ) → jW p l e ({ frames := 8, cells := 1, slots := 6, locals := 183 } : Room) s m args below meth c g (jQ below g o τ args s 1 6) 0 0 20 [] [] t7 := by
    subst hj20E
    intro t7 h
    exact r_throw C th_X5_54_87 dX5_addRule_20 dX5_addRule_23 dX5_addRule_24 dX5_addRule_26 dX5_addRule_29 hE (Nat.le_of_ble_eq_true rfl) (Nat.le_of_ble_eq_true rfl) (Nat.le_of_ble_eq_true rfl) (Nat.le_of_ble_eq_true rfl) (Nat.le_of_ble_eq_true rfl) (Nat.le_of_ble_eq_true rfl) h
  clear hj20E
  refine r_if_eq C 20 15 rfl dX5_addRule_12 (by decide) h (fun h => ?_) (fun h => ?_)
  · refine r_lv [] rfl ?_
    exact hj20 t4 h
  · refine r_iload C 17 rfl 0 dX5_addRule_15 rfl ?_
    refine r_if_ne C 30 20 rfl dX5_addRule_17 (by decide) h (fun h => ?_) (fun h => ?_)
    · refine r_aload_n C (x := some a0) 31 rfl 1 dX5_addRule_30 rfl ?_
      refine r_getR C 34 rfl ff_X5_21 dX5_addRule_31 h (fun r8 h => ?_)
      replace h := jdr_some h
      obtain ⟨b9, hr, h⟩ := h
      rw [hr]
      refine r_callV C (ci := 3) mm_X5_89 im_yX3_isFull se_yX3_isFull rfl 37 0 0 rfl rfl rfl dX5_addRule_34 rfl rfl (As := []) rfl rfl (Nat.le_of_ble_eq_true rfl) ⟨Nat.le_of_ble_eq_true rfl, Nat.le_of_ble_eq_true rfl⟩ ⟨(Nat.le_of_ble_eq_true rfl), (Nat.le_of_ble_eq_true rfl)⟩ (fun o t h => k_X3_isFull l hst g _ _ o t h) h (fun w11 t10 h => ?_) (fun E t h => r_out C (fun x hx => (hE x hx).elim) (Nat.le_of_ble_eq_true rfl) (Nat.le_of_ble_eq_true rfl) h)
      replace h := jvI_some h
      obtain ⟨x12, rfl, h⟩ := h
      refine r_if_eq C 50 40 rfl dX5_addRule_37 (by decide) h (fun h => ?_) (fun h => ?_)
      · refine r_aload_n C (x := some a0) 51 rfl 1 dX5_addRule_50 rfl ?_
        refine r_getR C 54 rfl ff_X5_21 dX5_addRule_51 h (fun r13 h => ?_)
        refine r_iload C 56 rfl 0 dX5_addRule_54 rfl ?_
        replace h := jdr_some h
        obtain ⟨b14, hr, h⟩ := h
        rw [hr]
        refine r_callV C (ci := 3) mm_X5_92 im_yX3_placeOf se_yX3_placeOf rfl 59 0 0 rfl rfl rfl dX5_addRule_56 rfl rfl (As := [.int x3]) rfl rfl (Nat.le_of_ble_eq_true rfl) ⟨Nat.le_of_ble_eq_true rfl, Nat.le_of_ble_eq_true rfl⟩ ⟨(Nat.le_of_ble_eq_true rfl), (Nat.le_of_ble_eq_true rfl)⟩ (fun o t h => k_X3_placeOf l hst g _ _ _ o t h) h (fun w16 t15 h => ?_) (fun E t h => r_out C (fun x hx => (hE x hx).elim) (Nat.le_of_ble_eq_true rfl) (Nat.le_of_ble_eq_true rfl) h)
        replace h := jvI_some h
        obtain ⟨x17, rfl, h⟩ := h
        refine r_iconst C (v := (-1)) 60 rfl dX5_addRule_59 (by decide) ?_
        refine r_icmp_eq C 73 63 rfl dX5_addRule_60 (by decide) h (fun h => ?_) (fun h => ?_)
        · refine r_aload_n C (x := some a0) 74 rfl 1 dX5_addRule_73 rfl ?_
          refine r_getR C 77 rfl ff_X5_21 dX5_addRule_74 h (fun r18 h => ?_)
          refine r_iload C 79 rfl 0 dX5_addRule_77 rfl ?_
          refine r_iload_n C 80 rfl 2 dX5_addRule_79 rfl ?_
          refine r_iload_n C 81 rfl 3 dX5_addRule_80 rfl ?_
          refine r_iload_n C 82 rfl 4 dX5_addRule_81 rfl ?_
          replace h := jdr_some h
          obtain ⟨b19, hr, h⟩ := h
          rw [hr]
          refine r_callV C (ci := 3) mm_X5_101 im_yX3_insert se_yX3_insert rfl 85 0 0 rfl rfl rfl dX5_addRule_82 rfl rfl (As := [.int x3, .int v1, .int v2, .int v3]) rfl rfl (Nat.le_of_ble_eq_true rfl) ⟨Nat.le_of_ble_eq_true rfl, Nat.le_of_ble_eq_true rfl⟩ ⟨(Nat.le_of_ble_eq_true rfl), (Nat.le_of_ble_eq_true rfl)⟩ (fun o t h => k_X3_insert l hst g _ _ _ _ _ _ o t h) h (fun w21 t20 h => ?_) (fun E t h => r_out C (fun x hx => (hE x hx).elim) (Nat.le_of_ble_eq_true rfl) (Nat.le_of_ble_eq_true rfl) h)
          replace h := jvI_some h
          obtain ⟨x22, rfl, h⟩ := h
          refine r_istore C 87 rfl [(5, .int x22), (4, .int x3), (0, .ref a0), (1, .int v1), (2, .int v2), (3, .int v3)] dX5_addRule_85 (by decide) rfl ?_
          refine r_aload_n C (x := some a0) 88 rfl 2 dX5_addRule_87 rfl ?_
          refine r_getR C 91 rfl ff_X5_14 dX5_addRule_88 h (fun r23 h => ?_)
          replace h := jdr_some h
          obtain ⟨b24, hr, h⟩ := h
          rw [hr]
          refine r_callV C (ci := 2) mm_X5_77 im_yX2_empty se_yX2_empty rfl 94 0 0 rfl rfl rfl dX5_addRule_91 rfl rfl (As := []) rfl rfl (Nat.le_of_ble_eq_true rfl) ⟨Nat.le_of_ble_eq_true rfl, Nat.le_of_ble_eq_true rfl⟩ ⟨(Nat.le_of_ble_eq_true rfl), (Nat.le_of_ble_eq_true rfl)⟩ (fun o t h => k_X2_empty l hst g _ _ o t h) h (fun w26 t25 h => ?_) (fun E t h => r_out C (fun x hx => (hE x hx).elim) (Nat.le_of_ble_eq_true rfl) (Nat.le_of_ble_eq_true rfl) h)
          replace h := jvV_some h
          obtain ⟨rfl, h⟩ := h
          refine r_aload_n C (x := some a0) 95 rfl 2 dX5_addRule_94 rfl ?_
          refine r_callV C (ci := 5) mm_X5_105 im_yX5_translateTexts se_yX5_translateTexts rfl 98 0 0 rfl rfl rfl dX5_addRule_95 rfl rfl (As := []) rfl rfl (Nat.le_of_ble_eq_true rfl) ⟨Nat.le_of_ble_eq_true rfl, Nat.le_of_ble_eq_true rfl⟩ ⟨(Nat.le_of_ble_eq_true rfl), (Nat.le_of_ble_eq_true rfl)⟩ (fun o t h => k_X5_translateTexts l hst g _ _ o t h) h (fun w28 t27 h => ?_) (fun E t h => r_out C (fun x hx => (hE x hx).elim) (Nat.le_of_ble_eq_true rfl) (Nat.le_of_ble_eq_true rfl) h)
          replace h := jvI_some h
          obtain ⟨x29, rfl, h⟩ := h
          refine r_pop C 99 rfl dX5_addRule_98 rfl ?_
          refine r_iload C 101 rfl 0 dX5_addRule_99 rfl ?_
          exact r_iret C dX5_addRule_101 (Nat.le_of_ble_eq_true rfl) (Nat.le_of_ble_eq_true rfl) h
        · exact r_throw C th_X5_96_98 dX5_addRule_63 dX5_addRule_66 dX5_addRule_67 dX5_addRule_69 dX5_addRule_72 hE (Nat.le_of_ble_eq_true rfl) (Nat.le_of_ble_eq_true rfl) (Nat.le_of_ble_eq_true rfl) (Nat.le_of_ble_eq_true rfl) (Nat.le_of_ble_eq_true rfl) (Nat.le_of_ble_eq_true rfl) h
      · exact r_throw C th_X5_65_90 dX5_addRule_40 dX5_addRule_43 dX5_addRule_44 dX5_addRule_46 dX5_addRule_49 hE (Nat.le_of_ble_eq_true rfl) (Nat.le_of_ble_eq_true rfl) (Nat.le_of_ble_eq_true rfl) (Nat.le_of_ble_eq_true rfl) (Nat.le_of_ble_eq_true rfl) (Nat.le_of_ble_eq_true rfl) h
    · refine r_lv [] rfl ?_
      exact hj20 t4 h

def J_X5_mend  (a0 : Nat) (v1 : Int32) (v2 : Int32) (v3 : Int32) (σ : Hp) : jR := jcs (J_X5_isRule v1 v2 v3 σ) (fun w2 t1 => jvI w2 (fun x3 => (if x3 = 0 then some (.inr "java/lang/IllegalArgumentException", thS t1) else jgR t1 a0 5 1 (fun r4 => jdr r4 (fun b5 => jcv t1 a0 5 (J_X5_typedKey a0 t1) (fun w7 t6 => jvI w7 (fun x8 => jcv t6 b5 3 (J_X3_placeOf b5 x8 t6) (fun w10 t9 => jvI w10 (fun x11 => (if x11 = ((-1)) then some (.inr "java/util/NoSuchElementException", thS t9) else jgR t9 a0 5 1 (fun r12 => jdr r12 (fun b13 => jcv t9 b13 3 (J_X3_alter b13 x11 v1 v2 v3 t9) (fun w15 t14 => jvV w15 (jgR t14 a0 5 0 (fun r16 => jdr r16 (fun b17 => jcv t14 b17 2 (J_X2_empty b17 t14) (fun w19 t18 => jvV w19 (jcv t18 a0 5 (J_X5_translateTexts a0 t18) (fun w21 t20 => jvI w21 (fun x22 => some (.inl (some (.int x22)), t20))) (fun E t => some (.inr E, t)))) (fun E t => some (.inr E, t)))))) (fun E t => some (.inr E, t))))))) (fun E t => some (.inr E, t)))) (fun E t => some (.inr E, t))))))) (fun E t => some (.inr E, t))
set_option maxHeartbeats 4000000 in
set_option maxRecDepth 100000 in
theorem k_X5_mend (l : Launch) (hst : l.stackTraces = false) (g : jG)   (a0 : Nat) (v1 : Int32) (v2 : Int32) (v3 : Int32) (σ : Hp) (o : jO) (τ : Hp) (h : J_X5_mend a0 v1 v2 v3 σ = some (o, τ)) : jMet l g yX5_mend (Cond.code yX5_mend cX5_mend 5 (some FieldType.int) :: gT) ({ frames := 8, cells := 1, slots := 6, locals := 183 } : Room) 1 6 [.ref a0, .int v1, .int v2, .int v3] σ o τ := by
  refine j_start l hst (own := RX5) (by decide) rfl (Nat.le_of_ble_eq_true rfl) ?_
  intro p e s m args below meth c C hE hin
  unfold J_X5_mend at h
  show jW p l e ({ frames := 8, cells := 1, slots := 6, locals := 183 } : Room) s m args below meth c g (jQ below g o τ args s 1 6) 0 0 0 [(0, .ref a0), (1, .int v1), (2, .int v2), (3, .int v3)] [] σ
  refine r_iload_n C 1 rfl 1 dX5_mend_0 rfl ?_
  refine r_iload_n C 2 rfl 2 dX5_mend_1 rfl ?_
  refine r_iload_n C 3 rfl 3 dX5_mend_2 rfl ?_
  refine r_callS C mm_X5_83 st_yX5_isRule 6 0 0 rfl rfl rfl dX5_mend_3 rfl rfl (As := [.int v1, .int v2, .int v3]) rfl rfl (Nat.le_of_ble_eq_true rfl) ⟨Nat.le_of_ble_eq_true rfl, Nat.le_of_ble_eq_true rfl⟩ ⟨(Nat.le_of_ble_eq_true rfl), (Nat.le_of_ble_eq_true rfl)⟩ (fun o t h => k_X5_isRule l hst g _ _ _ _ o t h) h (fun w2 t1 h => ?_) (fun E t h => r_out C (fun x hx => (hE x hx).elim) (Nat.le_of_ble_eq_true rfl) (Nat.le_of_ble_eq_true rfl) h)
  replace h := jvI_some h
  obtain ⟨x3, rfl, h⟩ := h
  refine r_if_ne C 19 9 rfl dX5_mend_6 (by decide) h (fun h => ?_) (fun h => ?_)
  · refine r_aload_n C (x := some a0) 20 rfl 0 dX5_mend_19 rfl ?_
    refine r_getR C 23 rfl ff_X5_21 dX5_mend_20 h (fun r4 h => ?_)
    refine r_aload_n C (x := some a0) 24 rfl 0 dX5_mend_23 rfl ?_
    replace h := jdr_some h
    obtain ⟨b5, hr, h⟩ := h
    rw [hr]
    refine r_callV C (ci := 5) mm_X5_80 im_yX5_typedKey se_yX5_typedKey rfl 27 0 0 rfl rfl rfl dX5_mend_24 rfl rfl (As := []) rfl rfl (Nat.le_of_ble_eq_true rfl) ⟨Nat.le_of_ble_eq_true rfl, Nat.le_of_ble_eq_true rfl⟩ ⟨(Nat.le_of_ble_eq_true rfl), (Nat.le_of_ble_eq_true rfl)⟩ (fun o t h => k_X5_typedKey l hst g _ _ o t h) h (fun w7 t6 h => ?_) (fun E t h => r_out C (fun x hx => (hE x hx).elim) (Nat.le_of_ble_eq_true rfl) (Nat.le_of_ble_eq_true rfl) h)
    replace h := jvI_some h
    obtain ⟨x8, rfl, h⟩ := h
    refine r_callV C (ci := 3) mm_X5_92 im_yX3_placeOf se_yX3_placeOf rfl 30 0 0 rfl rfl rfl dX5_mend_27 rfl rfl (As := [.int x8]) rfl rfl (Nat.le_of_ble_eq_true rfl) ⟨Nat.le_of_ble_eq_true rfl, Nat.le_of_ble_eq_true rfl⟩ ⟨(Nat.le_of_ble_eq_true rfl), (Nat.le_of_ble_eq_true rfl)⟩ (fun o t h => k_X3_placeOf l hst g _ _ _ o t h) h (fun w10 t9 h => ?_) (fun E t h => r_out C (fun x hx => (hE x hx).elim) (Nat.le_of_ble_eq_true rfl) (Nat.le_of_ble_eq_true rfl) h)
    replace h := jvI_some h
    obtain ⟨x11, rfl, h⟩ := h
    refine r_istore C 32 rfl [(4, .int x11), (0, .ref a0), (1, .int v1), (2, .int v2), (3, .int v3)] dX5_mend_30 (by decide) rfl ?_
    refine r_iload C 34 rfl 0 dX5_mend_32 rfl ?_
    refine r_iconst C (v := (-1)) 35 rfl dX5_mend_34 (by decide) ?_
    refine r_icmp_ne C 48 38 rfl dX5_mend_35 (by decide) h (fun h => ?_) (fun h => ?_)
    · refine r_aload_n C (x := some a0) 49 rfl 1 dX5_mend_48 rfl ?_
      refine r_getR C 52 rfl ff_X5_21 dX5_mend_49 h (fun r12 h => ?_)
      refine r_iload C 54 rfl 0 dX5_mend_52 rfl ?_
      refine r_iload_n C 55 rfl 2 dX5_mend_54 rfl ?_
      refine r_iload_n C 56 rfl 3 dX5_mend_55 rfl ?_
      refine r_iload_n C 57 rfl 4 dX5_mend_56 rfl ?_
      replace h := jdr_some h
      obtain ⟨b13, hr, h⟩ := h
      rw [hr]
      refine r_callV C (ci := 3) mm_X5_115 im_yX3_alter se_yX3_alter rfl 60 0 0 rfl rfl rfl dX5_mend_57 rfl rfl (As := [.int x11, .int v1, .int v2, .int v3]) rfl rfl (Nat.le_of_ble_eq_true rfl) ⟨Nat.le_of_ble_eq_true rfl, Nat.le_of_ble_eq_true rfl⟩ ⟨(Nat.le_of_ble_eq_true rfl), (Nat.le_of_ble_eq_true rfl)⟩ (fun o t h => k_X3_alter l hst g _ _ _ _ _ _ o t h) h (fun w15 t14 h => ?_) (fun E t h => r_out C (fun x hx => (hE x hx).elim) (Nat.le_of_ble_eq_true rfl) (Nat.le_of_ble_eq_true rfl) h)
      replace h := jvV_some h
      obtain ⟨rfl, h⟩ := h
      refine r_aload_n C (x := some a0) 61 rfl 1 dX5_mend_60 rfl ?_
      refine r_getR C 64 rfl ff_X5_14 dX5_mend_61 h (fun r16 h => ?_)
      replace h := jdr_some h
      obtain ⟨b17, hr, h⟩ := h
      rw [hr]
      refine r_callV C (ci := 2) mm_X5_77 im_yX2_empty se_yX2_empty rfl 67 0 0 rfl rfl rfl dX5_mend_64 rfl rfl (As := []) rfl rfl (Nat.le_of_ble_eq_true rfl) ⟨Nat.le_of_ble_eq_true rfl, Nat.le_of_ble_eq_true rfl⟩ ⟨(Nat.le_of_ble_eq_true rfl), (Nat.le_of_ble_eq_true rfl)⟩ (fun o t h => k_X2_empty l hst g _ _ o t h) h (fun w19 t18 h => ?_) (fun E t h => r_out C (fun x hx => (hE x hx).elim) (Nat.le_of_ble_eq_true rfl) (Nat.le_of_ble_eq_true rfl) h)
      replace h := jvV_some h
      obtain ⟨rfl, h⟩ := h
      refine r_aload_n C (x := some a0) 68 rfl 1 dX5_mend_67 rfl ?_
      refine r_callV C (ci := 5) mm_X5_105 im_yX5_translateTexts se_yX5_translateTexts rfl 71 0 0 rfl rfl rfl dX5_mend_68 rfl rfl (As := []) rfl rfl (Nat.le_of_ble_eq_true rfl) ⟨Nat.le_of_ble_eq_true rfl, Nat.le_of_ble_eq_true rfl⟩ ⟨(Nat.le_of_ble_eq_true rfl), (Nat.le_of_ble_eq_true rfl)⟩ (fun o t h => k_X5_translateTexts l hst g _ _ o t h) h (fun w21 t20 h => ?_) (fun E t h => r_out C (fun x hx => (hE x hx).elim) (Nat.le_of_ble_eq_true rfl) (Nat.le_of_ble_eq_true rfl) h)
      replace h := jvI_some h
      obtain ⟨x22, rfl, h⟩ := h
      exact r_iret C dX5_mend_71 (Nat.le_of_ble_eq_true rfl) (Nat.le_of_ble_eq_true rfl) h
    · exact r_throwN C th_X5_110_112 dX5_mend_38 dX5_mend_41 dX5_mend_42 dX5_mend_44 dX5_mend_47 hE (Nat.le_of_ble_eq_true rfl) (Nat.le_of_ble_eq_true rfl) (Nat.le_of_ble_eq_true rfl) (Nat.le_of_ble_eq_true rfl) (Nat.le_of_ble_eq_true rfl) (Nat.le_of_ble_eq_true rfl) h
  · exact r_throw C th_X5_54_108 dX5_mend_9 dX5_mend_12 dX5_mend_13 dX5_mend_15 dX5_mend_18 hE (Nat.le_of_ble_eq_true rfl) (Nat.le_of_ble_eq_true rfl) (Nat.le_of_ble_eq_true rfl) (Nat.le_of_ble_eq_true rfl) (Nat.le_of_ble_eq_true rfl) (Nat.le_of_ble_eq_true rfl) h

def J_X5_turnException  (a0 : Nat) (σ : Hp) : jR := jgR σ a0 5 0 (fun r1 => jdr r1 (fun b2 => jcv σ b2 2 (J_X2_count b2 σ) (fun w4 t3 => jvI w4 (fun x5 => jj (fun (t6 : Hp) => some (.inr "java/lang/IllegalArgumentException", thS t6)) (fun j23 => (if x5 = 0 then j23 t3 else jgR t3 a0 5 0 (fun r7 => jdr r7 (fun b8 => jcv t3 b8 2 (J_X2_placeOf b8 32 t3) (fun w10 t9 => jvI w10 (fun x11 => (if x11 = ((-1)) then jgR t9 a0 5 1 (fun r12 => jgR t9 a0 5 0 (fun r13 => jgR t9 a0 5 0 (fun r14 => jdr r14 (fun b15 => jdr r13 (fun b16 => jdr r12 (fun b17 => jcv t9 b15 2 (J_X2_count b15 t9) (fun w19 t18 => jvI w19 (fun x20 => jcv t18 b17 3 (J_X3_placeOfException b17 b16 0 x20 t18) (fun w22 t21 => jvI w22 (fun x23 => jj (fun (t24 : Hp) => jj (fun (t25 : Hp) => jgR t25 a0 5 0 (fun r26 => jdr r26 (fun b27 => jcv t25 b27 2 (J_X2_empty b27 t25) (fun w29 t28 => jvV w29 (jcv t28 a0 5 (J_X5_translateTexts a0 t28) (fun w31 t30 => jvI w31 (fun x32 => (if x23 = ((-1)) then jrt .boolean 1 t30 else jrt .boolean 0 t30))) (fun E t => some (.inr E, t)))) (fun E t => some (.inr E, t))))) (fun j105 => (if x23 = ((-1)) then jgR t24 a0 5 1 (fun r37 => jgR t24 a0 5 0 (fun r38 => jdr r38 (fun b39 => jdr r37 (fun b40 => jcv t24 b40 3 (J_X3_addException b40 b39 t24) (fun w42 t41 => jvV w42 (j105 t41)) (fun E t => some (.inr E, t)))))) else jgR t24 a0 5 1 (fun r33 => jdr r33 (fun b34 => jcv t24 b34 3 (J_X3_dropException b34 x23 t24) (fun w36 t35 => jvV w36 (j105 t35)) (fun E t => some (.inr E, t))))))) (fun j78 => (if x23 = ((-1)) then jgR t21 a0 5 1 (fun r43 => jdr r43 (fun b44 => jcv t21 b44 3 (J_X3_isFullOfExceptions b44 t21) (fun w46 t45 => jvI w46 (fun x47 => (if x47 = 0 then j78 t45 else some (.inr "java/lang/IllegalStateException", thS t45)))) (fun E t => some (.inr E, t)))) else j78 t21)))) (fun E t => some (.inr E, t)))) (fun E t => some (.inr E, t)))))))) else j23 t9))) (fun E t => some (.inr E, t)))))))) (fun E t => some (.inr E, t))))
set_option maxHeartbeats 4000000 in
set_option maxRecDepth 100000 in
theorem k_X5_turnException (l : Launch) (hst : l.stackTraces = false) (g : jG)   (a0 : Nat) (σ : Hp) (o : jO) (τ : Hp) (h : J_X5_turnException a0 σ = some (o, τ)) : jMet l g yX5_turnException (Cond.code yX5_turnException cX5_turnException 2 (some FieldType.boolean) :: gT) ({ frames := 8, cells := 1, slots := 6, locals := 183 } : Room) 1 6 [.ref a0] σ o τ := by
  refine j_start l hst (own := RX5) (by decide) rfl (Nat.le_of_ble_eq_true rfl) ?_
  intro p e s m args below meth c C hE hin
  unfold J_X5_turnException at h
  show jW p l e ({ frames := 8, cells := 1, slots := 6, locals := 183 } : Room) s m args below meth c g (jQ below g o τ args s 1 6) 0 0 0 [(0, .ref a0)] [] σ
  refine r_aload_n C (x := some a0) 1 rfl 0 dX5_turnException_0 rfl ?_
  refine r_getR C 4 rfl ff_X5_14 dX5_turnException_1 h (fun r1 h => ?_)
  replace h := jdr_some h
  obtain ⟨b2, hr, h⟩ := h
  rw [hr]
  refine r_callV C (ci := 2) mm_X5_73 im_yX2_count se_yX2_count rfl 7 0 0 rfl rfl rfl dX5_turnException_4 rfl rfl (As := []) rfl rfl (Nat.le_of_ble_eq_true rfl) ⟨Nat.le_of_ble_eq_true rfl, Nat.le_of_ble_eq_true rfl⟩ ⟨(Nat.le_of_ble_eq_true rfl), (Nat.le_of_ble_eq_true rfl)⟩ (fun o t h => k_X2_count l hst g _ _ o t h) h (fun w4 t3 h => ?_) (fun E t h => r_out C (fun x hx => (hE x hx).elim) (Nat.le_of_ble_eq_true rfl) (Nat.le_of_ble_eq_true rfl) h)
  replace h := jvI_some h
  obtain ⟨x5, rfl, h⟩ := h
  obtain ⟨j23, hj23E, h⟩ := jj_some h
  have hj23 : ∀ (t6 : Hp), j23 t6 = some (o, τ) → jW p l e ({ frames := 8, cells := 1, slots := 6, locals := 183 } : Room) s m args below meth c g (jQ below g o τ args s 1 6) 0 0 23 [] [] t6 := by
    subst hj23E
    intro t6 h
    exact r_throw C th_X5_54_139 dX5_turnException_23 dX5_turnException_26 dX5_turnException_27 dX5_turnException_29 dX5_turnException_32 hE (Nat.le_of_ble_eq_true rfl) (Nat.le_of_ble_eq_true rfl) (Nat.le_of_ble_eq_true rfl) (Nat.le_of_ble_eq_true rfl) (Nat.le_of_ble_eq_true rfl) (Nat.le_of_ble_eq_true rfl) h
  clear hj23E
  refine r_if_eq C 23 10 rfl dX5_turnException_7 (by decide) h (fun h => ?_) (fun h => ?_)
  · refine r_lv [] rfl ?_
    exact hj23 t3 h
  · refine r_aload_n C (x := some a0) 11 rfl 0 dX5_turnException_10 rfl ?_
    refine r_getR C 14 rfl ff_X5_14 dX5_turnException_11 h (fun r7 h => ?_)
    refine r_bipush C (v := 32) 16 rfl dX5_turnException_14 (by decide) ?_
    replace h := jdr_some h
    obtain ⟨b8, hr, h⟩ := h
    rw [hr]
    refine r_callV C (ci := 2) mm_X5_138 im_yX2_placeOf se_yX2_placeOf rfl 19 0 0 rfl rfl rfl dX5_turnException_16 rfl rfl (As := [.int 32]) rfl rfl (Nat.le_of_ble_eq_true rfl) ⟨Nat.le_of_ble_eq_true rfl, Nat.le_of_ble_eq_true rfl⟩ ⟨(Nat.le_of_ble_eq_true rfl), (Nat.le_of_ble_eq_true rfl)⟩ (fun o t h => k_X2_placeOf l hst g _ _ _ o t h) h (fun w10 t9 h => ?_) (fun E t h => r_out C (fun x hx => (hE x hx).elim) (Nat.le_of_ble_eq_true rfl) (Nat.le_of_ble_eq_true rfl) h)
    replace h := jvI_some h
    obtain ⟨x11, rfl, h⟩ := h
    refine r_iconst C (v := (-1)) 20 rfl dX5_turnException_19 (by decide) ?_
    refine r_icmp_eq C 33 23 rfl dX5_turnException_20 (by decide) h (fun h => ?_) (fun h => ?_)
    · refine r_aload_n C (x := some a0) 34 rfl 0 dX5_turnException_33 rfl ?_
      refine r_getR C 37 rfl ff_X5_21 dX5_turnException_34 h (fun r12 h => ?_)
      refine r_aload_n C (x := some a0) 38 rfl 0 dX5_turnException_37 rfl ?_
      refine r_getR C 41 rfl ff_X5_14 dX5_turnException_38 h (fun r13 h => ?_)
      refine r_iconst C (v := 0) 42 rfl dX5_turnException_41 (by decide) ?_
      refine r_aload_n C (x := some a0) 43 rfl 0 dX5_turnException_42 rfl ?_
      refine r_getR C 46 rfl ff_X5_14 dX5_turnException_43 h (fun r14 h => ?_)
      replace h := jdr_some h
      obtain ⟨b15, hr, h⟩ := h
      rw [hr]
      replace h := jdr_some h
      obtain ⟨b16, hr, h⟩ := h
      rw [hr]
      replace h := jdr_some h
      obtain ⟨b17, hr, h⟩ := h
      rw [hr]
      refine r_callV C (ci := 2) mm_X5_73 im_yX2_count se_yX2_count rfl 49 0 0 rfl rfl rfl dX5_turnException_46 rfl rfl (As := []) rfl rfl (Nat.le_of_ble_eq_true rfl) ⟨Nat.le_of_ble_eq_true rfl, Nat.le_of_ble_eq_true rfl⟩ ⟨(Nat.le_of_ble_eq_true rfl), (Nat.le_of_ble_eq_true rfl)⟩ (fun o t h => k_X2_count l hst g _ _ o t h) h (fun w19 t18 h => ?_) (fun E t h => r_out C (fun x hx => (hE x hx).elim) (Nat.le_of_ble_eq_true rfl) (Nat.le_of_ble_eq_true rfl) h)
      replace h := jvI_some h
      obtain ⟨x20, rfl, h⟩ := h
      refine r_callV C (ci := 3) mm_X5_141 im_yX3_placeOfException se_yX3_placeOfException rfl 52 0 0 rfl rfl rfl dX5_turnException_49 rfl rfl (As := [.ref b16, .int 0, .int x20]) rfl rfl (Nat.le_of_ble_eq_true rfl) ⟨Nat.le_of_ble_eq_true rfl, Nat.le_of_ble_eq_true rfl⟩ ⟨(Nat.le_of_ble_eq_true rfl), (Nat.le_of_ble_eq_true rfl)⟩ (fun o t h => k_X3_placeOfException l hst g _ _ _ _ _ o t h) h (fun w22 t21 h => ?_) (fun E t h => r_out C (fun x hx => (hE x hx).elim) (Nat.le_of_ble_eq_true rfl) (Nat.le_of_ble_eq_true rfl) h)
      replace h := jvI_some h
      obtain ⟨x23, rfl, h⟩ := h
      refine r_istore_n C 53 rfl [(1, .int x23), (0, .ref a0)] dX5_turnException_52 (by decide) rfl ?_
      refine r_iload_n C 54 rfl 0 dX5_turnException_53 rfl ?_
      refine r_iconst C (v := (-1)) 55 rfl dX5_turnException_54 (by decide) ?_
      obtain ⟨j78, hj78E, h⟩ := jj_some h
      have hj78 : ∀ (t24 : Hp), j78 t24 = some (o, τ) → jW p l e ({ frames := 8, cells := 1, slots := 6, locals := 183 } : Room) s m args below meth c g (jQ below g o τ args s 1 6) 0 0 78 [(0, .ref a0), (1, .int x23)] [] t24 := by
        subst hj78E
        intro t24 h
        refine r_iload_n C 79 rfl 1 dX5_turnException_78 rfl ?_
        refine r_iconst C (v := (-1)) 80 rfl dX5_turnException_79 (by decide) ?_
        obtain ⟨j105, hj105E, h⟩ := jj_some h
        have hj105 : ∀ (t25 : Hp), j105 t25 = some (o, τ) → jW p l e ({ frames := 8, cells := 1, slots := 6, locals := 183 } : Room) s m args below meth c g (jQ below g o τ args s 1 6) 0 0 105 [(0, .ref a0), (1, .int x23)] [] t25 := by
          subst hj105E
          intro t25 h
          refine r_aload_n C (x := some a0) 106 rfl 0 dX5_turnException_105 rfl ?_
          refine r_getR C 109 rfl ff_X5_14 dX5_turnException_106 h (fun r26 h => ?_)
          replace h := jdr_some h
          obtain ⟨b27, hr, h⟩ := h
          rw [hr]
          refine r_callV C (ci := 2) mm_X5_77 im_yX2_empty se_yX2_empty rfl 112 0 0 rfl rfl rfl dX5_turnException_109 rfl rfl (As := []) rfl rfl (Nat.le_of_ble_eq_true rfl) ⟨Nat.le_of_ble_eq_true rfl, Nat.le_of_ble_eq_true rfl⟩ ⟨(Nat.le_of_ble_eq_true rfl), (Nat.le_of_ble_eq_true rfl)⟩ (fun o t h => k_X2_empty l hst g _ _ o t h) h (fun w29 t28 h => ?_) (fun E t h => r_out C (fun x hx => (hE x hx).elim) (Nat.le_of_ble_eq_true rfl) (Nat.le_of_ble_eq_true rfl) h)
          replace h := jvV_some h
          obtain ⟨rfl, h⟩ := h
          refine r_aload_n C (x := some a0) 113 rfl 0 dX5_turnException_112 rfl ?_
          refine r_callV C (ci := 5) mm_X5_105 im_yX5_translateTexts se_yX5_translateTexts rfl 116 0 0 rfl rfl rfl dX5_turnException_113 rfl rfl (As := []) rfl rfl (Nat.le_of_ble_eq_true rfl) ⟨Nat.le_of_ble_eq_true rfl, Nat.le_of_ble_eq_true rfl⟩ ⟨(Nat.le_of_ble_eq_true rfl), (Nat.le_of_ble_eq_true rfl)⟩ (fun o t h => k_X5_translateTexts l hst g _ _ o t h) h (fun w31 t30 h => ?_) (fun E t h => r_out C (fun x hx => (hE x hx).elim) (Nat.le_of_ble_eq_true rfl) (Nat.le_of_ble_eq_true rfl) h)
          replace h := jvI_some h
          obtain ⟨x32, rfl, h⟩ := h
          refine r_pop C 117 rfl dX5_turnException_116 rfl ?_
          refine r_iload_n C 118 rfl 1 dX5_turnException_117 rfl ?_
          refine r_iconst C (v := (-1)) 119 rfl dX5_turnException_118 (by decide) ?_
          refine r_icmp_ne C 126 122 rfl dX5_turnException_119 (by decide) h (fun h => ?_) (fun h => ?_)
          · refine r_iconst C (v := 0) 127 rfl dX5_turnException_126 (by decide) ?_
            exact r_zret C (fun _ => rfl) dX5_turnException_127 (Nat.le_of_ble_eq_true rfl) (Nat.le_of_ble_eq_true rfl) h
          · refine r_iconst C (v := 1) 123 rfl dX5_turnException_122 (by decide) ?_
            refine r_goto C 127 dX5_turnException_123 (by decide) ?_
            exact r_zret C (fun _ => rfl) dX5_turnException_127 (Nat.le_of_ble_eq_true rfl) (Nat.le_of_ble_eq_true rfl) h
        clear hj105E
        refine r_icmp_ne C 97 83 rfl dX5_turnException_80 (by decide) h (fun h => ?_) (fun h => ?_)
        · refine r_aload_n C (x := some a0) 98 rfl 0 dX5_turnException_97 rfl ?_
          refine r_getR C 101 rfl ff_X5_21 dX5_turnException_98 h (fun r33 h => ?_)
          refine r_iload_n C 102 rfl 1 dX5_turnException_101 rfl ?_
          replace h := jdr_some h
          obtain ⟨b34, hr, h⟩ := h
          rw [hr]
          refine r_callV C (ci := 3) mm_X5_154 im_yX3_dropException se_yX3_dropException rfl 105 0 0 rfl rfl rfl dX5_turnException_102 rfl rfl (As := [.int x23]) rfl rfl (Nat.le_of_ble_eq_true rfl) ⟨Nat.le_of_ble_eq_true rfl, Nat.le_of_ble_eq_true rfl⟩ ⟨(Nat.le_of_ble_eq_true rfl), (Nat.le_of_ble_eq_true rfl)⟩ (fun o t h => k_X3_dropException l hst g _ _ _ o t h) h (fun w36 t35 h => ?_) (fun E t h => r_out C (fun x hx => (hE x hx).elim) (Nat.le_of_ble_eq_true rfl) (Nat.le_of_ble_eq_true rfl) h)
          replace h := jvV_some h
          obtain ⟨rfl, h⟩ := h
          exact hj105 t35 h
        · refine r_aload_n C (x := some a0) 84 rfl 0 dX5_turnException_83 rfl ?_
          refine r_getR C 87 rfl ff_X5_21 dX5_turnException_84 h (fun r37 h => ?_)
          refine r_aload_n C (x := some a0) 88 rfl 0 dX5_turnException_87 rfl ?_
          refine r_getR C 91 rfl ff_X5_14 dX5_turnException_88 h (fun r38 h => ?_)
          replace h := jdr_some h
          obtain ⟨b39, hr, h⟩ := h
          rw [hr]
          replace h := jdr_some h
          obtain ⟨b40, hr, h⟩ := h
          rw [hr]
          refine r_callV C (ci := 3) mm_X5_150 im_yX3_addException se_yX3_addException rfl 94 0 0 rfl rfl rfl dX5_turnException_91 rfl rfl (As := [.ref b39]) rfl rfl (Nat.le_of_ble_eq_true rfl) ⟨Nat.le_of_ble_eq_true rfl, Nat.le_of_ble_eq_true rfl⟩ ⟨(Nat.le_of_ble_eq_true rfl), (Nat.le_of_ble_eq_true rfl)⟩ (fun o t h => k_X3_addException l hst g _ _ _ o t h) h (fun w42 t41 h => ?_) (fun E t h => r_out C (fun x hx => (hE x hx).elim) (Nat.le_of_ble_eq_true rfl) (Nat.le_of_ble_eq_true rfl) h)
          replace h := jvV_some h
          obtain ⟨rfl, h⟩ := h
          refine r_goto C 105 dX5_turnException_94 (by decide) ?_
          exact hj105 t41 h
      clear hj78E
      refine r_icmp_ne C 78 58 rfl dX5_turnException_55 (by decide) h (fun h => ?_) (fun h => ?_)
      · refine r_lv [1, 0] rfl ?_
        exact hj78 t21 h
      · refine r_aload_n C (x := some a0) 59 rfl 1 dX5_turnException_58 rfl ?_
        refine r_getR C 62 rfl ff_X5_21 dX5_turnException_59 h (fun r43 h => ?_)
        replace h := jdr_some h
        obtain ⟨b44, hr, h⟩ := h
        rw [hr]
        refine r_callV C (ci := 3) mm_X5_145 im_yX3_isFullOfExceptions se_yX3_isFullOfExceptions rfl 65 0 0 rfl rfl rfl dX5_turnException_62 rfl rfl (As := []) rfl rfl (Nat.le_of_ble_eq_true rfl) ⟨Nat.le_of_ble_eq_true rfl, Nat.le_of_ble_eq_true rfl⟩ ⟨(Nat.le_of_ble_eq_true rfl), (Nat.le_of_ble_eq_true rfl)⟩ (fun o t h => k_X3_isFullOfExceptions l hst g _ _ o t h) h (fun w46 t45 h => ?_) (fun E t h => r_out C (fun x hx => (hE x hx).elim) (Nat.le_of_ble_eq_true rfl) (Nat.le_of_ble_eq_true rfl) h)
        replace h := jvI_some h
        obtain ⟨x47, rfl, h⟩ := h
        refine r_if_eq C 78 68 rfl dX5_turnException_65 (by decide) h (fun h => ?_) (fun h => ?_)
        · refine r_lv [1, 0] rfl ?_
          exact hj78 t45 h
        · exact r_throw C th_X5_65_148 dX5_turnException_68 dX5_turnException_71 dX5_turnException_72 dX5_turnException_74 dX5_turnException_77 hE (Nat.le_of_ble_eq_true rfl) (Nat.le_of_ble_eq_true rfl) (Nat.le_of_ble_eq_true rfl) (Nat.le_of_ble_eq_true rfl) (Nat.le_of_ble_eq_true rfl) (Nat.le_of_ble_eq_true rfl) h
    · refine r_lv [] rfl ?_
      exact hj23 t9 h

def J_X5_setText  (a0 : Nat) (v1 : Int32) (v2 : Int32) (σ : Hp) : jR := jj (fun (t1 : Hp) => some (.inr "java/lang/IndexOutOfBoundsException", thS t1)) (fun j21 => (if v1 < 0 then j21 σ else jgI σ a0 5 5 (fun x2 => (if x2 < v1 then j21 σ else jgR σ a0 5 3 (fun r3 => jdr r3 (fun b4 => jal σ b4 5 (fun x5 => (if v1 < x5 then jcs (J_X5_isGrade v2 σ) (fun w7 t6 => jvI w7 (fun x8 => (if x8 = 0 then some (.inr "java/lang/IllegalArgumentException", thS t6) else jgR t6 a0 5 3 (fun r9 => jdr r9 (fun b10 => jaR t6 b10 v1 (fun r11 => jj (fun (x12 : Option Nat) (t13 : Hp) => jgR t13 a0 5 0 (fun r14 => jdr r14 (fun b15 => jdr x12 (fun b16 => jcv t13 b16 4 (J_X4_take b16 b15 v2 t13) (fun w18 t17 => jvV w18 (jgR t17 a0 5 1 (fun r19 => jgR t17 a0 5 4 (fun r20 => jdr r20 (fun b21 => jdr r19 (fun b22 => jcv t17 b16 4 (J_X4_translate b16 b22 b21 t17) (fun w24 t23 => jvI w24 (fun x25 => jgI t23 a0 5 6 (fun x26 => jcv t23 b16 4 (J_X4_lay b16 x26 t23) (fun w28 t27 => jvV w28 (jgR t27 a0 5 0 (fun r29 => jdr r29 (fun b30 => jcv t27 b30 2 (J_X2_empty b30 t27) (fun w32 t31 => jvV w32 (jcv t31 b16 4 (J_X4_wordCount b16 t31) (fun w34 t33 => jvI w34 (fun x35 => some (.inl (some (.int x35)), t33))) (fun E t => some (.inr E, t)))) (fun E t => some (.inr E, t)))))) (fun E t => some (.inr E, t))))) (fun E t => some (.inr E, t)))))))) (fun E t => some (.inr E, t)))))) (fun j84 => jnu r11 (jnw t6 4 (fun b37 t38 => jcv t38 b37 4 (J_X4_init b37 t38) (fun w40 t39 => jvV w40 (jgR t39 a0 5 3 (fun r41 => jdr r41 (fun b42 => jsT t39 b42 v1 b37 (fun t43 => jgI t43 a0 5 5 (fun x44 => jpI t43 a0 5 5 (x44 + 1) (fun t45 => j84 (some b37) t45))))))) (fun E t => some (.inr E, t)))) (fun b36 => j84 (some b36) t6)))))))) (fun E t => some (.inr E, t)) else j21 σ))))))))
set_option maxHeartbeats 4000000 in
set_option maxRecDepth 100000 in
theorem k_X5_setText (l : Launch) (hst : l.stackTraces = false) (g : jG)   (a0 : Nat) (v1 : Int32) (v2 : Int32) (σ : Hp) (o : jO) (τ : Hp) (h : J_X5_setText a0 v1 v2 σ = some (o, τ)) : jMet l g yX5_setText (Cond.code yX5_setText cX5_setText 4 (some FieldType.int) :: gT) ({ frames := 7, cells := 25, slots := 915, locals := 158 } : Room) 25 915 [.ref a0, .int v1, .int v2] σ o τ := by
  refine j_start l hst (own := RX5) (by decide) rfl (Nat.le_of_ble_eq_true rfl) ?_
  intro p e s m args below meth c C hE hin
  unfold J_X5_setText at h
  show jW p l e ({ frames := 7, cells := 25, slots := 915, locals := 158 } : Room) s m args below meth c g (jQ below g o τ args s 25 915) 0 0 0 [(0, .ref a0), (1, .int v1), (2, .int v2)] [] σ
  refine r_iload_n C 1 rfl 1 dX5_setText_0 rfl ?_
  obtain ⟨j21, hj21E, h⟩ := jj_some h
  have hj21 : ∀ (t1 : Hp), j21 t1 = some (o, τ) → jW p l e ({ frames := 7, cells := 25, slots := 915, locals := 158 } : Room) s m args below meth c g (jQ below g o τ args s 25 915) 0 0 21 [] [] t1 := by
    subst hj21E
    intro t1 h
    exact r_throw C th_X5_123_157 dX5_setText_21 dX5_setText_24 dX5_setText_25 dX5_setText_27 dX5_setText_30 hE (Nat.le_of_ble_eq_true rfl) (Nat.le_of_ble_eq_true rfl) (Nat.le_of_ble_eq_true rfl) (Nat.le_of_ble_eq_true rfl) (Nat.le_of_ble_eq_true rfl) (Nat.le_of_ble_eq_true rfl) h
  clear hj21E
  refine r_if_lt C 21 4 rfl dX5_setText_1 (by decide) h (fun h => ?_) (fun h => ?_)
  · refine r_lv [] rfl ?_
    exact hj21 σ h
  · refine r_iload_n C 5 rfl 1 dX5_setText_4 rfl ?_
    refine r_aload_n C (x := some a0) 6 rfl 0 dX5_setText_5 rfl ?_
    refine r_getI C 9 rfl ff_X5_47 dX5_setText_6 h (fun x2 h => ?_)
    refine r_icmp_gt C 21 12 rfl dX5_setText_9 (by decide) h (fun h => ?_) (fun h => ?_)
    · refine r_lv [] rfl ?_
      exact hj21 σ h
    · refine r_iload_n C 13 rfl 1 dX5_setText_12 rfl ?_
      refine r_aload_n C (x := some a0) 14 rfl 0 dX5_setText_13 rfl ?_
      refine r_getR C 17 rfl ff_X5_34 dX5_setText_14 h (fun r3 h => ?_)
      replace h := jdr_some h
      obtain ⟨b4, hr, h⟩ := h
      rw [hr]
      refine r_alen C (t := 5) 18 rfl (by decide) dX5_setText_17 h (fun x5 h => ?_)
      refine r_icmp_lt C 31 21 rfl dX5_setText_18 (by decide) h (fun h => ?_) (fun h => ?_)
      · refine r_iload_n C 32 rfl 2 dX5_setText_31 rfl ?_
        refine r_callS C mm_X5_159 st_yX5_isGrade 35 0 0 rfl rfl rfl dX5_setText_32 rfl rfl (As := [.int v2]) rfl rfl (Nat.le_of_ble_eq_true rfl) ⟨Nat.le_of_ble_eq_true rfl, Nat.le_of_ble_eq_true rfl⟩ ⟨(Nat.le_of_ble_eq_true rfl), (Nat.le_of_ble_eq_true rfl)⟩ (fun o t h => k_X5_isGrade l hst g _ _ o t h) h (fun w7 t6 h => ?_) (fun E t h => r_out C (fun x hx => (hE x hx).elim) (Nat.le_of_ble_eq_true rfl) (Nat.le_of_ble_eq_true rfl) h)
        replace h := jvI_some h
        obtain ⟨x8, rfl, h⟩ := h
        refine r_if_ne C 48 38 rfl dX5_setText_35 (by decide) h (fun h => ?_) (fun h => ?_)
        · refine r_aload_n C (x := some a0) 49 rfl 0 dX5_setText_48 rfl ?_
          refine r_getR C 52 rfl ff_X5_34 dX5_setText_49 h (fun r9 h => ?_)
          refine r_iload_n C 53 rfl 1 dX5_setText_52 rfl ?_
          replace h := jdr_some h
          obtain ⟨b10, hr, h⟩ := h
          rw [hr]
          refine r_aald C 54 rfl dX5_setText_53 h (fun r11 h => ?_)
          refine r_astore_n C (x := r11) 55 rfl [(3, va_rf r11), (0, .ref a0), (1, .int v1), (2, .int v2)] dX5_setText_54 (by decide) rfl ?_
          refine r_aload_n C (x := r11) 56 rfl 0 dX5_setText_55 rfl ?_
          obtain ⟨j84, hj84E, h⟩ := jj_some h
          have hj84 : ∀ (x12 : Option Nat) (t13 : Hp), j84 x12 t13 = some (o, τ) → jW p l e ({ frames := 7, cells := 25, slots := 915, locals := 158 } : Room) s m args below meth c g (jQ below g o τ args s 25 915) 25 915 84 [(0, .ref a0), (2, .int v2), (3, va_rf x12)] [] t13 := by
            subst hj84E
            intro x12 t13 h
            refine r_aload_n C (x := x12) 85 rfl 2 dX5_setText_84 rfl ?_
            refine r_aload_n C (x := some a0) 86 rfl 0 dX5_setText_85 rfl ?_
            refine r_getR C 89 rfl ff_X5_14 dX5_setText_86 h (fun r14 h => ?_)
            refine r_iload_n C 90 rfl 1 dX5_setText_89 rfl ?_
            replace h := jdr_some h
            obtain ⟨b15, hr, h⟩ := h
            rw [hr]
            replace h := jdr_some h
            obtain ⟨b16, hr, h⟩ := h
            rw [hr]
            refine r_callV C (ci := 4) mm_X5_165 im_yX4_take se_yX4_take rfl 93 25 915 rfl rfl rfl dX5_setText_90 rfl rfl (As := [.ref b15, .int v2]) rfl rfl (Nat.le_of_ble_eq_true rfl) ⟨Nat.le_of_ble_eq_true rfl, Nat.le_of_ble_eq_true rfl⟩ ⟨(Nat.le_of_ble_eq_true rfl), (Nat.le_of_ble_eq_true rfl)⟩ (fun o t h => k_X4_take l hst g _ _ _ _ o t h) h (fun w18 t17 h => ?_) (fun E t h => r_out C (fun x hx => (hE x hx).elim) (Nat.le_refl _) (Nat.le_refl _) h)
            replace h := jvV_some h
            obtain ⟨rfl, h⟩ := h
            refine r_aload_n C (x := some b16) 94 rfl 2 dX5_setText_93 rfl ?_
            refine r_aload_n C (x := some a0) 95 rfl 0 dX5_setText_94 rfl ?_
            refine r_getR C 98 rfl ff_X5_21 dX5_setText_95 h (fun r19 h => ?_)
            refine r_aload_n C (x := some a0) 99 rfl 0 dX5_setText_98 rfl ?_
            refine r_getR C 102 rfl ff_X5_43 dX5_setText_99 h (fun r20 h => ?_)
            replace h := jdr_some h
            obtain ⟨b21, hr, h⟩ := h
            rw [hr]
            replace h := jdr_some h
            obtain ⟨b22, hr, h⟩ := h
            rw [hr]
            refine r_callV C (ci := 4) mm_X5_169 im_yX4_translate se_yX4_translate rfl 105 25 915 rfl rfl rfl dX5_setText_102 rfl rfl (As := [.ref b22, .ref b21]) rfl rfl (Nat.le_of_ble_eq_true rfl) ⟨Nat.le_of_ble_eq_true rfl, Nat.le_of_ble_eq_true rfl⟩ ⟨(Nat.le_of_ble_eq_true rfl), (Nat.le_of_ble_eq_true rfl)⟩ (fun o t h => k_X4_translate l hst g _ _ _ _ o t h) h (fun w24 t23 h => ?_) (fun E t h => r_out C (fun x hx => (hE x hx).elim) (Nat.le_refl _) (Nat.le_refl _) h)
            replace h := jvI_some h
            obtain ⟨x25, rfl, h⟩ := h
            refine r_pop C 106 rfl dX5_setText_105 rfl ?_
            refine r_aload_n C (x := some b16) 107 rfl 2 dX5_setText_106 rfl ?_
            refine r_aload_n C (x := some a0) 108 rfl 0 dX5_setText_107 rfl ?_
            refine r_getI C 111 rfl ff_X5_51 dX5_setText_108 h (fun x26 h => ?_)
            refine r_callV C (ci := 4) mm_X5_173 im_yX4_lay se_yX4_lay rfl 114 25 915 rfl rfl rfl dX5_setText_111 rfl rfl (As := [.int x26]) rfl rfl (Nat.le_of_ble_eq_true rfl) ⟨Nat.le_of_ble_eq_true rfl, Nat.le_of_ble_eq_true rfl⟩ ⟨(Nat.le_of_ble_eq_true rfl), (Nat.le_of_ble_eq_true rfl)⟩ (fun o t h => k_X4_lay l hst g _ _ _ o t h) h (fun w28 t27 h => ?_) (fun E t h => r_out C (fun x hx => (hE x hx).elim) (Nat.le_refl _) (Nat.le_refl _) h)
            replace h := jvV_some h
            obtain ⟨rfl, h⟩ := h
            refine r_aload_n C (x := some a0) 115 rfl 0 dX5_setText_114 rfl ?_
            refine r_getR C 118 rfl ff_X5_14 dX5_setText_115 h (fun r29 h => ?_)
            replace h := jdr_some h
            obtain ⟨b30, hr, h⟩ := h
            rw [hr]
            refine r_callV C (ci := 2) mm_X5_77 im_yX2_empty se_yX2_empty rfl 121 25 915 rfl rfl rfl dX5_setText_118 rfl rfl (As := []) rfl rfl (Nat.le_of_ble_eq_true rfl) ⟨Nat.le_of_ble_eq_true rfl, Nat.le_of_ble_eq_true rfl⟩ ⟨(Nat.le_of_ble_eq_true rfl), (Nat.le_of_ble_eq_true rfl)⟩ (fun o t h => k_X2_empty l hst g _ _ o t h) h (fun w32 t31 h => ?_) (fun E t h => r_out C (fun x hx => (hE x hx).elim) (Nat.le_refl _) (Nat.le_refl _) h)
            replace h := jvV_some h
            obtain ⟨rfl, h⟩ := h
            refine r_aload_n C (x := some b16) 122 rfl 2 dX5_setText_121 rfl ?_
            refine r_callV C (ci := 4) mm_X5_176 im_yX4_wordCount se_yX4_wordCount rfl 125 25 915 rfl rfl rfl dX5_setText_122 rfl rfl (As := []) rfl rfl (Nat.le_of_ble_eq_true rfl) ⟨Nat.le_of_ble_eq_true rfl, Nat.le_of_ble_eq_true rfl⟩ ⟨(Nat.le_of_ble_eq_true rfl), (Nat.le_of_ble_eq_true rfl)⟩ (fun o t h => k_X4_wordCount l hst g _ _ o t h) h (fun w34 t33 h => ?_) (fun E t h => r_out C (fun x hx => (hE x hx).elim) (Nat.le_refl _) (Nat.le_refl _) h)
            replace h := jvI_some h
            obtain ⟨x35, rfl, h⟩ := h
            exact r_iret C dX5_setText_125 (Nat.le_refl _) (Nat.le_refl _) h
          clear hj84E
          refine r_ifnonnull C 84 59 rfl dX5_setText_56 (by decide) h (fun b36 hr h => ?_) (fun hr h => ?_)
          · try rw [hr]
            refine r_lv [1, 3, 0] rfl ?_
            refine r_widen (k' := 25) (n' := 915) (by omega) (by omega) ?_
            exact hj84 (some b36) t6 h
          · try rw [hr]
            refine r_new C 62 rfl tyX4 (ci := 4) rfl tyX4_ok nw_X4 lay_X4 cl_X5_32 ins_X4 ini_X4 dX5_setText_59 (Nat.le_of_ble_eq_true rfl) (Nat.le_of_ble_eq_true rfl) h (fun b37 t38 h => ?_)
            refine r_dup C 63 rfl dX5_setText_62 rfl ?_
            refine r_callIN C (ci := 4) mn_X5_164_ im_yX4_init rfl 66 25 915 rfl rfl rfl dX5_setText_63 rfl rfl (As := []) rfl rfl (Nat.le_of_ble_eq_true rfl) ⟨Nat.le_of_ble_eq_true rfl, Nat.le_of_ble_eq_true rfl⟩ ⟨(Nat.le_of_ble_eq_true rfl), (Nat.le_of_ble_eq_true rfl)⟩ (fun o t h => k_X4_init l hst g _ _ o t h) h (fun w40 t39 h => ?_) (fun E t h => r_out C (fun x hx => (hE x hx).elim) (Nat.le_refl _) (Nat.le_refl _) h)
            replace h := jvV_some h
            obtain ⟨rfl, h⟩ := h
            refine r_astore_n C (x := some b37) 67 rfl [(3, .ref b37), (0, .ref a0), (1, .int v1), (2, .int v2)] dX5_setText_66 (by decide) rfl ?_
            refine r_aload_n C (x := some a0) 68 rfl 1 dX5_setText_67 rfl ?_
            refine r_getR C 71 rfl ff_X5_34 dX5_setText_68 h (fun r41 h => ?_)
            refine r_iload_n C 72 rfl 2 dX5_setText_71 rfl ?_
            refine r_aload_n C (x := some b37) 73 rfl 0 dX5_setText_72 rfl ?_
            replace h := jdr_some h
            obtain ⟨b42, hr, h⟩ := h
            rw [hr]
            refine r_aast C 74 rfl dX5_setText_73 h (fun t43 h => ?_)
            refine r_aload_n C (x := some a0) 75 rfl 1 dX5_setText_74 rfl ?_
            refine r_dup C 76 rfl dX5_setText_75 rfl ?_
            refine r_getI C 79 rfl ff_X5_47 dX5_setText_76 h (fun x44 h => ?_)
            refine r_iconst C (v := 1) 80 rfl dX5_setText_79 (by decide) ?_
            refine r_iadd C 81 rfl dX5_setText_80 ?_
            refine r_putI C 84 rfl fp_X5_47 dX5_setText_81 h (fun t45 h => ?_)
            refine r_lv [1, 3, 0] rfl ?_
            exact hj84 (some b37) t45 h
        · exact r_throw C th_X5_54_162 dX5_setText_38 dX5_setText_41 dX5_setText_42 dX5_setText_44 dX5_setText_47 hE (Nat.le_of_ble_eq_true rfl) (Nat.le_of_ble_eq_true rfl) (Nat.le_of_ble_eq_true rfl) (Nat.le_of_ble_eq_true rfl) (Nat.le_of_ble_eq_true rfl) (Nat.le_of_ble_eq_true rfl) h
      · refine r_lv [] rfl ?_
        exact hj21 σ h

def J_X5_setWidth_L44b   (rc : Int32 → Int32 → Nat → Int32 → Int32 → Hp → jR) (v1 : Int32) (v2 : Int32) (a3 : Nat) (v4 : Int32) (v5 : Int32) (t0 : Hp) : jR := (if v4 ≤ v5 then some (.inl (some (.int v2)), t0) else jaR t0 a3 v5 (fun r7 => jj (fun (t8 : Hp) => rc v1 v2 a3 v4 (v5 + 1) t8) (fun j68 => jnu r7 (j68 t0) (fun b9 => jcv t0 b9 4 (J_X4_lay b9 v1 t0) (fun w11 t10 => jvV w11 (j68 t10)) (fun E t => some (.inr E, t))))))
def J_X5_setWidth_L44   : Nat → Int32 → Int32 → Nat → Int32 → Int32 → Hp → jR
  | 0 => fun _ _ _ _ _ _ => none
  | n + 1 => J_X5_setWidth_L44b   (J_X5_setWidth_L44   n)
def J_X5_setWidth  (a0 : Nat) (v1 : Int32) (σ : Hp) : jR := jj (fun (t1 : Hp) => some (.inr "java/lang/IllegalArgumentException", thS t1)) (fun j12 => (if v1 < 8 then j12 σ else (if v1 ≤ 40 then jgI σ a0 5 6 (fun x2 => jpI σ a0 5 6 v1 (fun t3 => jgR t3 a0 5 3 (fun r4 => jdr r4 (fun b5 => jal t3 b5 5 (fun x6 => J_X5_setWidth_L44   jN v1 x2 b5 x6 0 t3))))) else j12 σ)))
set_option maxHeartbeats 4000000 in
set_option maxRecDepth 100000 in
theorem w_X5_setWidth_L44 (l : Launch) (hst : l.stackTraces = false) {p : Program} {e : Env} {s : State} {m : MethodId} {args : Array Value} {below : List Frame} {meth : Method} {c : Code} {g : jG} {o : jO} {τ : Hp}  (C : jC p l s m args meth c g RX5 cX5_setWidth 7 (some FieldType.int)) (hE : ∀ x ∈ c.exceptionTable.toList, False)  : ∀ (n : Nat) (v1 : Int32) (v2 : Int32) (a3 : Nat) (v4 : Int32) (v5 : Int32) (t0 : Hp), J_X5_setWidth_L44   n v1 v2 a3 v4 v5 t0 = some (o, τ) → jW p l e ({ frames := 7, cells := 1, slots := 6, locals := 140 } : Room) s m args below meth c g (jQ below g o τ args s 1 6) 0 0 44 [(1, .int v1), (2, .int v2), (3, .ref a3), (4, .int v4), (5, .int v5)] [] t0 := by
  intro n
  induction n with
  | zero => intro v1 v2 a3 v4 v5 t0 h; cases h
  | succ n ih =>
    intro v1 v2 a3 v4 v5 t0 h
    skip
    have h : J_X5_setWidth_L44b   (J_X5_setWidth_L44   n) v1 v2 a3 v4 v5 t0 = some (o, τ) := h
    unfold J_X5_setWidth_L44b at h
    refine r_iload C 46 rfl 4 dX5_setWidth_44 rfl ?_
    refine r_iload C 48 rfl 3 dX5_setWidth_46 rfl ?_
    refine r_icmp_ge C 74 51 rfl dX5_setWidth_48 (by decide) h (fun h => ?_) (fun h => ?_)
    · refine r_iload_n C 75 rfl 1 dX5_setWidth_74 rfl ?_
      exact r_iret C dX5_setWidth_75 (Nat.le_of_ble_eq_true rfl) (Nat.le_of_ble_eq_true rfl) h
    · refine r_aload_n C (x := some a3) 52 rfl 2 dX5_setWidth_51 rfl ?_
      refine r_iload C 54 rfl 4 dX5_setWidth_52 rfl ?_
      refine r_aald C 55 rfl dX5_setWidth_54 h (fun r7 h => ?_)
      refine r_astore C (x := r7) 57 rfl [(6, va_rf r7), (1, .int v1), (2, .int v2), (3, .ref a3), (4, .int v4), (5, .int v5)] dX5_setWidth_55 (by decide) rfl ?_
      refine r_aload C (x := r7) 59 rfl 0 dX5_setWidth_57 rfl ?_
      obtain ⟨j68, hj68E, h⟩ := jj_some h
      have hj68 : ∀ (t8 : Hp), j68 t8 = some (o, τ) → jW p l e ({ frames := 7, cells := 1, slots := 6, locals := 140 } : Room) s m args below meth c g (jQ below g o τ args s 1 6) 0 0 68 [(1, .int v1), (2, .int v2), (3, .ref a3), (4, .int v4), (5, .int v5)] [] t8 := by
        subst hj68E
        intro t8 h
        refine r_iinc C (v := v5 + 1) 71 rfl 4 [(5, .int (v5 + 1)), (1, .int v1), (2, .int v2), (3, .ref a3), (4, .int v4)] dX5_setWidth_68 rfl rfl (by decide) rfl ?_
        refine r_goto C 44 dX5_setWidth_71 (by decide) ?_
        refine r_lv [1, 2, 3, 4, 0] rfl ?_
        exact ih v1 v2 a3 v4 (v5 + 1) t8 h
      clear hj68E
      refine r_ifnull C 68 62 rfl dX5_setWidth_59 (by decide) h (fun hr h => ?_) (fun b9 hr h => ?_)
      · try rw [hr]
        refine r_lv [1, 2, 3, 4, 5] rfl ?_
        exact hj68 t0 h
      · try rw [hr]
        refine r_aload C (x := some b9) 64 rfl 0 dX5_setWidth_62 rfl ?_
        refine r_iload_n C 65 rfl 1 dX5_setWidth_64 rfl ?_
        refine r_callV C (ci := 4) mm_X5_173 im_yX4_lay se_yX4_lay rfl 68 0 0 rfl rfl rfl dX5_setWidth_65 rfl rfl (As := [.int v1]) rfl rfl (Nat.le_of_ble_eq_true rfl) ⟨Nat.le_of_ble_eq_true rfl, Nat.le_of_ble_eq_true rfl⟩ ⟨(Nat.le_of_ble_eq_true rfl), (Nat.le_of_ble_eq_true rfl)⟩ (fun o t h => k_X4_lay l hst g _ _ _ o t h) h (fun w11 t10 h => ?_) (fun E t h => r_out C (fun x hx => (hE x hx).elim) (Nat.le_of_ble_eq_true rfl) (Nat.le_of_ble_eq_true rfl) h)
        replace h := jvV_some h
        obtain ⟨rfl, h⟩ := h
        refine r_lv [1, 2, 3, 4, 5] rfl ?_
        exact hj68 t10 h
set_option maxHeartbeats 4000000 in
set_option maxRecDepth 100000 in
theorem k_X5_setWidth (l : Launch) (hst : l.stackTraces = false) (g : jG)   (a0 : Nat) (v1 : Int32) (σ : Hp) (o : jO) (τ : Hp) (h : J_X5_setWidth a0 v1 σ = some (o, τ)) : jMet l g yX5_setWidth (Cond.code yX5_setWidth cX5_setWidth 7 (some FieldType.int) :: gT) ({ frames := 7, cells := 1, slots := 6, locals := 140 } : Room) 1 6 [.ref a0, .int v1] σ o τ := by
  refine j_start l hst (own := RX5) (by decide) rfl (Nat.le_of_ble_eq_true rfl) ?_
  intro p e s m args below meth c C hE hin
  unfold J_X5_setWidth at h
  show jW p l e ({ frames := 7, cells := 1, slots := 6, locals := 140 } : Room) s m args below meth c g (jQ below g o τ args s 1 6) 0 0 0 [(0, .ref a0), (1, .int v1)] [] σ
  refine r_iload_n C 1 rfl 1 dX5_setWidth_0 rfl ?_
  refine r_bipush C (v := 8) 3 rfl dX5_setWidth_1 (by decide) ?_
  obtain ⟨j12, hj12E, h⟩ := jj_some h
  have hj12 : ∀ (t1 : Hp), j12 t1 = some (o, τ) → jW p l e ({ frames := 7, cells := 1, slots := 6, locals := 140 } : Room) s m args below meth c g (jQ below g o τ args s 1 6) 0 0 12 [] [] t1 := by
    subst hj12E
    intro t1 h
    exact r_throw C th_X5_54_179 dX5_setWidth_12 dX5_setWidth_15 dX5_setWidth_16 dX5_setWidth_18 dX5_setWidth_21 hE (Nat.le_of_ble_eq_true rfl) (Nat.le_of_ble_eq_true rfl) (Nat.le_of_ble_eq_true rfl) (Nat.le_of_ble_eq_true rfl) (Nat.le_of_ble_eq_true rfl) (Nat.le_of_ble_eq_true rfl) h
  clear hj12E
  refine r_icmp_lt C 12 6 rfl dX5_setWidth_3 (by decide) h (fun h => ?_) (fun h => ?_)
  · refine r_lv [] rfl ?_
    exact hj12 σ h
  · refine r_iload_n C 7 rfl 1 dX5_setWidth_6 rfl ?_
    refine r_bipush C (v := 40) 9 rfl dX5_setWidth_7 (by decide) ?_
    refine r_icmp_le C 22 12 rfl dX5_setWidth_9 (by decide) h (fun h => ?_) (fun h => ?_)
    · refine r_aload_n C (x := some a0) 23 rfl 0 dX5_setWidth_22 rfl ?_
      refine r_getI C 26 rfl ff_X5_51 dX5_setWidth_23 h (fun x2 h => ?_)
      refine r_istore_n C 27 rfl [(2, .int x2), (0, .ref a0), (1, .int v1)] dX5_setWidth_26 (by decide) rfl ?_
      refine r_aload_n C (x := some a0) 28 rfl 1 dX5_setWidth_27 rfl ?_
      refine r_iload_n C 29 rfl 2 dX5_setWidth_28 rfl ?_
      refine r_putI C 32 rfl fp_X5_51 dX5_setWidth_29 h (fun t3 h => ?_)
      refine r_aload_n C (x := some a0) 33 rfl 1 dX5_setWidth_32 rfl ?_
      refine r_getR C 36 rfl ff_X5_34 dX5_setWidth_33 h (fun r4 h => ?_)
      refine r_astore_n C (x := r4) 37 rfl [(3, va_rf r4), (2, .int x2), (0, .ref a0), (1, .int v1)] dX5_setWidth_36 (by decide) rfl ?_
      refine r_aload_n C (x := r4) 38 rfl 0 dX5_setWidth_37 rfl ?_
      replace h := jdr_some h
      obtain ⟨b5, hr, h⟩ := h
      rw [hr]
      refine r_alen C (t := 5) 39 rfl (by decide) dX5_setWidth_38 h (fun x6 h => ?_)
      refine r_istore C 41 rfl [(4, .int x6), (3, .ref b5), (2, .int x2), (0, .ref a0), (1, .int v1)] dX5_setWidth_39 (by decide) rfl ?_
      refine r_iconst C (v := 0) 42 rfl dX5_setWidth_41 (by decide) ?_
      refine r_istore C 44 rfl [(5, .int 0), (4, .int x6), (3, .ref b5), (2, .int x2), (0, .ref a0), (1, .int v1)] dX5_setWidth_42 (by decide) rfl ?_
      refine r_lv [5, 3, 2, 1, 0] rfl ?_
      refine w_X5_setWidth_L44 l hst  C hE   jN v1 x2 b5 x6 0 t3 h
    · refine r_lv [] rfl ?_
      exact hj12 σ h

def J_X5_textNumbered  (a0 : Nat) (v1 : Int32) (σ : Hp) : jR := jj (fun (x1 : Option Nat) (t2 : Hp) => jnu x1 (some (.inr "java/lang/IndexOutOfBoundsException", thS t2)) (fun b3 => some (.inl (some (.ref b3)), t2))) (fun j23 => jj (fun (t4 : Hp) => j23 none t4) (fun j13 => (if v1 < 0 then j13 σ else jgR σ a0 5 3 (fun r5 => jdr r5 (fun b6 => jal σ b6 5 (fun x7 => (if v1 < x7 then jgR σ a0 5 3 (fun r8 => jdr r8 (fun b9 => jaR σ b9 v1 (fun r10 => j23 r10 σ))) else j13 σ)))))))
set_option maxHeartbeats 4000000 in
set_option maxRecDepth 100000 in
theorem k_X5_textNumbered (l : Launch) (hst : l.stackTraces = false) (g : jG)   (a0 : Nat) (v1 : Int32) (σ : Hp) (o : jO) (τ : Hp) (h : J_X5_textNumbered a0 v1 σ = some (o, τ)) : jMet l g yX5_textNumbered (Cond.code yX5_textNumbered cX5_textNumbered 3 (some (FieldType.object "Dotpress$Text")) :: gT) ({ frames := 6, cells := 1, slots := 6, locals := 100 } : Room) 1 6 [.ref a0, .int v1] σ o τ := by
  refine j_start l hst (own := RX5) (by decide) rfl (Nat.le_of_ble_eq_true rfl) ?_
  intro p e s m args below meth c C hE hin
  unfold J_X5_textNumbered at h
  show jW p l e ({ frames := 6, cells := 1, slots := 6, locals := 100 } : Room) s m args below meth c g (jQ below g o τ args s 1 6) 0 0 0 [(0, .ref a0), (1, .int v1)] [] σ
  refine r_iload_n C 1 rfl 1 dX5_textNumbered_0 rfl ?_
  obtain ⟨j23, hj23E, h⟩ := jj_some h
  have hj23 : ∀ (x1 : Option Nat) (t2 : Hp), j23 x1 t2 = some (o, τ) → jW p l e ({ frames := 6, cells := 1, slots := 6, locals := 100 } : Room) s m args below meth c g (jQ below g o τ args s 1 6) 0 0 23 [] [va_rf x1] t2 := by
    subst hj23E
    intro x1 t2 h
    refine r_astore_n C (x := x1) 24 rfl [(2, va_rf x1)] dX5_textNumbered_23 (by decide) rfl ?_
    refine r_aload_n C (x := x1) 25 rfl 0 dX5_textNumbered_24 rfl ?_
    refine r_ifnonnull C 39 28 rfl dX5_textNumbered_25 (by decide) h (fun b3 hr h => ?_) (fun hr h => ?_)
    · try rw [hr]
      refine r_aload_n C (x := some b3) 40 rfl 0 dX5_textNumbered_39 rfl ?_
      exact r_aret C (Or.inl ⟨_, rfl⟩) dX5_textNumbered_40 (Nat.le_of_ble_eq_true rfl) (Nat.le_of_ble_eq_true rfl) h
    · try rw [hr]
      exact r_throwW C th_X5_123_289 dX5_textNumbered_28 dX5_textNumbered_31 dX5_textNumbered_32 dX5_textNumbered_35 dX5_textNumbered_38 hE (Nat.le_of_ble_eq_true rfl) (Nat.le_of_ble_eq_true rfl) (Nat.le_of_ble_eq_true rfl) (Nat.le_of_ble_eq_true rfl) (Nat.le_of_ble_eq_true rfl) (Nat.le_of_ble_eq_true rfl) h
  clear hj23E
  obtain ⟨j13, hj13E, h⟩ := jj_some h
  have hj13 : ∀ (t4 : Hp), j13 t4 = some (o, τ) → jW p l e ({ frames := 6, cells := 1, slots := 6, locals := 100 } : Room) s m args below meth c g (jQ below g o τ args s 1 6) 0 0 13 [] [] t4 := by
    subst hj13E
    intro t4 h
    refine r_aconst C 14 rfl dX5_textNumbered_13 ?_
    refine r_goto C 23 dX5_textNumbered_14 (by decide) ?_
    exact hj23 none t4 h
  clear hj13E
  refine r_if_lt C 13 4 rfl dX5_textNumbered_1 (by decide) h (fun h => ?_) (fun h => ?_)
  · refine r_lv [] rfl ?_
    exact hj13 σ h
  · refine r_iload_n C 5 rfl 1 dX5_textNumbered_4 rfl ?_
    refine r_aload_n C (x := some a0) 6 rfl 0 dX5_textNumbered_5 rfl ?_
    refine r_getR C 9 rfl ff_X5_34 dX5_textNumbered_6 h (fun r5 h => ?_)
    replace h := jdr_some h
    obtain ⟨b6, hr, h⟩ := h
    rw [hr]
    refine r_alen C (t := 5) 10 rfl (by decide) dX5_textNumbered_9 h (fun x7 h => ?_)
    refine r_icmp_lt C 17 13 rfl dX5_textNumbered_10 (by decide) h (fun h => ?_) (fun h => ?_)
    · refine r_aload_n C (x := some a0) 18 rfl 0 dX5_textNumbered_17 rfl ?_
      refine r_getR C 21 rfl ff_X5_34 dX5_textNumbered_18 h (fun r8 h => ?_)
      refine r_iload_n C 22 rfl 1 dX5_textNumbered_21 rfl ?_
      replace h := jdr_some h
      obtain ⟨b9, hr, h⟩ := h
      rw [hr]
      refine r_aald C 23 rfl dX5_textNumbered_22 h (fun r10 h => ?_)
      refine r_lv [] rfl ?_
      exact hj23 r10 σ h
    · refine r_lv [] rfl ?_
      exact hj13 σ h

def J_X5_words  (a0 : Nat) (v1 : Int32) (σ : Hp) : jR := jcv σ a0 5 (J_X5_textNumbered a0 v1 σ) (fun w2 t1 => jvA w2 (fun b3 => jcv t1 b3 4 (J_X4_wordCount b3 t1) (fun w5 t4 => jvI w5 (fun x6 => some (.inl (some (.int x6)), t4))) (fun E t => some (.inr E, t)))) (fun E t => some (.inr E, t))
set_option maxHeartbeats 4000000 in
set_option maxRecDepth 100000 in
theorem k_X5_words (l : Launch) (hst : l.stackTraces = false) (g : jG)   (a0 : Nat) (v1 : Int32) (σ : Hp) (o : jO) (τ : Hp) (h : J_X5_words a0 v1 σ = some (o, τ)) : jMet l g yX5_words (Cond.code yX5_words cX5_words 2 (some FieldType.int) :: gT) ({ frames := 7, cells := 1, slots := 6, locals := 122 } : Room) 1 6 [.ref a0, .int v1] σ o τ := by
  refine j_start l hst (own := RX5) (by decide) rfl (Nat.le_of_ble_eq_true rfl) ?_
  intro p e s m args below meth c C hE hin
  unfold J_X5_words at h
  show jW p l e ({ frames := 7, cells := 1, slots := 6, locals := 122 } : Room) s m args below meth c g (jQ below g o τ args s 1 6) 0 0 0 [(0, .ref a0), (1, .int v1)] [] σ
  refine r_aload_n C (x := some a0) 1 rfl 0 dX5_words_0 rfl ?_
  refine r_iload_n C 2 rfl 1 dX5_words_1 rfl ?_
  refine r_callV C (ci := 5) mm_X5_181 im_yX5_textNumbered se_yX5_textNumbered rfl 5 1 6 rfl rfl rfl dX5_words_2 rfl rfl (As := [.int v1]) rfl rfl (Nat.le_of_ble_eq_true rfl) ⟨Nat.le_of_ble_eq_true rfl, Nat.le_of_ble_eq_true rfl⟩ ⟨(Nat.le_of_ble_eq_true rfl), (Nat.le_of_ble_eq_true rfl)⟩ (fun o t h => k_X5_textNumbered l hst g _ _ _ o t h) h (fun w2 t1 h => ?_) (fun E t h => r_out C (fun x hx => (hE x hx).elim) (Nat.le_refl _) (Nat.le_refl _) h)
  replace h := jvA_some h
  obtain ⟨b3, rfl, h⟩ := h
  refine r_callV C (ci := 4) mm_X5_176 im_yX4_wordCount se_yX4_wordCount rfl 8 1 6 rfl rfl rfl dX5_words_5 rfl rfl (As := []) rfl rfl (Nat.le_of_ble_eq_true rfl) ⟨Nat.le_of_ble_eq_true rfl, Nat.le_of_ble_eq_true rfl⟩ ⟨(Nat.le_of_ble_eq_true rfl), (Nat.le_of_ble_eq_true rfl)⟩ (fun o t h => k_X4_wordCount l hst g _ _ o t h) h (fun w5 t4 h => ?_) (fun E t h => r_out C (fun x hx => (hE x hx).elim) (Nat.le_refl _) (Nat.le_refl _) h)
  replace h := jvI_some h
  obtain ⟨x6, rfl, h⟩ := h
  exact r_iret C dX5_words_8 (Nat.le_refl _) (Nat.le_refl _) h

def J_X5_textWithWord  (a0 : Nat) (v1 : Int32) (v2 : Int32) (σ : Hp) : jR := jcv σ a0 5 (J_X5_textNumbered a0 v1 σ) (fun w2 t1 => jvA w2 (fun b3 => jj (fun (t4 : Hp) => some (.inr "java/lang/IndexOutOfBoundsException", thS t4)) (fun j18 => (if v2 < 0 then j18 t1 else jcv t1 b3 4 (J_X4_wordCount b3 t1) (fun w6 t5 => jvI w6 (fun x7 => (if v2 < x7 then some (.inl (some (.ref b3)), t5) else j18 t5))) (fun E t => some (.inr E, t)))))) (fun E t => some (.inr E, t))
set_option maxHeartbeats 4000000 in
set_option maxRecDepth 100000 in
theorem k_X5_textWithWord (l : Launch) (hst : l.stackTraces = false) (g : jG)   (a0 : Nat) (v1 : Int32) (v2 : Int32) (σ : Hp) (o : jO) (τ : Hp) (h : J_X5_textWithWord a0 v1 v2 σ = some (o, τ)) : jMet l g yX5_textWithWord (Cond.code yX5_textWithWord cX5_textWithWord 4 (some (FieldType.object "Dotpress$Text")) :: gT) ({ frames := 7, cells := 2, slots := 12, locals := 122 } : Room) 2 12 [.ref a0, .int v1, .int v2] σ o τ := by
  refine j_start l hst (own := RX5) (by decide) rfl (Nat.le_of_ble_eq_true rfl) ?_
  intro p e s m args below meth c C hE hin
  unfold J_X5_textWithWord at h
  show jW p l e ({ frames := 7, cells := 2, slots := 12, locals := 122 } : Room) s m args below meth c g (jQ below g o τ args s 2 12) 0 0 0 [(0, .ref a0), (1, .int v1), (2, .int v2)] [] σ
  refine r_aload_n C (x := some a0) 1 rfl 0 dX5_textWithWord_0 rfl ?_
  refine r_iload_n C 2 rfl 1 dX5_textWithWord_1 rfl ?_
  refine r_callV C (ci := 5) mm_X5_181 im_yX5_textNumbered se_yX5_textNumbered rfl 5 1 6 rfl rfl rfl dX5_textWithWord_2 rfl rfl (As := [.int v1]) rfl rfl (Nat.le_of_ble_eq_true rfl) ⟨Nat.le_of_ble_eq_true rfl, Nat.le_of_ble_eq_true rfl⟩ ⟨(Nat.le_of_ble_eq_true rfl), (Nat.le_of_ble_eq_true rfl)⟩ (fun o t h => k_X5_textNumbered l hst g _ _ _ o t h) h (fun w2 t1 h => ?_) (fun E t h => r_out C (fun x hx => (hE x hx).elim) (Nat.le_of_ble_eq_true rfl) (Nat.le_of_ble_eq_true rfl) h)
  replace h := jvA_some h
  obtain ⟨b3, rfl, h⟩ := h
  refine r_astore_n C (x := some b3) 6 rfl [(3, .ref b3), (0, .ref a0), (1, .int v1), (2, .int v2)] dX5_textWithWord_5 (by decide) rfl ?_
  refine r_iload_n C 7 rfl 3 dX5_textWithWord_6 rfl ?_
  obtain ⟨j18, hj18E, h⟩ := jj_some h
  have hj18 : ∀ (t4 : Hp), j18 t4 = some (o, τ) → jW p l e ({ frames := 7, cells := 2, slots := 12, locals := 122 } : Room) s m args below meth c g (jQ below g o τ args s 2 12) 1 6 18 [] [] t4 := by
    subst hj18E
    intro t4 h
    exact r_throwW C th_X5_123_291 dX5_textWithWord_18 dX5_textWithWord_21 dX5_textWithWord_22 dX5_textWithWord_25 dX5_textWithWord_28 hE (Nat.le_of_ble_eq_true rfl) (Nat.le_of_ble_eq_true rfl) (Nat.le_of_ble_eq_true rfl) (Nat.le_of_ble_eq_true rfl) (Nat.le_of_ble_eq_true rfl) (Nat.le_of_ble_eq_true rfl) h
  clear hj18E
  refine r_if_lt C 18 10 rfl dX5_textWithWord_7 (by decide) h (fun h => ?_) (fun h => ?_)
  · refine r_lv [] rfl ?_
    exact hj18 t1 h
  · refine r_iload_n C 11 rfl 3 dX5_textWithWord_10 rfl ?_
    refine r_aload_n C (x := some b3) 12 rfl 0 dX5_textWithWord_11 rfl ?_
    refine r_callV C (ci := 4) mm_X5_176 im_yX4_wordCount se_yX4_wordCount rfl 15 1 6 rfl rfl rfl dX5_textWithWord_12 rfl rfl (As := []) rfl rfl (Nat.le_of_ble_eq_true rfl) ⟨Nat.le_of_ble_eq_true rfl, Nat.le_of_ble_eq_true rfl⟩ ⟨(Nat.le_of_ble_eq_true rfl), (Nat.le_of_ble_eq_true rfl)⟩ (fun o t h => k_X4_wordCount l hst g _ _ o t h) h (fun w6 t5 h => ?_) (fun E t h => r_out C (fun x hx => (hE x hx).elim) (Nat.le_of_ble_eq_true rfl) (Nat.le_of_ble_eq_true rfl) h)
    replace h := jvI_some h
    obtain ⟨x7, rfl, h⟩ := h
    refine r_icmp_lt C 29 18 rfl dX5_textWithWord_15 (by decide) h (fun h => ?_) (fun h => ?_)
    · refine r_aload_n C (x := some b3) 30 rfl 0 dX5_textWithWord_29 rfl ?_
      exact r_aret C (Or.inl ⟨_, rfl⟩) dX5_textWithWord_30 (Nat.le_of_ble_eq_true rfl) (Nat.le_of_ble_eq_true rfl) h
    · refine r_lv [] rfl ?_
      exact hj18 t5 h

def J_X5_length  (a0 : Nat) (v1 : Int32) (v2 : Int32) (σ : Hp) : jR := jcv σ a0 5 (J_X5_textWithWord a0 v1 v2 σ) (fun w2 t1 => jvA w2 (fun b3 => jcv t1 b3 4 (J_X4_cellCount b3 v2 t1) (fun w5 t4 => jvI w5 (fun x6 => some (.inl (some (.int x6)), t4))) (fun E t => some (.inr E, t)))) (fun E t => some (.inr E, t))
set_option maxHeartbeats 4000000 in
set_option maxRecDepth 100000 in
theorem k_X5_length (l : Launch) (hst : l.stackTraces = false) (g : jG)   (a0 : Nat) (v1 : Int32) (v2 : Int32) (σ : Hp) (o : jO) (τ : Hp) (h : J_X5_length a0 v1 v2 σ = some (o, τ)) : jMet l g yX5_length (Cond.code yX5_length cX5_length 3 (some FieldType.int) :: gT) ({ frames := 8, cells := 2, slots := 12, locals := 145 } : Room) 2 12 [.ref a0, .int v1, .int v2] σ o τ := by
  refine j_start l hst (own := RX5) (by decide) rfl (Nat.le_of_ble_eq_true rfl) ?_
  intro p e s m args below meth c C hE hin
  unfold J_X5_length at h
  show jW p l e ({ frames := 8, cells := 2, slots := 12, locals := 145 } : Room) s m args below meth c g (jQ below g o τ args s 2 12) 0 0 0 [(0, .ref a0), (1, .int v1), (2, .int v2)] [] σ
  refine r_aload_n C (x := some a0) 1 rfl 0 dX5_length_0 rfl ?_
  refine r_iload_n C 2 rfl 1 dX5_length_1 rfl ?_
  refine r_iload_n C 3 rfl 2 dX5_length_2 rfl ?_
  refine r_callV C (ci := 5) mm_X5_185 im_yX5_textWithWord se_yX5_textWithWord rfl 6 2 12 rfl rfl rfl dX5_length_3 rfl rfl (As := [.int v1, .int v2]) rfl rfl (Nat.le_of_ble_eq_true rfl) ⟨Nat.le_of_ble_eq_true rfl, Nat.le_of_ble_eq_true rfl⟩ ⟨(Nat.le_of_ble_eq_true rfl), (Nat.le_of_ble_eq_true rfl)⟩ (fun o t h => k_X5_textWithWord l hst g _ _ _ _ o t h) h (fun w2 t1 h => ?_) (fun E t h => r_out C (fun x hx => (hE x hx).elim) (Nat.le_refl _) (Nat.le_refl _) h)
  replace h := jvA_some h
  obtain ⟨b3, rfl, h⟩ := h
  refine r_iload_n C 7 rfl 2 dX5_length_6 rfl ?_
  refine r_callV C (ci := 4) mm_X5_189 im_yX4_cellCount se_yX4_cellCount rfl 10 2 12 rfl rfl rfl dX5_length_7 rfl rfl (As := [.int v2]) rfl rfl (Nat.le_of_ble_eq_true rfl) ⟨Nat.le_of_ble_eq_true rfl, Nat.le_of_ble_eq_true rfl⟩ ⟨(Nat.le_of_ble_eq_true rfl), (Nat.le_of_ble_eq_true rfl)⟩ (fun o t h => k_X4_cellCount l hst g _ _ _ o t h) h (fun w5 t4 h => ?_) (fun E t h => r_out C (fun x hx => (hE x hx).elim) (Nat.le_refl _) (Nat.le_refl _) h)
  replace h := jvI_some h
  obtain ⟨x6, rfl, h⟩ := h
  exact r_iret C dX5_length_10 (Nat.le_refl _) (Nat.le_refl _) h

def J_X5_cellOf  (a0 : Nat) (v1 : Int32) (v2 : Int32) (v3 : Int32) (σ : Hp) : jR := jcv σ a0 5 (J_X5_textWithWord a0 v1 v2 σ) (fun w2 t1 => jvA w2 (fun b3 => jj (fun (t4 : Hp) => some (.inr "java/util/NoSuchElementException", thS t4)) (fun j22 => (if v3 < 0 then j22 t1 else jcv t1 b3 4 (J_X4_cellCount b3 v2 t1) (fun w6 t5 => jvI w6 (fun x7 => (if v3 < x7 then jcv t5 b3 4 (J_X4_cellAt b3 v2 v3 t5) (fun w9 t8 => jvI w9 (fun x10 => some (.inl (some (.int x10)), t8))) (fun E t => some (.inr E, t)) else j22 t5))) (fun E t => some (.inr E, t)))))) (fun E t => some (.inr E, t))
set_option maxHeartbeats 4000000 in
set_option maxRecDepth 100000 in
theorem k_X5_cellOf (l : Launch) (hst : l.stackTraces = false) (g : jG)   (a0 : Nat) (v1 : Int32) (v2 : Int32) (v3 : Int32) (σ : Hp) (o : jO) (τ : Hp) (h : J_X5_cellOf a0 v1 v2 v3 σ = some (o, τ)) : jMet l g yX5_cellOf (Cond.code yX5_cellOf cX5_cellOf 5 (some FieldType.int) :: gT) ({ frames := 8, cells := 3, slots := 18, locals := 145 } : Room) 3 18 [.ref a0, .int v1, .int v2, .int v3] σ o τ := by
  refine j_start l hst (own := RX5) (by decide) rfl (Nat.le_of_ble_eq_true rfl) ?_
  intro p e s m args below meth c C hE hin
  unfold J_X5_cellOf at h
  show jW p l e ({ frames := 8, cells := 3, slots := 18, locals := 145 } : Room) s m args below meth c g (jQ below g o τ args s 3 18) 0 0 0 [(0, .ref a0), (1, .int v1), (2, .int v2), (3, .int v3)] [] σ
  refine r_aload_n C (x := some a0) 1 rfl 0 dX5_cellOf_0 rfl ?_
  refine r_iload_n C 2 rfl 1 dX5_cellOf_1 rfl ?_
  refine r_iload_n C 3 rfl 2 dX5_cellOf_2 rfl ?_
  refine r_callV C (ci := 5) mm_X5_185 im_yX5_textWithWord se_yX5_textWithWord rfl 6 2 12 rfl rfl rfl dX5_cellOf_3 rfl rfl (As := [.int v1, .int v2]) rfl rfl (Nat.le_of_ble_eq_true rfl) ⟨Nat.le_of_ble_eq_true rfl, Nat.le_of_ble_eq_true rfl⟩ ⟨(Nat.le_of_ble_eq_true rfl), (Nat.le_of_ble_eq_true rfl)⟩ (fun o t h => k_X5_textWithWord l hst g _ _ _ _ o t h) h (fun w2 t1 h => ?_) (fun E t h => r_out C (fun x hx => (hE x hx).elim) (Nat.le_of_ble_eq_true rfl) (Nat.le_of_ble_eq_true rfl) h)
  replace h := jvA_some h
  obtain ⟨b3, rfl, h⟩ := h
  refine r_astore C (x := some b3) 8 rfl [(4, .ref b3), (0, .ref a0), (1, .int v1), (2, .int v2), (3, .int v3)] dX5_cellOf_6 (by decide) rfl ?_
  refine r_iload_n C 9 rfl 4 dX5_cellOf_8 rfl ?_
  obtain ⟨j22, hj22E, h⟩ := jj_some h
  have hj22 : ∀ (t4 : Hp), j22 t4 = some (o, τ) → jW p l e ({ frames := 8, cells := 3, slots := 18, locals := 145 } : Room) s m args below meth c g (jQ below g o τ args s 3 18) 2 12 22 [] [] t4 := by
    subst hj22E
    intro t4 h
    exact r_throwN C th_X5_110_192 dX5_cellOf_22 dX5_cellOf_25 dX5_cellOf_26 dX5_cellOf_28 dX5_cellOf_31 hE (Nat.le_of_ble_eq_true rfl) (Nat.le_of_ble_eq_true rfl) (Nat.le_of_ble_eq_true rfl) (Nat.le_of_ble_eq_true rfl) (Nat.le_of_ble_eq_true rfl) (Nat.le_of_ble_eq_true rfl) h
  clear hj22E
  refine r_if_lt C 22 12 rfl dX5_cellOf_9 (by decide) h (fun h => ?_) (fun h => ?_)
  · refine r_lv [] rfl ?_
    exact hj22 t1 h
  · refine r_iload_n C 13 rfl 4 dX5_cellOf_12 rfl ?_
    refine r_aload C (x := some b3) 15 rfl 0 dX5_cellOf_13 rfl ?_
    refine r_iload_n C 16 rfl 3 dX5_cellOf_15 rfl ?_
    refine r_callV C (ci := 4) mm_X5_189 im_yX4_cellCount se_yX4_cellCount rfl 19 2 12 rfl rfl rfl dX5_cellOf_16 rfl rfl (As := [.int v2]) rfl rfl (Nat.le_of_ble_eq_true rfl) ⟨Nat.le_of_ble_eq_true rfl, Nat.le_of_ble_eq_true rfl⟩ ⟨(Nat.le_of_ble_eq_true rfl), (Nat.le_of_ble_eq_true rfl)⟩ (fun o t h => k_X4_cellCount l hst g _ _ _ o t h) h (fun w6 t5 h => ?_) (fun E t h => r_out C (fun x hx => (hE x hx).elim) (Nat.le_of_ble_eq_true rfl) (Nat.le_of_ble_eq_true rfl) h)
    replace h := jvI_some h
    obtain ⟨x7, rfl, h⟩ := h
    refine r_icmp_lt C 32 22 rfl dX5_cellOf_19 (by decide) h (fun h => ?_) (fun h => ?_)
    · refine r_aload C (x := some b3) 34 rfl 0 dX5_cellOf_32 rfl ?_
      refine r_iload_n C 35 rfl 3 dX5_cellOf_34 rfl ?_
      refine r_iload_n C 36 rfl 4 dX5_cellOf_35 rfl ?_
      refine r_callV C (ci := 4) mm_X5_194 im_yX4_cellAt se_yX4_cellAt rfl 39 2 12 rfl rfl rfl dX5_cellOf_36 rfl rfl (As := [.int v2, .int v3]) rfl rfl (Nat.le_of_ble_eq_true rfl) ⟨Nat.le_of_ble_eq_true rfl, Nat.le_of_ble_eq_true rfl⟩ ⟨(Nat.le_of_ble_eq_true rfl), (Nat.le_of_ble_eq_true rfl)⟩ (fun o t h => k_X4_cellAt l hst g _ _ _ _ o t h) h (fun w9 t8 h => ?_) (fun E t h => r_out C (fun x hx => (hE x hx).elim) (Nat.le_of_ble_eq_true rfl) (Nat.le_of_ble_eq_true rfl) h)
      replace h := jvI_some h
      obtain ⟨x10, rfl, h⟩ := h
      exact r_iret C dX5_cellOf_39 (Nat.le_of_ble_eq_true rfl) (Nat.le_of_ble_eq_true rfl) h
    · refine r_lv [] rfl ?_
      exact hj22 t5 h

def J_X5_lines  (a0 : Nat) (v1 : Int32) (σ : Hp) : jR := jcv σ a0 5 (J_X5_textNumbered a0 v1 σ) (fun w2 t1 => jvA w2 (fun b3 => jcv t1 b3 4 (J_X4_lineCount b3 t1) (fun w5 t4 => jvI w5 (fun x6 => some (.inl (some (.int x6)), t4))) (fun E t => some (.inr E, t)))) (fun E t => some (.inr E, t))
set_option maxHeartbeats 4000000 in
set_option maxRecDepth 100000 in
theorem k_X5_lines (l : Launch) (hst : l.stackTraces = false) (g : jG)   (a0 : Nat) (v1 : Int32) (σ : Hp) (o : jO) (τ : Hp) (h : J_X5_lines a0 v1 σ = some (o, τ)) : jMet l g yX5_lines (Cond.code yX5_lines cX5_lines 2 (some FieldType.int) :: gT) ({ frames := 7, cells := 1, slots := 6, locals := 122 } : Room) 1 6 [.ref a0, .int v1] σ o τ := by
  refine j_start l hst (own := RX5) (by decide) rfl (Nat.le_of_ble_eq_true rfl) ?_
  intro p e s m args below meth c C hE hin
  unfold J_X5_lines at h
  show jW p l e ({ frames := 7, cells := 1, slots := 6, locals := 122 } : Room) s m args below meth c g (jQ below g o τ args s 1 6) 0 0 0 [(0, .ref a0), (1, .int v1)] [] σ
  refine r_aload_n C (x := some a0) 1 rfl 0 dX5_lines_0 rfl ?_
  refine r_iload_n C 2 rfl 1 dX5_lines_1 rfl ?_
  refine r_callV C (ci := 5) mm_X5_181 im_yX5_textNumbered se_yX5_textNumbered rfl 5 1 6 rfl rfl rfl dX5_lines_2 rfl rfl (As := [.int v1]) rfl rfl (Nat.le_of_ble_eq_true rfl) ⟨Nat.le_of_ble_eq_true rfl, Nat.le_of_ble_eq_true rfl⟩ ⟨(Nat.le_of_ble_eq_true rfl), (Nat.le_of_ble_eq_true rfl)⟩ (fun o t h => k_X5_textNumbered l hst g _ _ _ o t h) h (fun w2 t1 h => ?_) (fun E t h => r_out C (fun x hx => (hE x hx).elim) (Nat.le_refl _) (Nat.le_refl _) h)
  replace h := jvA_some h
  obtain ⟨b3, rfl, h⟩ := h
  refine r_callV C (ci := 4) mm_X5_197 im_yX4_lineCount se_yX4_lineCount rfl 8 1 6 rfl rfl rfl dX5_lines_5 rfl rfl (As := []) rfl rfl (Nat.le_of_ble_eq_true rfl) ⟨Nat.le_of_ble_eq_true rfl, Nat.le_of_ble_eq_true rfl⟩ ⟨(Nat.le_of_ble_eq_true rfl), (Nat.le_of_ble_eq_true rfl)⟩ (fun o t h => k_X4_lineCount l hst g _ _ o t h) h (fun w5 t4 h => ?_) (fun E t h => r_out C (fun x hx => (hE x hx).elim) (Nat.le_refl _) (Nat.le_refl _) h)
  replace h := jvI_some h
  obtain ⟨x6, rfl, h⟩ := h
  exact r_iret C dX5_lines_8 (Nat.le_refl _) (Nat.le_refl _) h

def J_X5_lineAt  (a0 : Nat) (v1 : Int32) (v2 : Int32) (v3 : Int32) (σ : Hp) : jR := jcv σ a0 5 (J_X5_textNumbered a0 v1 σ) (fun w2 t1 => jvA w2 (fun b3 => jj (fun (t4 : Hp) => some (.inr "java/lang/IndexOutOfBoundsException", thS t4)) (fun j20 => (if v2 < 0 then j20 t1 else jcv t1 b3 4 (J_X4_lineCount b3 t1) (fun w6 t5 => jvI w6 (fun x7 => (if v2 < x7 then jj (fun (t8 : Hp) => some (.inr "java/util/NoSuchElementException", thS t8)) (fun j44 => (if v3 < 0 then j44 t5 else jcv t5 b3 4 (J_X4_lineSize b3 v2 t5) (fun w10 t9 => jvI w10 (fun x11 => (if v3 < x11 then jcv t9 b3 4 (J_X4_laidCellAt b3 v2 v3 t9) (fun w13 t12 => jvI w13 (fun x14 => some (.inl (some (.int x14)), t12))) (fun E t => some (.inr E, t)) else j44 t9))) (fun E t => some (.inr E, t)))) else j20 t5))) (fun E t => some (.inr E, t)))))) (fun E t => some (.inr E, t))
set_option maxHeartbeats 4000000 in
set_option maxRecDepth 100000 in
theorem k_X5_lineAt (l : Launch) (hst : l.stackTraces = false) (g : jG)   (a0 : Nat) (v1 : Int32) (v2 : Int32) (v3 : Int32) (σ : Hp) (o : jO) (τ : Hp) (h : J_X5_lineAt a0 v1 v2 v3 σ = some (o, τ)) : jMet l g yX5_lineAt (Cond.code yX5_lineAt cX5_lineAt 5 (some FieldType.int) :: gT) ({ frames := 7, cells := 2, slots := 12, locals := 122 } : Room) 2 12 [.ref a0, .int v1, .int v2, .int v3] σ o τ := by
  refine j_start l hst (own := RX5) (by decide) rfl (Nat.le_of_ble_eq_true rfl) ?_
  intro p e s m args below meth c C hE hin
  unfold J_X5_lineAt at h
  show jW p l e ({ frames := 7, cells := 2, slots := 12, locals := 122 } : Room) s m args below meth c g (jQ below g o τ args s 2 12) 0 0 0 [(0, .ref a0), (1, .int v1), (2, .int v2), (3, .int v3)] [] σ
  refine r_aload_n C (x := some a0) 1 rfl 0 dX5_lineAt_0 rfl ?_
  refine r_iload_n C 2 rfl 1 dX5_lineAt_1 rfl ?_
  refine r_callV C (ci := 5) mm_X5_181 im_yX5_textNumbered se_yX5_textNumbered rfl 5 1 6 rfl rfl rfl dX5_lineAt_2 rfl rfl (As := [.int v1]) rfl rfl (Nat.le_of_ble_eq_true rfl) ⟨Nat.le_of_ble_eq_true rfl, Nat.le_of_ble_eq_true rfl⟩ ⟨(Nat.le_of_ble_eq_true rfl), (Nat.le_of_ble_eq_true rfl)⟩ (fun o t h => k_X5_textNumbered l hst g _ _ _ o t h) h (fun w2 t1 h => ?_) (fun E t h => r_out C (fun x hx => (hE x hx).elim) (Nat.le_of_ble_eq_true rfl) (Nat.le_of_ble_eq_true rfl) h)
  replace h := jvA_some h
  obtain ⟨b3, rfl, h⟩ := h
  refine r_astore C (x := some b3) 7 rfl [(4, .ref b3), (0, .ref a0), (1, .int v1), (2, .int v2), (3, .int v3)] dX5_lineAt_5 (by decide) rfl ?_
  refine r_iload_n C 8 rfl 3 dX5_lineAt_7 rfl ?_
  obtain ⟨j20, hj20E, h⟩ := jj_some h
  have hj20 : ∀ (t4 : Hp), j20 t4 = some (o, τ) → jW p l e ({ frames := 7, cells := 2, slots := 12, locals := 122 } : Room) s m args below meth c g (jQ below g o τ args s 2 12) 1 6 20 [] [] t4 := by
    subst hj20E
    intro t4 h
    exact r_throw C th_X5_123_200 dX5_lineAt_20 dX5_lineAt_23 dX5_lineAt_24 dX5_lineAt_26 dX5_lineAt_29 hE (Nat.le_of_ble_eq_true rfl) (Nat.le_of_ble_eq_true rfl) (Nat.le_of_ble_eq_true rfl) (Nat.le_of_ble_eq_true rfl) (Nat.le_of_ble_eq_true rfl) (Nat.le_of_ble_eq_true rfl) h
  clear hj20E
  refine r_if_lt C 20 11 rfl dX5_lineAt_8 (by decide) h (fun h => ?_) (fun h => ?_)
  · refine r_lv [] rfl ?_
    exact hj20 t1 h
  · refine r_iload_n C 12 rfl 3 dX5_lineAt_11 rfl ?_
    refine r_aload C (x := some b3) 14 rfl 0 dX5_lineAt_12 rfl ?_
    refine r_callV C (ci := 4) mm_X5_197 im_yX4_lineCount se_yX4_lineCount rfl 17 1 6 rfl rfl rfl dX5_lineAt_14 rfl rfl (As := []) rfl rfl (Nat.le_of_ble_eq_true rfl) ⟨Nat.le_of_ble_eq_true rfl, Nat.le_of_ble_eq_true rfl⟩ ⟨(Nat.le_of_ble_eq_true rfl), (Nat.le_of_ble_eq_true rfl)⟩ (fun o t h => k_X4_lineCount l hst g _ _ o t h) h (fun w6 t5 h => ?_) (fun E t h => r_out C (fun x hx => (hE x hx).elim) (Nat.le_of_ble_eq_true rfl) (Nat.le_of_ble_eq_true rfl) h)
    replace h := jvI_some h
    obtain ⟨x7, rfl, h⟩ := h
    refine r_icmp_lt C 30 20 rfl dX5_lineAt_17 (by decide) h (fun h => ?_) (fun h => ?_)
    · refine r_iload_n C 31 rfl 4 dX5_lineAt_30 rfl ?_
      obtain ⟨j44, hj44E, h⟩ := jj_some h
      have hj44 : ∀ (t8 : Hp), j44 t8 = some (o, τ) → jW p l e ({ frames := 7, cells := 2, slots := 12, locals := 122 } : Room) s m args below meth c g (jQ below g o τ args s 2 12) 1 6 44 [] [] t8 := by
        subst hj44E
        intro t8 h
        exact r_throwN C th_X5_110_205 dX5_lineAt_44 dX5_lineAt_47 dX5_lineAt_48 dX5_lineAt_50 dX5_lineAt_53 hE (Nat.le_of_ble_eq_true rfl) (Nat.le_of_ble_eq_true rfl) (Nat.le_of_ble_eq_true rfl) (Nat.le_of_ble_eq_true rfl) (Nat.le_of_ble_eq_true rfl) (Nat.le_of_ble_eq_true rfl) h
      clear hj44E
      refine r_if_lt C 44 34 rfl dX5_lineAt_31 (by decide) h (fun h => ?_) (fun h => ?_)
      · refine r_lv [] rfl ?_
        exact hj44 t5 h
      · refine r_iload_n C 35 rfl 4 dX5_lineAt_34 rfl ?_
        refine r_aload C (x := some b3) 37 rfl 0 dX5_lineAt_35 rfl ?_
        refine r_iload_n C 38 rfl 3 dX5_lineAt_37 rfl ?_
        refine r_callV C (ci := 4) mm_X5_202 im_yX4_lineSize se_yX4_lineSize rfl 41 1 6 rfl rfl rfl dX5_lineAt_38 rfl rfl (As := [.int v2]) rfl rfl (Nat.le_of_ble_eq_true rfl) ⟨Nat.le_of_ble_eq_true rfl, Nat.le_of_ble_eq_true rfl⟩ ⟨(Nat.le_of_ble_eq_true rfl), (Nat.le_of_ble_eq_true rfl)⟩ (fun o t h => k_X4_lineSize l hst g _ _ _ o t h) h (fun w10 t9 h => ?_) (fun E t h => r_out C (fun x hx => (hE x hx).elim) (Nat.le_of_ble_eq_true rfl) (Nat.le_of_ble_eq_true rfl) h)
        replace h := jvI_some h
        obtain ⟨x11, rfl, h⟩ := h
        refine r_icmp_lt C 54 44 rfl dX5_lineAt_41 (by decide) h (fun h => ?_) (fun h => ?_)
        · refine r_aload C (x := some b3) 56 rfl 0 dX5_lineAt_54 rfl ?_
          refine r_iload_n C 57 rfl 3 dX5_lineAt_56 rfl ?_
          refine r_iload_n C 58 rfl 4 dX5_lineAt_57 rfl ?_
          refine r_callV C (ci := 4) mm_X5_207 im_yX4_laidCellAt se_yX4_laidCellAt rfl 61 1 6 rfl rfl rfl dX5_lineAt_58 rfl rfl (As := [.int v2, .int v3]) rfl rfl (Nat.le_of_ble_eq_true rfl) ⟨Nat.le_of_ble_eq_true rfl, Nat.le_of_ble_eq_true rfl⟩ ⟨(Nat.le_of_ble_eq_true rfl), (Nat.le_of_ble_eq_true rfl)⟩ (fun o t h => k_X4_laidCellAt l hst g _ _ _ _ o t h) h (fun w13 t12 h => ?_) (fun E t h => r_out C (fun x hx => (hE x hx).elim) (Nat.le_of_ble_eq_true rfl) (Nat.le_of_ble_eq_true rfl) h)
          replace h := jvI_some h
          obtain ⟨x14, rfl, h⟩ := h
          exact r_iret C dX5_lineAt_61 (Nat.le_of_ble_eq_true rfl) (Nat.le_of_ble_eq_true rfl) h
        · refine r_lv [] rfl ?_
          exact hj44 t9 h
    · refine r_lv [] rfl ?_
      exact hj20 t5 h

def J_X5_lineOf  (a0 : Nat) (v1 : Int32) (v2 : Int32) (σ : Hp) : jR := jcv σ a0 5 (J_X5_textWithWord a0 v1 v2 σ) (fun w2 t1 => jvA w2 (fun b3 => jcv t1 b3 4 (J_X4_firstLineOf b3 v2 t1) (fun w5 t4 => jvI w5 (fun x6 => some (.inl (some (.int x6)), t4))) (fun E t => some (.inr E, t)))) (fun E t => some (.inr E, t))
set_option maxHeartbeats 4000000 in
set_option maxRecDepth 100000 in
theorem k_X5_lineOf (l : Launch) (hst : l.stackTraces = false) (g : jG)   (a0 : Nat) (v1 : Int32) (v2 : Int32) (σ : Hp) (o : jO) (τ : Hp) (h : J_X5_lineOf a0 v1 v2 σ = some (o, τ)) : jMet l g yX5_lineOf (Cond.code yX5_lineOf cX5_lineOf 3 (some FieldType.int) :: gT) ({ frames := 8, cells := 2, slots := 12, locals := 145 } : Room) 2 12 [.ref a0, .int v1, .int v2] σ o τ := by
  refine j_start l hst (own := RX5) (by decide) rfl (Nat.le_of_ble_eq_true rfl) ?_
  intro p e s m args below meth c C hE hin
  unfold J_X5_lineOf at h
  show jW p l e ({ frames := 8, cells := 2, slots := 12, locals := 145 } : Room) s m args below meth c g (jQ below g o τ args s 2 12) 0 0 0 [(0, .ref a0), (1, .int v1), (2, .int v2)] [] σ
  refine r_aload_n C (x := some a0) 1 rfl 0 dX5_lineOf_0 rfl ?_
  refine r_iload_n C 2 rfl 1 dX5_lineOf_1 rfl ?_
  refine r_iload_n C 3 rfl 2 dX5_lineOf_2 rfl ?_
  refine r_callV C (ci := 5) mm_X5_185 im_yX5_textWithWord se_yX5_textWithWord rfl 6 2 12 rfl rfl rfl dX5_lineOf_3 rfl rfl (As := [.int v1, .int v2]) rfl rfl (Nat.le_of_ble_eq_true rfl) ⟨Nat.le_of_ble_eq_true rfl, Nat.le_of_ble_eq_true rfl⟩ ⟨(Nat.le_of_ble_eq_true rfl), (Nat.le_of_ble_eq_true rfl)⟩ (fun o t h => k_X5_textWithWord l hst g _ _ _ _ o t h) h (fun w2 t1 h => ?_) (fun E t h => r_out C (fun x hx => (hE x hx).elim) (Nat.le_refl _) (Nat.le_refl _) h)
  replace h := jvA_some h
  obtain ⟨b3, rfl, h⟩ := h
  refine r_iload_n C 7 rfl 2 dX5_lineOf_6 rfl ?_
  refine r_callV C (ci := 4) mm_X5_210 im_yX4_firstLineOf se_yX4_firstLineOf rfl 10 2 12 rfl rfl rfl dX5_lineOf_7 rfl rfl (As := [.int v2]) rfl rfl (Nat.le_of_ble_eq_true rfl) ⟨Nat.le_of_ble_eq_true rfl, Nat.le_of_ble_eq_true rfl⟩ ⟨(Nat.le_of_ble_eq_true rfl), (Nat.le_of_ble_eq_true rfl)⟩ (fun o t h => k_X4_firstLineOf l hst g _ _ _ o t h) h (fun w5 t4 h => ?_) (fun E t h => r_out C (fun x hx => (hE x hx).elim) (Nat.le_refl _) (Nat.le_refl _) h)
  replace h := jvI_some h
  obtain ⟨x6, rfl, h⟩ := h
  exact r_iret C dX5_lineOf_10 (Nat.le_refl _) (Nat.le_refl _) h

def J_X5_planLine_L2b   (rc : Nat → Nat → Int32 → Int32 → Hp → jR) (a0 : Nat) (a1 : Nat) (v2 : Int32) (v3 : Int32) (t0 : Hp) : jR := jcv t0 a1 4 (J_X4_lineSize a1 v2 t0) (fun w2 t1 => jvI w2 (fun x3 => (if x3 ≤ v3 then some (.inl none, t1) else jgR t1 a0 5 2 (fun r4 => jdr r4 (fun b5 => jcv t1 a1 4 (J_X4_laidCellAt a1 v2 v3 t1) (fun w7 t6 => jvI w7 (fun x8 => jcv t6 b5 0 (J_X0_planCell b5 x8 t6) (fun w10 t9 => jvV w10 (rc a0 a1 v2 (v3 + 1) t9)) (fun E t => some (.inr E, t)))) (fun E t => some (.inr E, t))))))) (fun E t => some (.inr E, t))
def J_X5_planLine_L2   : Nat → Nat → Nat → Int32 → Int32 → Hp → jR
  | 0 => fun _ _ _ _ _ => none
  | n + 1 => J_X5_planLine_L2b   (J_X5_planLine_L2   n)
def J_X5_planLine  (a0 : Nat) (a1 : Nat) (v2 : Int32) (σ : Hp) : jR := J_X5_planLine_L2   jN a0 a1 v2 0 σ
set_option maxHeartbeats 4000000 in
set_option maxRecDepth 100000 in
theorem w_X5_planLine_L2 (l : Launch) (hst : l.stackTraces = false) {p : Program} {e : Env} {s : State} {m : MethodId} {args : Array Value} {below : List Frame} {meth : Method} {c : Code} {g : jG} {o : jO} {τ : Hp}  (C : jC p l s m args meth c g RX5 cX5_planLine 4 none) (hE : ∀ x ∈ c.exceptionTable.toList, False)  : ∀ (n : Nat) (a0 : Nat) (a1 : Nat) (v2 : Int32) (v3 : Int32) (t0 : Hp), J_X5_planLine_L2   n a0 a1 v2 v3 t0 = some (o, τ) → jW p l e ({ frames := 5, cells := 0, slots := 0, locals := 98 } : Room) s m args below meth c g (jQ below g o τ args s 0 0) 0 0 2 [(0, .ref a0), (1, .ref a1), (2, .int v2), (3, .int v3)] [] t0 := by
  intro n
  induction n with
  | zero => intro a0 a1 v2 v3 t0 h; cases h
  | succ n ih =>
    intro a0 a1 v2 v3 t0 h
    skip
    have h : J_X5_planLine_L2b   (J_X5_planLine_L2   n) a0 a1 v2 v3 t0 = some (o, τ) := h
    unfold J_X5_planLine_L2b at h
    refine r_iload_n C 3 rfl 3 dX5_planLine_2 rfl ?_
    refine r_aload_n C (x := some a1) 4 rfl 1 dX5_planLine_3 rfl ?_
    refine r_iload_n C 5 rfl 2 dX5_planLine_4 rfl ?_
    refine r_callV C (ci := 4) mm_X5_202 im_yX4_lineSize se_yX4_lineSize rfl 8 0 0 rfl rfl rfl dX5_planLine_5 rfl rfl (As := [.int v2]) rfl rfl (Nat.le_of_ble_eq_true rfl) ⟨Nat.le_of_ble_eq_true rfl, Nat.le_of_ble_eq_true rfl⟩ ⟨(Nat.le_of_ble_eq_true rfl), (Nat.le_of_ble_eq_true rfl)⟩ (fun o t h => k_X4_lineSize l hst g _ _ _ o t h) h (fun w2 t1 h => ?_) (fun E t h => r_out C (fun x hx => (hE x hx).elim) (Nat.le_refl _) (Nat.le_refl _) h)
    replace h := jvI_some h
    obtain ⟨x3, rfl, h⟩ := h
    refine r_icmp_ge C 30 11 rfl dX5_planLine_8 (by decide) h (fun h => ?_) (fun h => ?_)
    · exact r_vret C dX5_planLine_30 (Nat.le_refl _) (Nat.le_refl _) h
    · refine r_aload_n C (x := some a0) 12 rfl 0 dX5_planLine_11 rfl ?_
      refine r_getR C 15 rfl ff_X5_28 dX5_planLine_12 h (fun r4 h => ?_)
      refine r_aload_n C (x := some a1) 16 rfl 1 dX5_planLine_15 rfl ?_
      refine r_iload_n C 17 rfl 2 dX5_planLine_16 rfl ?_
      refine r_iload_n C 18 rfl 3 dX5_planLine_17 rfl ?_
      replace h := jdr_some h
      obtain ⟨b5, hr, h⟩ := h
      rw [hr]
      refine r_callV C (ci := 4) mm_X5_207 im_yX4_laidCellAt se_yX4_laidCellAt rfl 21 0 0 rfl rfl rfl dX5_planLine_18 rfl rfl (As := [.int v2, .int v3]) rfl rfl (Nat.le_of_ble_eq_true rfl) ⟨Nat.le_of_ble_eq_true rfl, Nat.le_of_ble_eq_true rfl⟩ ⟨(Nat.le_of_ble_eq_true rfl), (Nat.le_of_ble_eq_true rfl)⟩ (fun o t h => k_X4_laidCellAt l hst g _ _ _ _ o t h) h (fun w7 t6 h => ?_) (fun E t h => r_out C (fun x hx => (hE x hx).elim) (Nat.le_refl _) (Nat.le_refl _) h)
      replace h := jvI_some h
      obtain ⟨x8, rfl, h⟩ := h
      refine r_callV C (ci := 0) mm_X5_293 im_yX0_planCell se_yX0_planCell rfl 24 0 0 rfl rfl rfl dX5_planLine_21 rfl rfl (As := [.int x8]) rfl rfl (Nat.le_of_ble_eq_true rfl) ⟨Nat.le_of_ble_eq_true rfl, Nat.le_of_ble_eq_true rfl⟩ ⟨(Nat.le_of_ble_eq_true rfl), (Nat.le_of_ble_eq_true rfl)⟩ (fun o t h => k_X0_planCell l hst g _ _ _ o t h) h (fun w10 t9 h => ?_) (fun E t h => r_out C (fun x hx => (hE x hx).elim) (Nat.le_refl _) (Nat.le_refl _) h)
      replace h := jvV_some h
      obtain ⟨rfl, h⟩ := h
      refine r_iinc C (v := v3 + 1) 27 rfl 3 [(3, .int (v3 + 1)), (0, .ref a0), (1, .ref a1), (2, .int v2)] dX5_planLine_24 rfl rfl (by decide) rfl ?_
      refine r_goto C 2 dX5_planLine_27 (by decide) ?_
      refine r_lv [1, 2, 3, 0] rfl ?_
      exact ih a0 a1 v2 (v3 + 1) t9 h
set_option maxHeartbeats 4000000 in
set_option maxRecDepth 100000 in
theorem k_X5_planLine (l : Launch) (hst : l.stackTraces = false) (g : jG)   (a0 : Nat) (a1 : Nat) (v2 : Int32) (σ : Hp) (o : jO) (τ : Hp) (h : J_X5_planLine a0 a1 v2 σ = some (o, τ)) : jMet l g yX5_planLine (Cond.code yX5_planLine cX5_planLine 4 none :: gT) ({ frames := 5, cells := 0, slots := 0, locals := 98 } : Room) 0 0 [.ref a0, .ref a1, .int v2] σ o τ := by
  refine j_start l hst (own := RX5) (by decide) rfl (Nat.le_of_ble_eq_true rfl) ?_
  intro p e s m args below meth c C hE hin
  unfold J_X5_planLine at h
  show jW p l e ({ frames := 5, cells := 0, slots := 0, locals := 98 } : Room) s m args below meth c g (jQ below g o τ args s 0 0) 0 0 0 [(0, .ref a0), (1, .ref a1), (2, .int v2)] [] σ
  refine r_iconst C (v := 0) 1 rfl dX5_planLine_0 (by decide) ?_
  refine r_istore_n C 2 rfl [(3, .int 0), (0, .ref a0), (1, .ref a1), (2, .int v2)] dX5_planLine_1 (by decide) rfl ?_
  refine r_lv [1, 2, 3, 0] rfl ?_
  refine w_X5_planLine_L2 l hst  C hE   jN a0 a1 v2 0 σ h

def J_X5_emboss_L24b   (rc : Nat → Nat → Int32 → Int32 → Int32 → Int32 → Hp → jR) (a0 : Nat) (a2 : Nat) (v3 : Int32) (v4 : Int32) (v5 : Int32) (v6 : Int32) (t0 : Hp) : jR := jcv t0 a2 4 (J_X4_lineCount a2 t0) (fun w9 t8 => jvI w9 (fun x10 => (if x10 ≤ v6 then jgR t8 a0 5 2 (fun r11 => jdr r11 (fun b12 => jcv t8 b12 0 (J_X0_bearsPlan b12 t8) (fun w14 t13 => jvI w14 (fun x15 => (if x15 = 0 then some (.inr "java/lang/IllegalStateException", thS t13) else jgR t13 a0 5 2 (fun r16 => jdr r16 (fun b17 => jcv t13 b17 0 (J_X0_strikePlan b17 t13) (fun w19 t18 => jvV w19 (jcv t18 a2 4 (J_X4_keepAsEmbossed a2 t18) (fun w21 t20 => jvV w21 (some (.inl (some (.int ((100 * v3) + v4))), t20))) (fun E t => some (.inr E, t)))) (fun E t => some (.inr E, t))))))) (fun E t => some (.inr E, t)))) else jcv t8 a2 4 (J_X4_isOther a2 v6 t8) (fun w23 t22 => jvI w23 (fun x24 => jj (fun (x25 : Int32) (x26 : Int32) (x27 : Int32) (t28 : Hp) => rc a0 a2 x25 x26 x27 (v6 + 1) t28) (fun j77 => (if x24 = 0 then j77 v3 v4 v5 t22 else jcv t22 a0 5 (J_X5_planLine a0 a2 v6 t22) (fun w30 t29 => jvV w30 (jj (fun (x31 : Int32) (t32 : Hp) => j77 (v3 + x31) (v4 + 1) (v6 / 4) t32) (fun j71 => (if (v6 / 4) = v5 then j71 0 t29 else j71 1 t29)))) (fun E t => some (.inr E, t)))))) (fun E t => some (.inr E, t))))) (fun E t => some (.inr E, t))
def J_X5_emboss_L24   : Nat → Nat → Nat → Int32 → Int32 → Int32 → Int32 → Hp → jR
  | 0 => fun _ _ _ _ _ _ _ => none
  | n + 1 => J_X5_emboss_L24b   (J_X5_emboss_L24   n)
def J_X5_emboss  (a0 : Nat) (v1 : Int32) (σ : Hp) : jR := jcv σ a0 5 (J_X5_textNumbered a0 v1 σ) (fun w2 t1 => jvA w2 (fun b3 => jgR t1 a0 5 2 (fun r4 => jdr r4 (fun b5 => jcv t1 b5 0 (J_X0_forgetPlan b5 t1) (fun w7 t6 => jvV w7 (J_X5_emboss_L24   jN a0 b3 0 0 ((-1)) 0 t6)) (fun E t => some (.inr E, t)))))) (fun E t => some (.inr E, t))
set_option maxHeartbeats 4000000 in
set_option maxRecDepth 100000 in
theorem w_X5_emboss_L24 (l : Launch) (hst : l.stackTraces = false) {p : Program} {e : Env} {s : State} {m : MethodId} {args : Array Value} {below : List Frame} {meth : Method} {c : Code} {g : jG} {o : jO} {τ : Hp}  (C : jC p l s m args meth c g RX5 cX5_emboss 8 (some FieldType.int)) (hE : ∀ x ∈ c.exceptionTable.toList, False)  : ∀ (n : Nat) (a0 : Nat) (a2 : Nat) (v3 : Int32) (v4 : Int32) (v5 : Int32) (v6 : Int32) (t0 : Hp), J_X5_emboss_L24   n a0 a2 v3 v4 v5 v6 t0 = some (o, τ) → jW p l e ({ frames := 7, cells := 2, slots := 12, locals := 123 } : Room) s m args below meth c g (jQ below g o τ args s 2 12) 1 6 24 [(0, .ref a0), (2, .ref a2), (3, .int v3), (4, .int v4), (5, .int v5), (6, .int v6)] [] t0 := by
  intro n
  induction n with
  | zero => intro a0 a2 v3 v4 v5 v6 t0 h; cases h
  | succ n ih =>
    intro a0 a2 v3 v4 v5 v6 t0 h
    skip
    have h : J_X5_emboss_L24b   (J_X5_emboss_L24   n) a0 a2 v3 v4 v5 v6 t0 = some (o, τ) := h
    unfold J_X5_emboss_L24b at h
    refine r_iload C 26 rfl 5 dX5_emboss_24 rfl ?_
    refine r_aload_n C (x := some a2) 27 rfl 1 dX5_emboss_26 rfl ?_
    refine r_callV C (ci := 4) mm_X5_197 im_yX4_lineCount se_yX4_lineCount rfl 30 1 6 rfl rfl rfl dX5_emboss_27 rfl rfl (As := []) rfl rfl (Nat.le_of_ble_eq_true rfl) ⟨Nat.le_of_ble_eq_true rfl, Nat.le_of_ble_eq_true rfl⟩ ⟨(Nat.le_of_ble_eq_true rfl), (Nat.le_of_ble_eq_true rfl)⟩ (fun o t h => k_X4_lineCount l hst g _ _ o t h) h (fun w9 t8 h => ?_) (fun E t h => r_out C (fun x hx => (hE x hx).elim) (Nat.le_of_ble_eq_true rfl) (Nat.le_of_ble_eq_true rfl) h)
    replace h := jvI_some h
    obtain ⟨x10, rfl, h⟩ := h
    refine r_icmp_ge C 83 33 rfl dX5_emboss_30 (by decide) h (fun h => ?_) (fun h => ?_)
    · refine r_aload_n C (x := some a0) 84 rfl 0 dX5_emboss_83 rfl ?_
      refine r_getR C 87 rfl ff_X5_28 dX5_emboss_84 h (fun r11 h => ?_)
      replace h := jdr_some h
      obtain ⟨b12, hr, h⟩ := h
      rw [hr]
      refine r_callV C (ci := 0) mm_X5_223 im_yX0_bearsPlan se_yX0_bearsPlan rfl 90 1 6 rfl rfl rfl dX5_emboss_87 rfl rfl (As := []) rfl rfl (Nat.le_of_ble_eq_true rfl) ⟨Nat.le_of_ble_eq_true rfl, Nat.le_of_ble_eq_true rfl⟩ ⟨(Nat.le_of_ble_eq_true rfl), (Nat.le_of_ble_eq_true rfl)⟩ (fun o t h => k_X0_bearsPlan l hst g _ _ o t h) h (fun w14 t13 h => ?_) (fun E t h => r_out C (fun x hx => (hE x hx).elim) (Nat.le_of_ble_eq_true rfl) (Nat.le_of_ble_eq_true rfl) h)
      replace h := jvI_some h
      obtain ⟨x15, rfl, h⟩ := h
      refine r_if_ne C 103 93 rfl dX5_emboss_90 (by decide) h (fun h => ?_) (fun h => ?_)
      · refine r_aload_n C (x := some a0) 104 rfl 0 dX5_emboss_103 rfl ?_
        refine r_getR C 107 rfl ff_X5_28 dX5_emboss_104 h (fun r16 h => ?_)
        replace h := jdr_some h
        obtain ⟨b17, hr, h⟩ := h
        rw [hr]
        refine r_callV C (ci := 0) mm_X5_228 im_yX0_strikePlan se_yX0_strikePlan rfl 110 1 6 rfl rfl rfl dX5_emboss_107 rfl rfl (As := []) rfl rfl (Nat.le_of_ble_eq_true rfl) ⟨Nat.le_of_ble_eq_true rfl, Nat.le_of_ble_eq_true rfl⟩ ⟨(Nat.le_of_ble_eq_true rfl), (Nat.le_of_ble_eq_true rfl)⟩ (fun o t h => k_X0_strikePlan l hst g _ _ o t h) h (fun w19 t18 h => ?_) (fun E t h => r_out C (fun x hx => (hE x hx).elim) (Nat.le_of_ble_eq_true rfl) (Nat.le_of_ble_eq_true rfl) h)
        replace h := jvV_some h
        obtain ⟨rfl, h⟩ := h
        refine r_aload_n C (x := some a2) 111 rfl 1 dX5_emboss_110 rfl ?_
        refine r_callV C (ci := 4) mm_X5_231 im_yX4_keepAsEmbossed se_yX4_keepAsEmbossed rfl 114 1 6 rfl rfl rfl dX5_emboss_111 rfl rfl (As := []) rfl rfl (Nat.le_of_ble_eq_true rfl) ⟨Nat.le_of_ble_eq_true rfl, Nat.le_of_ble_eq_true rfl⟩ ⟨(Nat.le_of_ble_eq_true rfl), (Nat.le_of_ble_eq_true rfl)⟩ (fun o t h => k_X4_keepAsEmbossed l hst g _ _ o t h) h (fun w21 t20 h => ?_) (fun E t h => r_out C (fun x hx => (hE x hx).elim) (Nat.le_of_ble_eq_true rfl) (Nat.le_of_ble_eq_true rfl) h)
        replace h := jvV_some h
        obtain ⟨rfl, h⟩ := h
        refine r_bipush C (v := 100) 116 rfl dX5_emboss_114 (by decide) ?_
        refine r_iload_n C 117 rfl 2 dX5_emboss_116 rfl ?_
        refine r_imul C 118 rfl dX5_emboss_117 ?_
        refine r_iload C 120 rfl 3 dX5_emboss_118 rfl ?_
        refine r_iadd C 121 rfl dX5_emboss_120 ?_
        exact r_iret C dX5_emboss_121 (Nat.le_of_ble_eq_true rfl) (Nat.le_of_ble_eq_true rfl) h
      · exact r_throw C th_X5_65_226 dX5_emboss_93 dX5_emboss_96 dX5_emboss_97 dX5_emboss_99 dX5_emboss_102 hE (Nat.le_of_ble_eq_true rfl) (Nat.le_of_ble_eq_true rfl) (Nat.le_of_ble_eq_true rfl) (Nat.le_of_ble_eq_true rfl) (Nat.le_of_ble_eq_true rfl) (Nat.le_of_ble_eq_true rfl) h
    · refine r_aload_n C (x := some a2) 34 rfl 1 dX5_emboss_33 rfl ?_
      refine r_iload C 36 rfl 5 dX5_emboss_34 rfl ?_
      refine r_callV C (ci := 4) mm_X5_216 im_yX4_isOther se_yX4_isOther rfl 39 1 6 rfl rfl rfl dX5_emboss_36 rfl rfl (As := [.int v6]) rfl rfl (Nat.le_of_ble_eq_true rfl) ⟨Nat.le_of_ble_eq_true rfl, Nat.le_of_ble_eq_true rfl⟩ ⟨(Nat.le_of_ble_eq_true rfl), (Nat.le_of_ble_eq_true rfl)⟩ (fun o t h => k_X4_isOther l hst g _ _ _ o t h) h (fun w23 t22 h => ?_) (fun E t h => r_out C (fun x hx => (hE x hx).elim) (Nat.le_of_ble_eq_true rfl) (Nat.le_of_ble_eq_true rfl) h)
      replace h := jvI_some h
      obtain ⟨x24, rfl, h⟩ := h
      obtain ⟨j77, hj77E, h⟩ := jj_some h
      have hj77 : ∀ (x25 : Int32) (x26 : Int32) (x27 : Int32) (t28 : Hp), j77 x25 x26 x27 t28 = some (o, τ) → jW p l e ({ frames := 7, cells := 2, slots := 12, locals := 123 } : Room) s m args below meth c g (jQ below g o τ args s 2 12) 1 6 77 [(0, .ref a0), (2, .ref a2), (3, .int x25), (4, .int x26), (5, .int x27), (6, .int v6)] [] t28 := by
        subst hj77E
        intro x25 x26 x27 t28 h
        refine r_iinc C (v := v6 + 1) 80 rfl 5 [(6, .int (v6 + 1)), (0, .ref a0), (2, .ref a2), (3, .int x25), (4, .int x26), (5, .int x27)] dX5_emboss_77 rfl rfl (by decide) rfl ?_
        refine r_goto C 24 dX5_emboss_80 (by decide) ?_
        refine r_lv [1, 2, 3, 4, 5, 0] rfl ?_
        exact ih a0 a2 x25 x26 x27 (v6 + 1) t28 h
      clear hj77E
      refine r_if_eq C 77 42 rfl dX5_emboss_39 (by decide) h (fun h => ?_) (fun h => ?_)
      · exact hj77 v3 v4 v5 t22 h
      · refine r_aload_n C (x := some a0) 43 rfl 0 dX5_emboss_42 rfl ?_
        refine r_aload_n C (x := some a2) 44 rfl 1 dX5_emboss_43 rfl ?_
        refine r_iload C 46 rfl 5 dX5_emboss_44 rfl ?_
        refine r_callV C (ci := 5) mm_X5_219 im_yX5_planLine se_yX5_planLine rfl 49 1 6 rfl rfl rfl dX5_emboss_46 rfl rfl (As := [.ref a2, .int v6]) rfl rfl (Nat.le_of_ble_eq_true rfl) ⟨Nat.le_of_ble_eq_true rfl, Nat.le_of_ble_eq_true rfl⟩ ⟨(Nat.le_of_ble_eq_true rfl), (Nat.le_of_ble_eq_true rfl)⟩ (fun o t h => k_X5_planLine l hst g _ _ _ _ o t h) h (fun w30 t29 h => ?_) (fun E t h => r_out C (fun x hx => (hE x hx).elim) (Nat.le_of_ble_eq_true rfl) (Nat.le_of_ble_eq_true rfl) h)
        replace h := jvV_some h
        obtain ⟨rfl, h⟩ := h
        refine r_iinc C (v := v4 + 1) 52 rfl 3 [(4, .int (v4 + 1)), (0, .ref a0), (2, .ref a2), (3, .int v3), (5, .int v5), (6, .int v6)] dX5_emboss_49 rfl rfl (by decide) rfl ?_
        refine r_iload C 54 rfl 5 dX5_emboss_52 rfl ?_
        refine r_iconst C (v := 4) 55 rfl dX5_emboss_54 (by decide) ?_
        refine r_idiv C 56 rfl dX5_emboss_55 (by decide) ?_
        refine r_istore C 58 rfl [(7, .int (v6 / 4)), (4, .int (v4 + 1)), (0, .ref a0), (2, .ref a2), (3, .int v3), (5, .int v5), (6, .int v6)] dX5_emboss_56 (by decide) rfl ?_
        refine r_iload_n C 59 rfl 4 dX5_emboss_58 rfl ?_
        refine r_iload C 61 rfl 0 dX5_emboss_59 rfl ?_
        refine r_iload C 63 rfl 5 dX5_emboss_61 rfl ?_
        obtain ⟨j71, hj71E, h⟩ := jj_some h
        have hj71 : ∀ (x31 : Int32) (t32 : Hp), j71 x31 t32 = some (o, τ) → jW p l e ({ frames := 7, cells := 2, slots := 12, locals := 123 } : Room) s m args below meth c g (jQ below g o τ args s 2 12) 1 6 71 [(0, .ref a0), (2, .ref a2), (4, .int (v4 + 1)), (6, .int v6), (7, .int (v6 / 4))] [.int x31, .int v3] t32 := by
          subst hj71E
          intro x31 t32 h
          refine r_iadd C 72 rfl dX5_emboss_71 ?_
          refine r_istore_n C 73 rfl [(3, .int (v3 + x31)), (0, .ref a0), (2, .ref a2), (4, .int (v4 + 1)), (6, .int v6), (7, .int (v6 / 4))] dX5_emboss_72 (by decide) rfl ?_
          refine r_iload C 75 rfl 5 dX5_emboss_73 rfl ?_
          refine r_istore C 77 rfl [(5, .int (v6 / 4)), (3, .int (v3 + x31)), (0, .ref a0), (2, .ref a2), (4, .int (v4 + 1)), (6, .int v6), (7, .int (v6 / 4))] dX5_emboss_75 (by decide) rfl ?_
          refine r_lv [2, 3, 1, 4, 0, 5] rfl ?_
          exact hj77 (v3 + x31) (v4 + 1) (v6 / 4) t32 h
        clear hj71E
        refine r_icmp_ne C 70 66 rfl dX5_emboss_63 (by decide) h (fun h => ?_) (fun h => ?_)
        · refine r_iconst C (v := 1) 71 rfl dX5_emboss_70 (by decide) ?_
          refine r_lv [2, 3, 1, 6, 0] rfl ?_
          exact hj71 1 t29 h
        · refine r_iconst C (v := 0) 67 rfl dX5_emboss_66 (by decide) ?_
          refine r_goto C 71 dX5_emboss_67 (by decide) ?_
          refine r_lv [2, 3, 1, 6, 0] rfl ?_
          exact hj71 0 t29 h
set_option maxHeartbeats 4000000 in
set_option maxRecDepth 100000 in
theorem k_X5_emboss (l : Launch) (hst : l.stackTraces = false) (g : jG)   (a0 : Nat) (v1 : Int32) (σ : Hp) (o : jO) (τ : Hp) (h : J_X5_emboss a0 v1 σ = some (o, τ)) : jMet l g yX5_emboss (Cond.code yX5_emboss cX5_emboss 8 (some FieldType.int) :: gT) ({ frames := 7, cells := 2, slots := 12, locals := 123 } : Room) 2 12 [.ref a0, .int v1] σ o τ := by
  refine j_start l hst (own := RX5) (by decide) rfl (Nat.le_of_ble_eq_true rfl) ?_
  intro p e s m args below meth c C hE hin
  unfold J_X5_emboss at h
  show jW p l e ({ frames := 7, cells := 2, slots := 12, locals := 123 } : Room) s m args below meth c g (jQ below g o τ args s 2 12) 0 0 0 [(0, .ref a0), (1, .int v1)] [] σ
  refine r_aload_n C (x := some a0) 1 rfl 0 dX5_emboss_0 rfl ?_
  refine r_iload_n C 2 rfl 1 dX5_emboss_1 rfl ?_
  refine r_callV C (ci := 5) mm_X5_181 im_yX5_textNumbered se_yX5_textNumbered rfl 5 1 6 rfl rfl rfl dX5_emboss_2 rfl rfl (As := [.int v1]) rfl rfl (Nat.le_of_ble_eq_true rfl) ⟨Nat.le_of_ble_eq_true rfl, Nat.le_of_ble_eq_true rfl⟩ ⟨(Nat.le_of_ble_eq_true rfl), (Nat.le_of_ble_eq_true rfl)⟩ (fun o t h => k_X5_textNumbered l hst g _ _ _ o t h) h (fun w2 t1 h => ?_) (fun E t h => r_out C (fun x hx => (hE x hx).elim) (Nat.le_of_ble_eq_true rfl) (Nat.le_of_ble_eq_true rfl) h)
  replace h := jvA_some h
  obtain ⟨b3, rfl, h⟩ := h
  refine r_astore_n C (x := some b3) 6 rfl [(2, .ref b3), (0, .ref a0), (1, .int v1)] dX5_emboss_5 (by decide) rfl ?_
  refine r_aload_n C (x := some a0) 7 rfl 1 dX5_emboss_6 rfl ?_
  refine r_getR C 10 rfl ff_X5_28 dX5_emboss_7 h (fun r4 h => ?_)
  replace h := jdr_some h
  obtain ⟨b5, hr, h⟩ := h
  rw [hr]
  refine r_callV C (ci := 0) mm_X5_213 im_yX0_forgetPlan se_yX0_forgetPlan rfl 13 1 6 rfl rfl rfl dX5_emboss_10 rfl rfl (As := []) rfl rfl (Nat.le_of_ble_eq_true rfl) ⟨Nat.le_of_ble_eq_true rfl, Nat.le_of_ble_eq_true rfl⟩ ⟨(Nat.le_of_ble_eq_true rfl), (Nat.le_of_ble_eq_true rfl)⟩ (fun o t h => k_X0_forgetPlan l hst g _ _ o t h) h (fun w7 t6 h => ?_) (fun E t h => r_out C (fun x hx => (hE x hx).elim) (Nat.le_of_ble_eq_true rfl) (Nat.le_of_ble_eq_true rfl) h)
  replace h := jvV_some h
  obtain ⟨rfl, h⟩ := h
  refine r_iconst C (v := 0) 14 rfl dX5_emboss_13 (by decide) ?_
  refine r_istore_n C 15 rfl [(3, .int 0), (2, .ref b3), (0, .ref a0), (1, .int v1)] dX5_emboss_14 (by decide) rfl ?_
  refine r_iconst C (v := 0) 16 rfl dX5_emboss_15 (by decide) ?_
  refine r_istore C 18 rfl [(4, .int 0), (3, .int 0), (2, .ref b3), (0, .ref a0), (1, .int v1)] dX5_emboss_16 (by decide) rfl ?_
  refine r_iconst C (v := (-1)) 19 rfl dX5_emboss_18 (by decide) ?_
  refine r_istore C 21 rfl [(5, .int ((-1))), (4, .int 0), (3, .int 0), (2, .ref b3), (0, .ref a0), (1, .int v1)] dX5_emboss_19 (by decide) rfl ?_
  refine r_iconst C (v := 0) 22 rfl dX5_emboss_21 (by decide) ?_
  refine r_istore C 24 rfl [(6, .int 0), (5, .int ((-1))), (4, .int 0), (3, .int 0), (2, .ref b3), (0, .ref a0), (1, .int v1)] dX5_emboss_22 (by decide) rfl ?_
  refine r_lv [5, 4, 3, 2, 1, 0] rfl ?_
  refine w_X5_emboss_L24 l hst  C hE   jN a0 b3 0 0 ((-1)) 0 t6 h

def J_X5_changed  (a0 : Nat) (v1 : Int32) (σ : Hp) : jR := jcv σ a0 5 (J_X5_textNumbered a0 v1 σ) (fun w2 t1 => jvA w2 (fun b3 => jcv t1 b3 4 (J_X4_otherLineCount b3 t1) (fun w5 t4 => jvI w5 (fun x6 => some (.inl (some (.int x6)), t4))) (fun E t => some (.inr E, t)))) (fun E t => some (.inr E, t))
set_option maxHeartbeats 4000000 in
set_option maxRecDepth 100000 in
theorem k_X5_changed (l : Launch) (hst : l.stackTraces = false) (g : jG)   (a0 : Nat) (v1 : Int32) (σ : Hp) (o : jO) (τ : Hp) (h : J_X5_changed a0 v1 σ = some (o, τ)) : jMet l g yX5_changed (Cond.code yX5_changed cX5_changed 2 (some FieldType.int) :: gT) ({ frames := 7, cells := 1, slots := 6, locals := 145 } : Room) 1 6 [.ref a0, .int v1] σ o τ := by
  refine j_start l hst (own := RX5) (by decide) rfl (Nat.le_of_ble_eq_true rfl) ?_
  intro p e s m args below meth c C hE hin
  unfold J_X5_changed at h
  show jW p l e ({ frames := 7, cells := 1, slots := 6, locals := 145 } : Room) s m args below meth c g (jQ below g o τ args s 1 6) 0 0 0 [(0, .ref a0), (1, .int v1)] [] σ
  refine r_aload_n C (x := some a0) 1 rfl 0 dX5_changed_0 rfl ?_
  refine r_iload_n C 2 rfl 1 dX5_changed_1 rfl ?_
  refine r_callV C (ci := 5) mm_X5_181 im_yX5_textNumbered se_yX5_textNumbered rfl 5 1 6 rfl rfl rfl dX5_changed_2 rfl rfl (As := [.int v1]) rfl rfl (Nat.le_of_ble_eq_true rfl) ⟨Nat.le_of_ble_eq_true rfl, Nat.le_of_ble_eq_true rfl⟩ ⟨(Nat.le_of_ble_eq_true rfl), (Nat.le_of_ble_eq_true rfl)⟩ (fun o t h => k_X5_textNumbered l hst g _ _ _ o t h) h (fun w2 t1 h => ?_) (fun E t h => r_out C (fun x hx => (hE x hx).elim) (Nat.le_refl _) (Nat.le_refl _) h)
  replace h := jvA_some h
  obtain ⟨b3, rfl, h⟩ := h
  refine r_callV C (ci := 4) mm_X5_234 im_yX4_otherLineCount se_yX4_otherLineCount rfl 8 1 6 rfl rfl rfl dX5_changed_5 rfl rfl (As := []) rfl rfl (Nat.le_of_ble_eq_true rfl) ⟨Nat.le_of_ble_eq_true rfl, Nat.le_of_ble_eq_true rfl⟩ ⟨(Nat.le_of_ble_eq_true rfl), (Nat.le_of_ble_eq_true rfl)⟩ (fun o t h => k_X4_otherLineCount l hst g _ _ o t h) h (fun w5 t4 h => ?_) (fun E t h => r_out C (fun x hx => (hE x hx).elim) (Nat.le_refl _) (Nat.le_refl _) h)
  replace h := jvI_some h
  obtain ⟨x6, rfl, h⟩ := h
  exact r_iret C dX5_changed_8 (Nat.le_refl _) (Nat.le_refl _) h

def J_X5_setBearing  (a0 : Nat) (v1 : Int32) (σ : Hp) : jR := jj (fun (t1 : Hp) => some (.inr "java/lang/IllegalArgumentException", thS t1)) (fun j13 => (if v1 < 10 then j13 σ else (if v1 ≤ 9999 then jgR σ a0 5 2 (fun r2 => jdr r2 (fun b3 => jcv σ b3 0 (J_X0_changeBearing b3 v1 σ) (fun w5 t4 => jvI w5 (fun x6 => some (.inl (some (.int x6)), t4))) (fun E t => some (.inr E, t)))) else j13 σ)))
set_option maxHeartbeats 4000000 in
set_option maxRecDepth 100000 in
theorem k_X5_setBearing (l : Launch) (hst : l.stackTraces = false) (g : jG)   (a0 : Nat) (v1 : Int32) (σ : Hp) (o : jO) (τ : Hp) (h : J_X5_setBearing a0 v1 σ = some (o, τ)) : jMet l g yX5_setBearing (Cond.code yX5_setBearing cX5_setBearing 2 (some FieldType.int) :: gT) ({ frames := 6, cells := 1, slots := 6, locals := 100 } : Room) 1 6 [.ref a0, .int v1] σ o τ := by
  refine j_start l hst (own := RX5) (by decide) rfl (Nat.le_of_ble_eq_true rfl) ?_
  intro p e s m args below meth c C hE hin
  unfold J_X5_setBearing at h
  show jW p l e ({ frames := 6, cells := 1, slots := 6, locals := 100 } : Room) s m args below meth c g (jQ below g o τ args s 1 6) 0 0 0 [(0, .ref a0), (1, .int v1)] [] σ
  refine r_iload_n C 1 rfl 1 dX5_setBearing_0 rfl ?_
  refine r_bipush C (v := 10) 3 rfl dX5_setBearing_1 (by decide) ?_
  obtain ⟨j13, hj13E, h⟩ := jj_some h
  have hj13 : ∀ (t1 : Hp), j13 t1 = some (o, τ) → jW p l e ({ frames := 6, cells := 1, slots := 6, locals := 100 } : Room) s m args below meth c g (jQ below g o τ args s 1 6) 0 0 13 [] [] t1 := by
    subst hj13E
    intro t1 h
    exact r_throw C th_X5_54_237 dX5_setBearing_13 dX5_setBearing_16 dX5_setBearing_17 dX5_setBearing_19 dX5_setBearing_22 hE (Nat.le_of_ble_eq_true rfl) (Nat.le_of_ble_eq_true rfl) (Nat.le_of_ble_eq_true rfl) (Nat.le_of_ble_eq_true rfl) (Nat.le_of_ble_eq_true rfl) (Nat.le_of_ble_eq_true rfl) h
  clear hj13E
  refine r_icmp_lt C 13 6 rfl dX5_setBearing_3 (by decide) h (fun h => ?_) (fun h => ?_)
  · refine r_lv [] rfl ?_
    exact hj13 σ h
  · refine r_iload_n C 7 rfl 1 dX5_setBearing_6 rfl ?_
    refine r_sipush C (v := 9999) 10 rfl dX5_setBearing_7 (by decide) ?_
    refine r_icmp_le C 23 13 rfl dX5_setBearing_10 (by decide) h (fun h => ?_) (fun h => ?_)
    · refine r_aload_n C (x := some a0) 24 rfl 0 dX5_setBearing_23 rfl ?_
      refine r_getR C 27 rfl ff_X5_28 dX5_setBearing_24 h (fun r2 h => ?_)
      refine r_iload_n C 28 rfl 1 dX5_setBearing_27 rfl ?_
      replace h := jdr_some h
      obtain ⟨b3, hr, h⟩ := h
      rw [hr]
      refine r_callV C (ci := 0) mm_X5_239 im_yX0_changeBearing se_yX0_changeBearing rfl 31 0 0 rfl rfl rfl dX5_setBearing_28 rfl rfl (As := [.int v1]) rfl rfl (Nat.le_of_ble_eq_true rfl) ⟨Nat.le_of_ble_eq_true rfl, Nat.le_of_ble_eq_true rfl⟩ ⟨(Nat.le_of_ble_eq_true rfl), (Nat.le_of_ble_eq_true rfl)⟩ (fun o t h => k_X0_changeBearing l hst g _ _ _ o t h) h (fun w5 t4 h => ?_) (fun E t h => r_out C (fun x hx => (hE x hx).elim) (Nat.le_of_ble_eq_true rfl) (Nat.le_of_ble_eq_true rfl) h)
      replace h := jvI_some h
      obtain ⟨x6, rfl, h⟩ := h
      exact r_iret C dX5_setBearing_31 (Nat.le_of_ble_eq_true rfl) (Nat.le_of_ble_eq_true rfl) h
    · refine r_lv [] rfl ?_
      exact hj13 σ h

def J_X5_replace  (a0 : Nat) (v1 : Int32) (σ : Hp) : jR := jj (fun (t1 : Hp) => some (.inr "java/lang/IndexOutOfBoundsException", thS t1)) (fun j11 => (if v1 < 1 then j11 σ else (if v1 ≤ 6 then jgR σ a0 5 2 (fun r2 => jdr r2 (fun b3 => jcv σ b3 0 (J_X0_renewPin b3 v1 σ) (fun w5 t4 => jvI w5 (fun x6 => some (.inl (some (.int x6)), t4))) (fun E t => some (.inr E, t)))) else j11 σ)))
set_option maxHeartbeats 4000000 in
set_option maxRecDepth 100000 in
theorem k_X5_replace (l : Launch) (hst : l.stackTraces = false) (g : jG)   (a0 : Nat) (v1 : Int32) (σ : Hp) (o : jO) (τ : Hp) (h : J_X5_replace a0 v1 σ = some (o, τ)) : jMet l g yX5_replace (Cond.code yX5_replace cX5_replace 2 (some FieldType.int) :: gT) ({ frames := 6, cells := 1, slots := 6, locals := 100 } : Room) 1 6 [.ref a0, .int v1] σ o τ := by
  refine j_start l hst (own := RX5) (by decide) rfl (Nat.le_of_ble_eq_true rfl) ?_
  intro p e s m args below meth c C hE hin
  unfold J_X5_replace at h
  show jW p l e ({ frames := 6, cells := 1, slots := 6, locals := 100 } : Room) s m args below meth c g (jQ below g o τ args s 1 6) 0 0 0 [(0, .ref a0), (1, .int v1)] [] σ
  refine r_iload_n C 1 rfl 1 dX5_replace_0 rfl ?_
  refine r_iconst C (v := 1) 2 rfl dX5_replace_1 (by decide) ?_
  obtain ⟨j11, hj11E, h⟩ := jj_some h
  have hj11 : ∀ (t1 : Hp), j11 t1 = some (o, τ) → jW p l e ({ frames := 6, cells := 1, slots := 6, locals := 100 } : Room) s m args below meth c g (jQ below g o τ args s 1 6) 0 0 11 [] [] t1 := by
    subst hj11E
    intro t1 h
    exact r_throw C th_X5_123_242 dX5_replace_11 dX5_replace_14 dX5_replace_15 dX5_replace_17 dX5_replace_20 hE (Nat.le_of_ble_eq_true rfl) (Nat.le_of_ble_eq_true rfl) (Nat.le_of_ble_eq_true rfl) (Nat.le_of_ble_eq_true rfl) (Nat.le_of_ble_eq_true rfl) (Nat.le_of_ble_eq_true rfl) h
  clear hj11E
  refine r_icmp_lt C 11 5 rfl dX5_replace_2 (by decide) h (fun h => ?_) (fun h => ?_)
  · refine r_lv [] rfl ?_
    exact hj11 σ h
  · refine r_iload_n C 6 rfl 1 dX5_replace_5 rfl ?_
    refine r_bipush C (v := 6) 8 rfl dX5_replace_6 (by decide) ?_
    refine r_icmp_le C 21 11 rfl dX5_replace_8 (by decide) h (fun h => ?_) (fun h => ?_)
    · refine r_aload_n C (x := some a0) 22 rfl 0 dX5_replace_21 rfl ?_
      refine r_getR C 25 rfl ff_X5_28 dX5_replace_22 h (fun r2 h => ?_)
      refine r_iload_n C 26 rfl 1 dX5_replace_25 rfl ?_
      replace h := jdr_some h
      obtain ⟨b3, hr, h⟩ := h
      rw [hr]
      refine r_callV C (ci := 0) mm_X5_244 im_yX0_renewPin se_yX0_renewPin rfl 29 0 0 rfl rfl rfl dX5_replace_26 rfl rfl (As := [.int v1]) rfl rfl (Nat.le_of_ble_eq_true rfl) ⟨Nat.le_of_ble_eq_true rfl, Nat.le_of_ble_eq_true rfl⟩ ⟨(Nat.le_of_ble_eq_true rfl), (Nat.le_of_ble_eq_true rfl)⟩ (fun o t h => k_X0_renewPin l hst g _ _ _ o t h) h (fun w5 t4 h => ?_) (fun E t h => r_out C (fun x hx => (hE x hx).elim) (Nat.le_of_ble_eq_true rfl) (Nat.le_of_ble_eq_true rfl) h)
      replace h := jvI_some h
      obtain ⟨x6, rfl, h⟩ := h
      exact r_iret C dX5_replace_29 (Nat.le_of_ble_eq_true rfl) (Nat.le_of_ble_eq_true rfl) h
    · refine r_lv [] rfl ?_
      exact hj11 σ h

def J_X5_strikes  (a0 : Nat) (v1 : Int32) (σ : Hp) : jR := jj (fun (t1 : Hp) => some (.inr "java/lang/IndexOutOfBoundsException", thS t1)) (fun j11 => (if v1 < 1 then j11 σ else (if v1 ≤ 6 then jgR σ a0 5 2 (fun r2 => jdr r2 (fun b3 => jcv σ b3 0 (J_X0_wearOf b3 v1 σ) (fun w5 t4 => jvI w5 (fun x6 => some (.inl (some (.int x6)), t4))) (fun E t => some (.inr E, t)))) else j11 σ)))
set_option maxHeartbeats 4000000 in
set_option maxRecDepth 100000 in
theorem k_X5_strikes (l : Launch) (hst : l.stackTraces = false) (g : jG)   (a0 : Nat) (v1 : Int32) (σ : Hp) (o : jO) (τ : Hp) (h : J_X5_strikes a0 v1 σ = some (o, τ)) : jMet l g yX5_strikes (Cond.code yX5_strikes cX5_strikes 2 (some FieldType.int) :: gT) ({ frames := 6, cells := 1, slots := 6, locals := 100 } : Room) 1 6 [.ref a0, .int v1] σ o τ := by
  refine j_start l hst (own := RX5) (by decide) rfl (Nat.le_of_ble_eq_true rfl) ?_
  intro p e s m args below meth c C hE hin
  unfold J_X5_strikes at h
  show jW p l e ({ frames := 6, cells := 1, slots := 6, locals := 100 } : Room) s m args below meth c g (jQ below g o τ args s 1 6) 0 0 0 [(0, .ref a0), (1, .int v1)] [] σ
  refine r_iload_n C 1 rfl 1 dX5_strikes_0 rfl ?_
  refine r_iconst C (v := 1) 2 rfl dX5_strikes_1 (by decide) ?_
  obtain ⟨j11, hj11E, h⟩ := jj_some h
  have hj11 : ∀ (t1 : Hp), j11 t1 = some (o, τ) → jW p l e ({ frames := 6, cells := 1, slots := 6, locals := 100 } : Room) s m args below meth c g (jQ below g o τ args s 1 6) 0 0 11 [] [] t1 := by
    subst hj11E
    intro t1 h
    exact r_throw C th_X5_123_242 dX5_strikes_11 dX5_strikes_14 dX5_strikes_15 dX5_strikes_17 dX5_strikes_20 hE (Nat.le_of_ble_eq_true rfl) (Nat.le_of_ble_eq_true rfl) (Nat.le_of_ble_eq_true rfl) (Nat.le_of_ble_eq_true rfl) (Nat.le_of_ble_eq_true rfl) (Nat.le_of_ble_eq_true rfl) h
  clear hj11E
  refine r_icmp_lt C 11 5 rfl dX5_strikes_2 (by decide) h (fun h => ?_) (fun h => ?_)
  · refine r_lv [] rfl ?_
    exact hj11 σ h
  · refine r_iload_n C 6 rfl 1 dX5_strikes_5 rfl ?_
    refine r_bipush C (v := 6) 8 rfl dX5_strikes_6 (by decide) ?_
    refine r_icmp_le C 21 11 rfl dX5_strikes_8 (by decide) h (fun h => ?_) (fun h => ?_)
    · refine r_aload_n C (x := some a0) 22 rfl 0 dX5_strikes_21 rfl ?_
      refine r_getR C 25 rfl ff_X5_28 dX5_strikes_22 h (fun r2 h => ?_)
      refine r_iload_n C 26 rfl 1 dX5_strikes_25 rfl ?_
      replace h := jdr_some h
      obtain ⟨b3, hr, h⟩ := h
      rw [hr]
      refine r_callV C (ci := 0) mm_X5_247 im_yX0_wearOf se_yX0_wearOf rfl 29 0 0 rfl rfl rfl dX5_strikes_26 rfl rfl (As := [.int v1]) rfl rfl (Nat.le_of_ble_eq_true rfl) ⟨Nat.le_of_ble_eq_true rfl, Nat.le_of_ble_eq_true rfl⟩ ⟨(Nat.le_of_ble_eq_true rfl), (Nat.le_of_ble_eq_true rfl)⟩ (fun o t h => k_X0_wearOf l hst g _ _ _ o t h) h (fun w5 t4 h => ?_) (fun E t h => r_out C (fun x hx => (hE x hx).elim) (Nat.le_of_ble_eq_true rfl) (Nat.le_of_ble_eq_true rfl) h)
      replace h := jvI_some h
      obtain ⟨x6, rfl, h⟩ := h
      exact r_iret C dX5_strikes_29 (Nat.le_of_ble_eq_true rfl) (Nat.le_of_ble_eq_true rfl) h
    · refine r_lv [] rfl ?_
      exact hj11 σ h

def J_X5_isReader  (v0 : Int32) (σ : Hp) : jR := (if v0 < 0 then jrt .boolean 0 σ else (if 2 ≤ v0 then jrt .boolean 0 σ else jrt .boolean 1 σ))
set_option maxHeartbeats 4000000 in
set_option maxRecDepth 100000 in
theorem k_X5_isReader (l : Launch) (hst : l.stackTraces = false) (g : jG)   (v0 : Int32) (σ : Hp) (o : jO) (τ : Hp) (h : J_X5_isReader v0 σ = some (o, τ)) : jMet l g yX5_isReader (Cond.code yX5_isReader cX5_isReader 1 (some FieldType.boolean) :: gT) ({ frames := 1, cells := 0, slots := 0, locals := 12 } : Room) 0 0 [.int v0] σ o τ := by
  refine j_start l hst (own := RX5) (by decide) rfl (Nat.le_of_ble_eq_true rfl) ?_
  intro p e s m args below meth c C hE hin
  unfold J_X5_isReader at h
  show jW p l e ({ frames := 1, cells := 0, slots := 0, locals := 12 } : Room) s m args below meth c g (jQ below g o τ args s 0 0) 0 0 0 [(0, .int v0)] [] σ
  refine r_iload_n C 1 rfl 0 dX5_isReader_0 rfl ?_
  refine r_if_lt C 13 4 rfl dX5_isReader_1 (by decide) h (fun h => ?_) (fun h => ?_)
  · refine r_iconst C (v := 0) 14 rfl dX5_isReader_13 (by decide) ?_
    exact r_zret C (fun _ => rfl) dX5_isReader_14 (Nat.le_refl _) (Nat.le_refl _) h
  · refine r_iload_n C 5 rfl 0 dX5_isReader_4 rfl ?_
    refine r_iconst C (v := 2) 6 rfl dX5_isReader_5 (by decide) ?_
    refine r_icmp_ge C 13 9 rfl dX5_isReader_6 (by decide) h (fun h => ?_) (fun h => ?_)
    · refine r_iconst C (v := 0) 14 rfl dX5_isReader_13 (by decide) ?_
      exact r_zret C (fun _ => rfl) dX5_isReader_14 (Nat.le_refl _) (Nat.le_refl _) h
    · refine r_iconst C (v := 1) 10 rfl dX5_isReader_9 (by decide) ?_
      refine r_goto C 14 dX5_isReader_10 (by decide) ?_
      exact r_zret C (fun _ => rfl) dX5_isReader_14 (Nat.le_refl _) (Nat.le_refl _) h

def J_X5_mark  (a0 : Nat) (v1 : Int32) (v2 : Int32) (v3 : Int32) (v4 : Int32) (σ : Hp) : jR := jcs (J_X5_isReader v1 σ) (fun w2 t1 => jvI w2 (fun x3 => (if x3 = 0 then some (.inr "java/lang/IndexOutOfBoundsException", thS t1) else jcv t1 a0 5 (J_X5_textWithWord a0 v2 v3 t1) (fun w5 t4 => jvA w5 (fun b6 => jj (fun (x7 : Int32) (t8 : Hp) => jcv t8 b6 4 (J_X4_putMark b6 v1 v3 x7 t8) (fun w10 t9 => jvV w10 (jcv t9 b6 4 (J_X4_markBy b6 (1 - v1) v3 t9) (fun w12 t11 => jvI w12 (fun x13 => (if x13 = x7 then jrt .boolean 1 t11 else jrt .boolean 0 t11))) (fun E t => some (.inr E, t)))) (fun E t => some (.inr E, t))) (fun j37 => (if v4 = 0 then j37 119 t4 else j37 114 t4)))) (fun E t => some (.inr E, t))))) (fun E t => some (.inr E, t))
set_option maxHeartbeats 4000000 in
set_option maxRecDepth 100000 in
theorem k_X5_mark (l : Launch) (hst : l.stackTraces = false) (g : jG)   (a0 : Nat) (v1 : Int32) (v2 : Int32) (v3 : Int32) (v4 : Int32) (σ : Hp) (o : jO) (τ : Hp) (h : J_X5_mark a0 v1 v2 v3 v4 σ = some (o, τ)) : jMet l g yX5_mark (Cond.code yX5_mark cX5_mark 7 (some FieldType.boolean) :: gT) ({ frames := 8, cells := 2, slots := 12, locals := 145 } : Room) 2 12 [.ref a0, .int v1, .int v2, .int v3, .int v4] σ o τ := by
  refine j_start l hst (own := RX5) (by decide) rfl (Nat.le_of_ble_eq_true rfl) ?_
  intro p e s m args below meth c C hE hin
  unfold J_X5_mark at h
  show jW p l e ({ frames := 8, cells := 2, slots := 12, locals := 145 } : Room) s m args below meth c g (jQ below g o τ args s 2 12) 0 0 0 [(0, .ref a0), (1, .int v1), (2, .int v2), (3, .int v3), (4, .int v4)] [] σ
  refine r_iload_n C 1 rfl 1 dX5_mark_0 rfl ?_
  refine r_callS C mm_X5_250 st_yX5_isReader 4 0 0 rfl rfl rfl dX5_mark_1 rfl rfl (As := [.int v1]) rfl rfl (Nat.le_of_ble_eq_true rfl) ⟨Nat.le_of_ble_eq_true rfl, Nat.le_of_ble_eq_true rfl⟩ ⟨(Nat.le_of_ble_eq_true rfl), (Nat.le_of_ble_eq_true rfl)⟩ (fun o t h => k_X5_isReader l hst g _ _ o t h) h (fun w2 t1 h => ?_) (fun E t h => r_out C (fun x hx => (hE x hx).elim) (Nat.le_of_ble_eq_true rfl) (Nat.le_of_ble_eq_true rfl) h)
  replace h := jvI_some h
  obtain ⟨x3, rfl, h⟩ := h
  refine r_if_ne C 17 7 rfl dX5_mark_4 (by decide) h (fun h => ?_) (fun h => ?_)
  · refine r_aload_n C (x := some a0) 18 rfl 0 dX5_mark_17 rfl ?_
    refine r_iload_n C 19 rfl 2 dX5_mark_18 rfl ?_
    refine r_iload_n C 20 rfl 3 dX5_mark_19 rfl ?_
    refine r_callV C (ci := 5) mm_X5_185 im_yX5_textWithWord se_yX5_textWithWord rfl 23 2 12 rfl rfl rfl dX5_mark_20 rfl rfl (As := [.int v2, .int v3]) rfl rfl (Nat.le_of_ble_eq_true rfl) ⟨Nat.le_of_ble_eq_true rfl, Nat.le_of_ble_eq_true rfl⟩ ⟨(Nat.le_of_ble_eq_true rfl), (Nat.le_of_ble_eq_true rfl)⟩ (fun o t h => k_X5_textWithWord l hst g _ _ _ _ o t h) h (fun w5 t4 h => ?_) (fun E t h => r_out C (fun x hx => (hE x hx).elim) (Nat.le_refl _) (Nat.le_refl _) h)
    replace h := jvA_some h
    obtain ⟨b6, rfl, h⟩ := h
    refine r_astore C (x := some b6) 25 rfl [(5, .ref b6), (0, .ref a0), (1, .int v1), (2, .int v2), (3, .int v3), (4, .int v4)] dX5_mark_23 (by decide) rfl ?_
    refine r_iload C 27 rfl 5 dX5_mark_25 rfl ?_
    obtain ⟨j37, hj37E, h⟩ := jj_some h
    have hj37 : ∀ (x7 : Int32) (t8 : Hp), j37 x7 t8 = some (o, τ) → jW p l e ({ frames := 8, cells := 2, slots := 12, locals := 145 } : Room) s m args below meth c g (jQ below g o τ args s 2 12) 2 12 37 [(1, .int v1), (3, .int v3), (5, .ref b6)] [.int x7] t8 := by
      subst hj37E
      intro x7 t8 h
      refine r_istore C 39 rfl [(6, .int x7), (1, .int v1), (3, .int v3), (5, .ref b6)] dX5_mark_37 (by decide) rfl ?_
      refine r_aload C (x := some b6) 41 rfl 3 dX5_mark_39 rfl ?_
      refine r_iload_n C 42 rfl 1 dX5_mark_41 rfl ?_
      refine r_iload_n C 43 rfl 2 dX5_mark_42 rfl ?_
      refine r_iload C 45 rfl 0 dX5_mark_43 rfl ?_
      refine r_callV C (ci := 4) mm_X5_255 im_yX4_putMark se_yX4_putMark rfl 48 2 12 rfl rfl rfl dX5_mark_45 rfl rfl (As := [.int v1, .int v3, .int x7]) rfl rfl (Nat.le_of_ble_eq_true rfl) ⟨Nat.le_of_ble_eq_true rfl, Nat.le_of_ble_eq_true rfl⟩ ⟨(Nat.le_of_ble_eq_true rfl), (Nat.le_of_ble_eq_true rfl)⟩ (fun o t h => k_X4_putMark l hst g _ _ _ _ _ o t h) h (fun w10 t9 h => ?_) (fun E t h => r_out C (fun x hx => (hE x hx).elim) (Nat.le_refl _) (Nat.le_refl _) h)
      replace h := jvV_some h
      obtain ⟨rfl, h⟩ := h
      refine r_aload C (x := some b6) 50 rfl 3 dX5_mark_48 rfl ?_
      refine r_iconst C (v := 1) 51 rfl dX5_mark_50 (by decide) ?_
      refine r_iload_n C 52 rfl 1 dX5_mark_51 rfl ?_
      refine r_isub C 53 rfl dX5_mark_52 ?_
      refine r_iload_n C 54 rfl 2 dX5_mark_53 rfl ?_
      refine r_callV C (ci := 4) mm_X5_259 im_yX4_markBy se_yX4_markBy rfl 57 2 12 rfl rfl rfl dX5_mark_54 rfl rfl (As := [.int (1 - v1), .int v3]) rfl rfl (Nat.le_of_ble_eq_true rfl) ⟨Nat.le_of_ble_eq_true rfl, Nat.le_of_ble_eq_true rfl⟩ ⟨(Nat.le_of_ble_eq_true rfl), (Nat.le_of_ble_eq_true rfl)⟩ (fun o t h => k_X4_markBy l hst g _ _ _ _ o t h) h (fun w12 t11 h => ?_) (fun E t h => r_out C (fun x hx => (hE x hx).elim) (Nat.le_refl _) (Nat.le_refl _) h)
      replace h := jvI_some h
      obtain ⟨x13, rfl, h⟩ := h
      refine r_iload C 59 rfl 0 dX5_mark_57 rfl ?_
      refine r_icmp_ne C 66 62 rfl dX5_mark_59 (by decide) h (fun h => ?_) (fun h => ?_)
      · refine r_iconst C (v := 0) 67 rfl dX5_mark_66 (by decide) ?_
        exact r_zret C (fun _ => rfl) dX5_mark_67 (Nat.le_refl _) (Nat.le_refl _) h
      · refine r_iconst C (v := 1) 63 rfl dX5_mark_62 (by decide) ?_
        refine r_goto C 67 dX5_mark_63 (by decide) ?_
        exact r_zret C (fun _ => rfl) dX5_mark_67 (Nat.le_refl _) (Nat.le_refl _) h
    clear hj37E
    refine r_if_eq C 35 30 rfl dX5_mark_27 (by decide) h (fun h => ?_) (fun h => ?_)
    · refine r_bipush C (v := 119) 37 rfl dX5_mark_35 (by decide) ?_
      refine r_lv [2, 4, 0] rfl ?_
      exact hj37 119 t4 h
    · refine r_bipush C (v := 114) 32 rfl dX5_mark_30 (by decide) ?_
      refine r_goto C 37 dX5_mark_32 (by decide) ?_
      refine r_lv [2, 4, 0] rfl ?_
      exact hj37 114 t4 h
  · exact r_throw C th_X5_123_253 dX5_mark_7 dX5_mark_10 dX5_mark_11 dX5_mark_13 dX5_mark_16 hE (Nat.le_of_ble_eq_true rfl) (Nat.le_of_ble_eq_true rfl) (Nat.le_of_ble_eq_true rfl) (Nat.le_of_ble_eq_true rfl) (Nat.le_of_ble_eq_true rfl) (Nat.le_of_ble_eq_true rfl) h

def J_X5_markOf  (a0 : Nat) (v1 : Int32) (v2 : Int32) (v3 : Int32) (σ : Hp) : jR := jcs (J_X5_isReader v1 σ) (fun w2 t1 => jvI w2 (fun x3 => (if x3 = 0 then some (.inr "java/lang/IndexOutOfBoundsException", thS t1) else jcv t1 a0 5 (J_X5_textWithWord a0 v2 v3 t1) (fun w5 t4 => jvA w5 (fun b6 => jcv t4 b6 4 (J_X4_markBy b6 v1 v3 t4) (fun w8 t7 => jvI w8 (fun x9 => jrt .char x9 t7)) (fun E t => some (.inr E, t)))) (fun E t => some (.inr E, t))))) (fun E t => some (.inr E, t))
set_option maxHeartbeats 4000000 in
set_option maxRecDepth 100000 in
theorem k_X5_markOf (l : Launch) (hst : l.stackTraces = false) (g : jG)   (a0 : Nat) (v1 : Int32) (v2 : Int32) (v3 : Int32) (σ : Hp) (o : jO) (τ : Hp) (h : J_X5_markOf a0 v1 v2 v3 σ = some (o, τ)) : jMet l g yX5_markOf (Cond.code yX5_markOf cX5_markOf 4 (some FieldType.char) :: gT) ({ frames := 8, cells := 2, slots := 12, locals := 145 } : Room) 2 12 [.ref a0, .int v1, .int v2, .int v3] σ o τ := by
  refine j_start l hst (own := RX5) (by decide) rfl (Nat.le_of_ble_eq_true rfl) ?_
  intro p e s m args below meth c C hE hin
  unfold J_X5_markOf at h
  show jW p l e ({ frames := 8, cells := 2, slots := 12, locals := 145 } : Room) s m args below meth c g (jQ below g o τ args s 2 12) 0 0 0 [(0, .ref a0), (1, .int v1), (2, .int v2), (3, .int v3)] [] σ
  refine r_iload_n C 1 rfl 1 dX5_markOf_0 rfl ?_
  refine r_callS C mm_X5_250 st_yX5_isReader 4 0 0 rfl rfl rfl dX5_markOf_1 rfl rfl (As := [.int v1]) rfl rfl (Nat.le_of_ble_eq_true rfl) ⟨Nat.le_of_ble_eq_true rfl, Nat.le_of_ble_eq_true rfl⟩ ⟨(Nat.le_of_ble_eq_true rfl), (Nat.le_of_ble_eq_true rfl)⟩ (fun o t h => k_X5_isReader l hst g _ _ o t h) h (fun w2 t1 h => ?_) (fun E t h => r_out C (fun x hx => (hE x hx).elim) (Nat.le_of_ble_eq_true rfl) (Nat.le_of_ble_eq_true rfl) h)
  replace h := jvI_some h
  obtain ⟨x3, rfl, h⟩ := h
  refine r_if_ne C 17 7 rfl dX5_markOf_4 (by decide) h (fun h => ?_) (fun h => ?_)
  · refine r_aload_n C (x := some a0) 18 rfl 0 dX5_markOf_17 rfl ?_
    refine r_iload_n C 19 rfl 2 dX5_markOf_18 rfl ?_
    refine r_iload_n C 20 rfl 3 dX5_markOf_19 rfl ?_
    refine r_callV C (ci := 5) mm_X5_185 im_yX5_textWithWord se_yX5_textWithWord rfl 23 2 12 rfl rfl rfl dX5_markOf_20 rfl rfl (As := [.int v2, .int v3]) rfl rfl (Nat.le_of_ble_eq_true rfl) ⟨Nat.le_of_ble_eq_true rfl, Nat.le_of_ble_eq_true rfl⟩ ⟨(Nat.le_of_ble_eq_true rfl), (Nat.le_of_ble_eq_true rfl)⟩ (fun o t h => k_X5_textWithWord l hst g _ _ _ _ o t h) h (fun w5 t4 h => ?_) (fun E t h => r_out C (fun x hx => (hE x hx).elim) (Nat.le_refl _) (Nat.le_refl _) h)
    replace h := jvA_some h
    obtain ⟨b6, rfl, h⟩ := h
    refine r_iload_n C 24 rfl 1 dX5_markOf_23 rfl ?_
    refine r_iload_n C 25 rfl 3 dX5_markOf_24 rfl ?_
    refine r_callV C (ci := 4) mm_X5_259 im_yX4_markBy se_yX4_markBy rfl 28 2 12 rfl rfl rfl dX5_markOf_25 rfl rfl (As := [.int v1, .int v3]) rfl rfl (Nat.le_of_ble_eq_true rfl) ⟨Nat.le_of_ble_eq_true rfl, Nat.le_of_ble_eq_true rfl⟩ ⟨(Nat.le_of_ble_eq_true rfl), (Nat.le_of_ble_eq_true rfl)⟩ (fun o t h => k_X4_markBy l hst g _ _ _ _ o t h) h (fun w8 t7 h => ?_) (fun E t h => r_out C (fun x hx => (hE x hx).elim) (Nat.le_refl _) (Nat.le_refl _) h)
    replace h := jvI_some h
    obtain ⟨x9, rfl, h⟩ := h
    exact r_zret C (fun _ => rfl) dX5_markOf_28 (Nat.le_refl _) (Nat.le_refl _) h
  · exact r_throw C th_X5_123_253 dX5_markOf_7 dX5_markOf_10 dX5_markOf_11 dX5_markOf_13 dX5_markOf_16 hE (Nat.le_of_ble_eq_true rfl) (Nat.le_of_ble_eq_true rfl) (Nat.le_of_ble_eq_true rfl) (Nat.le_of_ble_eq_true rfl) (Nat.le_of_ble_eq_true rfl) (Nat.le_of_ble_eq_true rfl) h

def J_X5_isSound_L10b   (rc : Nat → Nat → Int32 → Int32 → Hp → jR) (a0 : Nat) (a1 : Nat) (v2 : Int32) (v3 : Int32) (t0 : Hp) : jR := (if v2 ≤ v3 then jgR t0 a0 5 1 (fun r4 => jdr r4 (fun b5 => jcv t0 b5 3 (J_X3_isInOrder b5 t0) (fun w7 t6 => jvI w7 (fun x8 => jrt .boolean x8 t6)) (fun E t => some (.inr E, t)))) else jaR t0 a1 v3 (fun r9 => jj (fun (t10 : Hp) => rc a0 a1 v2 (v3 + 1) t10) (fun j39 => jnu r9 (j39 t0) (fun b11 => jgI t0 a0 5 6 (fun x12 => jcv t0 b11 4 (J_X4_isWellLaid b11 x12 t0) (fun w14 t13 => jvI w14 (fun x15 => (if x15 = 0 then jrt .boolean 0 t13 else j39 t13))) (fun E t => some (.inr E, t)))))))
def J_X5_isSound_L10   : Nat → Nat → Nat → Int32 → Int32 → Hp → jR
  | 0 => fun _ _ _ _ _ => none
  | n + 1 => J_X5_isSound_L10b   (J_X5_isSound_L10   n)
def J_X5_isSound  (a0 : Nat) (σ : Hp) : jR := jgR σ a0 5 3 (fun r1 => jdr r1 (fun b2 => jal σ b2 5 (fun x3 => J_X5_isSound_L10   jN a0 b2 x3 0 σ)))
set_option maxHeartbeats 4000000 in
set_option maxRecDepth 100000 in
theorem w_X5_isSound_L10 (l : Launch) (hst : l.stackTraces = false) {p : Program} {e : Env} {s : State} {m : MethodId} {args : Array Value} {below : List Frame} {meth : Method} {c : Code} {g : jG} {o : jO} {τ : Hp}  (C : jC p l s m args meth c g RX5 cX5_isSound 5 (some FieldType.boolean)) (hE : ∀ x ∈ c.exceptionTable.toList, False)  : ∀ (n : Nat) (a0 : Nat) (a1 : Nat) (v2 : Int32) (v3 : Int32) (t0 : Hp), J_X5_isSound_L10   n a0 a1 v2 v3 t0 = some (o, τ) → jW p l e ({ frames := 5, cells := 0, slots := 0, locals := 99 } : Room) s m args below meth c g (jQ below g o τ args s 0 0) 0 0 10 [(0, .ref a0), (1, .ref a1), (2, .int v2), (3, .int v3)] [] t0 := by
  intro n
  induction n with
  | zero => intro a0 a1 v2 v3 t0 h; cases h
  | succ n ih =>
    intro a0 a1 v2 v3 t0 h
    skip
    have h : J_X5_isSound_L10b   (J_X5_isSound_L10   n) a0 a1 v2 v3 t0 = some (o, τ) := h
    unfold J_X5_isSound_L10b at h
    refine r_iload_n C 11 rfl 3 dX5_isSound_10 rfl ?_
    refine r_iload_n C 12 rfl 2 dX5_isSound_11 rfl ?_
    refine r_icmp_ge C 45 15 rfl dX5_isSound_12 (by decide) h (fun h => ?_) (fun h => ?_)
    · refine r_aload_n C (x := some a0) 46 rfl 0 dX5_isSound_45 rfl ?_
      refine r_getR C 49 rfl ff_X5_21 dX5_isSound_46 h (fun r4 h => ?_)
      replace h := jdr_some h
      obtain ⟨b5, hr, h⟩ := h
      rw [hr]
      refine r_callV C (ci := 3) mm_X5_283 im_yX3_isInOrder se_yX3_isInOrder rfl 52 0 0 rfl rfl rfl dX5_isSound_49 rfl rfl (As := []) rfl rfl (Nat.le_of_ble_eq_true rfl) ⟨Nat.le_of_ble_eq_true rfl, Nat.le_of_ble_eq_true rfl⟩ ⟨(Nat.le_of_ble_eq_true rfl), (Nat.le_of_ble_eq_true rfl)⟩ (fun o t h => k_X3_isInOrder l hst g _ _ o t h) h (fun w7 t6 h => ?_) (fun E t h => r_out C (fun x hx => (hE x hx).elim) (Nat.le_refl _) (Nat.le_refl _) h)
      replace h := jvI_some h
      obtain ⟨x8, rfl, h⟩ := h
      exact r_zret C (fun _ => rfl) dX5_isSound_52 (Nat.le_refl _) (Nat.le_refl _) h
    · refine r_aload_n C (x := some a1) 16 rfl 1 dX5_isSound_15 rfl ?_
      refine r_iload_n C 17 rfl 3 dX5_isSound_16 rfl ?_
      refine r_aald C 18 rfl dX5_isSound_17 h (fun r9 h => ?_)
      refine r_astore C (x := r9) 20 rfl [(4, va_rf r9), (0, .ref a0), (1, .ref a1), (2, .int v2), (3, .int v3)] dX5_isSound_18 (by decide) rfl ?_
      refine r_aload C (x := r9) 22 rfl 0 dX5_isSound_20 rfl ?_
      obtain ⟨j39, hj39E, h⟩ := jj_some h
      have hj39 : ∀ (t10 : Hp), j39 t10 = some (o, τ) → jW p l e ({ frames := 5, cells := 0, slots := 0, locals := 99 } : Room) s m args below meth c g (jQ below g o τ args s 0 0) 0 0 39 [(0, .ref a0), (1, .ref a1), (2, .int v2), (3, .int v3)] [] t10 := by
        subst hj39E
        intro t10 h
        refine r_iinc C (v := v3 + 1) 42 rfl 3 [(3, .int (v3 + 1)), (0, .ref a0), (1, .ref a1), (2, .int v2)] dX5_isSound_39 rfl rfl (by decide) rfl ?_
        refine r_goto C 10 dX5_isSound_42 (by decide) ?_
        refine r_lv [1, 2, 3, 0] rfl ?_
        exact ih a0 a1 v2 (v3 + 1) t10 h
      clear hj39E
      refine r_ifnull C 39 25 rfl dX5_isSound_22 (by decide) h (fun hr h => ?_) (fun b11 hr h => ?_)
      · try rw [hr]
        refine r_lv [1, 2, 3, 4] rfl ?_
        exact hj39 t0 h
      · try rw [hr]
        refine r_aload C (x := some b11) 27 rfl 0 dX5_isSound_25 rfl ?_
        refine r_aload_n C (x := some a0) 28 rfl 1 dX5_isSound_27 rfl ?_
        refine r_getI C 31 rfl ff_X5_51 dX5_isSound_28 h (fun x12 h => ?_)
        refine r_callV C (ci := 4) mm_X5_280 im_yX4_isWellLaid se_yX4_isWellLaid rfl 34 0 0 rfl rfl rfl dX5_isSound_31 rfl rfl (As := [.int x12]) rfl rfl (Nat.le_of_ble_eq_true rfl) ⟨Nat.le_of_ble_eq_true rfl, Nat.le_of_ble_eq_true rfl⟩ ⟨(Nat.le_of_ble_eq_true rfl), (Nat.le_of_ble_eq_true rfl)⟩ (fun o t h => k_X4_isWellLaid l hst g _ _ _ o t h) h (fun w14 t13 h => ?_) (fun E t h => r_out C (fun x hx => (hE x hx).elim) (Nat.le_refl _) (Nat.le_refl _) h)
        replace h := jvI_some h
        obtain ⟨x15, rfl, h⟩ := h
        refine r_if_ne C 39 37 rfl dX5_isSound_34 (by decide) h (fun h => ?_) (fun h => ?_)
        · refine r_lv [1, 2, 3, 4] rfl ?_
          exact hj39 t13 h
        · refine r_iconst C (v := 0) 38 rfl dX5_isSound_37 (by decide) ?_
          exact r_zret C (fun _ => rfl) dX5_isSound_38 (Nat.le_refl _) (Nat.le_refl _) h
set_option maxHeartbeats 4000000 in
set_option maxRecDepth 100000 in
theorem k_X5_isSound (l : Launch) (hst : l.stackTraces = false) (g : jG)   (a0 : Nat) (σ : Hp) (o : jO) (τ : Hp) (h : J_X5_isSound a0 σ = some (o, τ)) : jMet l g yX5_isSound (Cond.code yX5_isSound cX5_isSound 5 (some FieldType.boolean) :: gT) ({ frames := 5, cells := 0, slots := 0, locals := 99 } : Room) 0 0 [.ref a0] σ o τ := by
  refine j_start l hst (own := RX5) (by decide) rfl (Nat.le_of_ble_eq_true rfl) ?_
  intro p e s m args below meth c C hE hin
  unfold J_X5_isSound at h
  show jW p l e ({ frames := 5, cells := 0, slots := 0, locals := 99 } : Room) s m args below meth c g (jQ below g o τ args s 0 0) 0 0 0 [(0, .ref a0)] [] σ
  refine r_aload_n C (x := some a0) 1 rfl 0 dX5_isSound_0 rfl ?_
  refine r_getR C 4 rfl ff_X5_34 dX5_isSound_1 h (fun r1 h => ?_)
  refine r_astore_n C (x := r1) 5 rfl [(1, va_rf r1), (0, .ref a0)] dX5_isSound_4 (by decide) rfl ?_
  refine r_aload_n C (x := r1) 6 rfl 0 dX5_isSound_5 rfl ?_
  replace h := jdr_some h
  obtain ⟨b2, hr, h⟩ := h
  rw [hr]
  refine r_alen C (t := 5) 7 rfl (by decide) dX5_isSound_6 h (fun x3 h => ?_)
  refine r_istore_n C 8 rfl [(2, .int x3), (1, .ref b2), (0, .ref a0)] dX5_isSound_7 (by decide) rfl ?_
  refine r_iconst C (v := 0) 9 rfl dX5_isSound_8 (by decide) ?_
  refine r_istore_n C 10 rfl [(3, .int 0), (2, .int x3), (1, .ref b2), (0, .ref a0)] dX5_isSound_9 (by decide) rfl ?_
  refine r_lv [3, 2, 1, 0] rfl ?_
  refine w_X5_isSound_L10 l hst  C hE   jN a0 b2 x3 0 σ h
