noncomputable def J_J5_init_d00df  (a0 : Nat) (v1 : Int32) (σ : Hp) : jR := (if ((1 : Int32)) = 0 then none else jnA σ 6 1000 v1 (fun b1 t2 => jpR t2 a0 6 0 (some b1) (fun t3 => jpI t3 a0 6 1 0 (fun t4 => some (.inl none, t4)))))
set_option maxHeartbeats 4000000 in
set_option maxRecDepth 100000 in
theorem k_J5_init_d00df (l : Launch) (hst : l.stackTraces = false) (g : jG)   (a0 : Nat) (v1 : Int32) (σ : Hp) (o : jO) (τ : Hp) (h : J_J5_init_d00df a0 v1 σ = some (o, τ)) : jMet l g yJ5_init_d00df (Cond.code yJ5_init_d00df cJ5_init_d00df 2 none :: gT) ({ frames := 1, cells := 1, slots := 1000, locals := 26 } : Room) 1 1000 [.ref a0, .int v1] σ o τ := by
  refine j_start l hst (own := RJ5) (by decide) rfl (Nat.le_of_ble_eq_true rfl) ?_
  intro p e s m args below meth c C hE hin
  unfold J_J5_init_d00df at h
  show jW p l e ({ frames := 1, cells := 1, slots := 1000, locals := 26 } : Room) s m args below meth c g (jQ below g o τ args s 1 1000) 0 0 0 [(0, .ref a0), (1, .int v1)] [] σ
  refine r_aload_n C (x := some a0) 1 rfl 0 dJ5_init_d00df_0 rfl ?_
  refine r_objInit C 4 rfl ml_J5_3 im_oi cd_oi dJ5_init_d00df_1 (Nat.le_of_ble_eq_true rfl) (Nat.le_of_ble_eq_true rfl) ?_
  refine r_gets1 C 7 rfl fl_J5_18 dJ5_init_d00df_4 ?_
  refine r_if_eq C 25 10 rfl dJ5_init_d00df_7 (by decide) h (fun h => ?_) (fun h => ?_)
  · cases h
  · refine r_aload_n C (x := some a0) 11 rfl 0 dJ5_init_d00df_10 rfl ?_
    refine r_iload_n C 12 rfl 1 dJ5_init_d00df_11 rfl ?_
    refine r_newB C 14 rfl ac_byte dJ5_init_d00df_12 (by decide) (Nat.le_of_ble_eq_true rfl) (Nat.le_of_ble_eq_true rfl) h (fun b1 t2 h => ?_)
    refine r_putR C (v := (some b1)) 17 rfl fp_J5_15 dJ5_init_d00df_14 h (fun t3 h => ?_)
    refine r_aload_n C (x := some a0) 18 rfl 0 dJ5_init_d00df_17 rfl ?_
    refine r_iconst C (v := (0 : Int32)) 19 rfl dJ5_init_d00df_18 (by decide) ?_
    refine r_putI0 C 22 rfl fp_J5_22 dJ5_init_d00df_19 h (fun t4 h => ?_)
    refine r_goto C 38 dJ5_init_d00df_22 (by decide) ?_
    exact r_vret C dJ5_init_d00df_38 (Nat.le_refl _) (Nat.le_refl _) h

noncomputable def J_J5_length_8abf5  (a0 : Nat) (σ : Hp) : jR := jgI σ a0 6 3 (fun x1 => some (.inl (some (.int x1)), σ))
set_option maxHeartbeats 4000000 in
set_option maxRecDepth 100000 in
theorem k_J5_length_8abf5 (l : Launch) (hst : l.stackTraces = false) (g : jG)   (a0 : Nat) (σ : Hp) (o : jO) (τ : Hp) (h : J_J5_length_8abf5 a0 σ = some (o, τ)) : jMet l g yJ5_length_8abf5 (Cond.code yJ5_length_8abf5 cJ5_length_8abf5 1 (some FieldType.int) :: gT) ({ frames := 1, cells := 0, slots := 0, locals := 12 } : Room) 0 0 [.ref a0] σ o τ := by
  refine j_start l hst (own := RJ5) (by decide) rfl (Nat.le_of_ble_eq_true rfl) ?_
  intro p e s m args below meth c C hE hin
  unfold J_J5_length_8abf5 at h
  show jW p l e ({ frames := 1, cells := 0, slots := 0, locals := 12 } : Room) s m args below meth c g (jQ below g o τ args s 0 0) 0 0 0 [(0, .ref a0)] [] σ
  refine r_aload_n C (x := some a0) 1 rfl 0 dJ5_length_8abf5_0 rfl ?_
  refine r_getI C 4 rfl ff_J5_79 dJ5_length_8abf5_1 h (fun x1 h => ?_)
  exact r_iret C dJ5_length_8abf5_4 (Nat.le_refl _) (Nat.le_refl _) h

noncomputable def J_J8_newLength_cabcc  (v0 : Int32) (v1 : Int32) (v2 : Int32) (σ : Hp) : jR := (if (v0 + (if v1 < v2 then v2 else v1)) ≤ ((0 : Int32)) then none else (if ((2147483639 : Int32)) < (v0 + (if v1 < v2 then v2 else v1)) then none else some (.inl (some (.int (v0 + (if v1 < v2 then v2 else v1)))), σ)))
set_option maxHeartbeats 4000000 in
set_option maxRecDepth 100000 in
theorem k_J8_newLength_cabcc (l : Launch) (hst : l.stackTraces = false) (g : jG)   (v0 : Int32) (v1 : Int32) (v2 : Int32) (σ : Hp) (o : jO) (τ : Hp) (h : J_J8_newLength_cabcc v0 v1 v2 σ = some (o, τ)) : jMet l g yJ8_newLength_cabcc (Cond.code yJ8_newLength_cabcc cJ8_newLength_cabcc 4 (some FieldType.int) :: gT) ({ frames := 1, cells := 0, slots := 0, locals := 30 } : Room) 0 0 [.int v0, .int v1, .int v2] σ o τ := by
  refine j_start l hst (own := RJ8) (by decide) rfl (Nat.le_of_ble_eq_true rfl) ?_
  intro p e s m args below meth c C hE hin
  unfold J_J8_newLength_cabcc at h
  show jW p l e ({ frames := 1, cells := 0, slots := 0, locals := 30 } : Room) s m args below meth c g (jQ below g o τ args s 0 0) 0 0 0 [(0, .int v0), (1, .int v1), (2, .int v2)] [] σ
  refine r_iload_n C 1 rfl 0 dJ8_newLength_cabcc_0 rfl ?_
  refine r_iload_n C 2 rfl 1 dJ8_newLength_cabcc_1 rfl ?_
  refine r_iload_n C 3 rfl 2 dJ8_newLength_cabcc_2 rfl ?_
  refine r_mmax C 6 rfl ml_J8_194 st_mmax ini_m cd_mmax dJ8_newLength_cabcc_3 (Nat.le_of_ble_eq_true rfl) (Nat.le_of_ble_eq_true rfl) (Nat.le_refl _) (Nat.le_refl _) ?_
  refine r_iadd C 7 rfl dJ8_newLength_cabcc_6 ?_
  refine r_istore_n C 8 rfl [(3, .int (v0 + (if v1 < v2 then v2 else v1))), (0, .int v0), (1, .int v1), (2, .int v2)] dJ8_newLength_cabcc_7 (by decide) rfl ?_
  refine r_iconst C (v := (0 : Int32)) 9 rfl dJ8_newLength_cabcc_8 (by decide) ?_
  refine r_iload_n C 10 rfl 0 dJ8_newLength_cabcc_9 rfl ?_
  refine r_icmp_ge C 21 13 rfl dJ8_newLength_cabcc_10 (by decide) h (fun h => ?_) (fun h => ?_)
  · cases h
  · refine r_iload_n C 14 rfl 0 dJ8_newLength_cabcc_13 rfl ?_
    refine r_ldcI C (v := 2147483639) 16 rfl dJ8_newLength_cabcc_14 kc_J8_200 ?_
    refine r_icmp_gt C 21 19 rfl dJ8_newLength_cabcc_16 (by decide) h (fun h => ?_) (fun h => ?_)
    · cases h
    · refine r_iload_n C 20 rfl 0 dJ8_newLength_cabcc_19 rfl ?_
      exact r_iret C dJ8_newLength_cabcc_20 (Nat.le_refl _) (Nat.le_refl _) h

noncomputable def J_J5_newCapacity_0f7a4  (a0 : Nat) (v1 : Int32) (σ : Hp) : jR := jgR σ a0 6 0 (fun r1 => jdr r1 (fun b2 => jalB σ b2 (fun x3 => jgI σ a0 6 1 (fun x4 => jgI σ a0 6 1 (fun x5 => jcs (J_J8_newLength_cabcc x3 ((v1 <<< (x4 &&& 31)) - x3) (x3 + (((2 : Int32)) <<< (x5 &&& 31))) σ) (fun w7 t6 => jvI w7 (fun x8 => (if x8 = ((2147483647 : Int32)) then none else jgI t6 a0 6 1 (fun x9 => some (.inl (some (.int (x8 >>> (x9 &&& 31)))), t6))))) (fun E t => some (.inr E, t)))))))
set_option maxHeartbeats 4000000 in
set_option maxRecDepth 100000 in
theorem k_J5_newCapacity_0f7a4 (l : Launch) (hst : l.stackTraces = false) (g : jG)   (a0 : Nat) (v1 : Int32) (σ : Hp) (o : jO) (τ : Hp) (h : J_J5_newCapacity_0f7a4 a0 v1 σ = some (o, τ)) : jMet l g yJ5_newCapacity_0f7a4 (Cond.code yJ5_newCapacity_0f7a4 cJ5_newCapacity_0f7a4 6 (some FieldType.int) :: gT) ({ frames := 2, cells := 0, slots := 0, locals := 53 } : Room) 0 0 [.ref a0, .int v1] σ o τ := by
  refine j_start l hst (own := RJ5) (by decide) rfl (Nat.le_of_ble_eq_true rfl) ?_
  intro p e s m args below meth c C hE hin
  unfold J_J5_newCapacity_0f7a4 at h
  show jW p l e ({ frames := 2, cells := 0, slots := 0, locals := 53 } : Room) s m args below meth c g (jQ below g o τ args s 0 0) 0 0 0 [(0, .ref a0), (1, .int v1)] [] σ
  refine r_aload_n C (x := some a0) 1 rfl 0 dJ5_newCapacity_0f7a4_0 rfl ?_
  refine r_getR C 4 rfl ff_J5_15 dJ5_newCapacity_0f7a4_1 h (fun r1 h => ?_)
  replace h := jdr_some h
  obtain ⟨b2, hr, h⟩ := h
  rw [hr]
  refine r_alenB C 5 rfl dJ5_newCapacity_0f7a4_4 h (fun x3 h => ?_)
  refine r_istore_n C 6 rfl [(2, .int x3), (0, .ref a0), (1, .int v1)] dJ5_newCapacity_0f7a4_5 (by decide) rfl ?_
  refine r_iload_n C 7 rfl 2 dJ5_newCapacity_0f7a4_6 rfl ?_
  refine r_aload_n C (x := some a0) 8 rfl 1 dJ5_newCapacity_0f7a4_7 rfl ?_
  refine r_getI C 11 rfl ff_J5_22 dJ5_newCapacity_0f7a4_8 h (fun x4 h => ?_)
  refine r_ishl C 12 rfl dJ5_newCapacity_0f7a4_11 ?_
  refine r_istore_n C 13 rfl [(3, .int (v1 <<< (x4 &&& 31))), (2, .int x3), (0, .ref a0), (1, .int v1)] dJ5_newCapacity_0f7a4_12 (by decide) rfl ?_
  refine r_iload_n C 14 rfl 0 dJ5_newCapacity_0f7a4_13 rfl ?_
  refine r_iload_n C 15 rfl 1 dJ5_newCapacity_0f7a4_14 rfl ?_
  refine r_isub C 16 rfl dJ5_newCapacity_0f7a4_15 ?_
  refine r_istore C 18 rfl [(4, .int ((v1 <<< (x4 &&& 31)) - x3)), (3, .int (v1 <<< (x4 &&& 31))), (2, .int x3), (0, .ref a0), (1, .int v1)] dJ5_newCapacity_0f7a4_16 (by decide) rfl ?_
  refine r_iload_n C 19 rfl 2 dJ5_newCapacity_0f7a4_18 rfl ?_
  refine r_iload C 21 rfl 0 dJ5_newCapacity_0f7a4_19 rfl ?_
  refine r_iload_n C 22 rfl 2 dJ5_newCapacity_0f7a4_21 rfl ?_
  refine r_iconst C (v := (2 : Int32)) 23 rfl dJ5_newCapacity_0f7a4_22 (by decide) ?_
  refine r_aload_n C (x := some a0) 24 rfl 3 dJ5_newCapacity_0f7a4_23 rfl ?_
  refine r_getI C 27 rfl ff_J5_22 dJ5_newCapacity_0f7a4_24 h (fun x5 h => ?_)
  refine r_ishl C 28 rfl dJ5_newCapacity_0f7a4_27 ?_
  refine r_iadd C 29 rfl dJ5_newCapacity_0f7a4_28 ?_
  refine r_callS C mm_J5_114 st_yJ8_newLength_cabcc 32 0 0 rfl rfl rfl dJ5_newCapacity_0f7a4_29 rfl rfl (As := [.int x3, .int ((v1 <<< (x4 &&& 31)) - x3), .int (x3 + (((2 : Int32)) <<< (x5 &&& 31)))]) rfl rfl (Nat.le_of_ble_eq_true rfl) ⟨Nat.le_of_ble_eq_true rfl, Nat.le_of_ble_eq_true rfl⟩ ⟨(Nat.le_of_ble_eq_true rfl), (Nat.le_of_ble_eq_true rfl)⟩ (fun o t h => k_J8_newLength_cabcc l hst g _ _ _ _ o t h) h (fun w7 t6 h => ?_) (fun E t h => r_out C (fun x hx => (hE x hx).elim) (Nat.le_refl _) (Nat.le_refl _) h)
  replace h := jvI_some h
  obtain ⟨x8, rfl, h⟩ := h
  refine r_istore C 34 rfl [(5, .int x8), (4, .int ((v1 <<< (x4 &&& 31)) - x3)), (3, .int (v1 <<< (x4 &&& 31))), (2, .int x3), (0, .ref a0), (1, .int v1)] dJ5_newCapacity_0f7a4_32 (by decide) rfl ?_
  refine r_iload C 36 rfl 0 dJ5_newCapacity_0f7a4_34 rfl ?_
  refine r_ldcI C (v := 2147483647) 38 rfl dJ5_newCapacity_0f7a4_36 kc_J5_39 ?_
  refine r_icmp_ne C 51 41 rfl dJ5_newCapacity_0f7a4_38 (by decide) h (fun h => ?_) (fun h => ?_)
  · refine r_iload C 53 rfl 0 dJ5_newCapacity_0f7a4_51 rfl ?_
    refine r_aload_n C (x := some a0) 54 rfl 4 dJ5_newCapacity_0f7a4_53 rfl ?_
    refine r_getI C 57 rfl ff_J5_22 dJ5_newCapacity_0f7a4_54 h (fun x9 h => ?_)
    refine r_ishr C 58 rfl dJ5_newCapacity_0f7a4_57 ?_
    exact r_iret C dJ5_newCapacity_0f7a4_58 (Nat.le_refl _) (Nat.le_refl _) h
  · cases h

noncomputable def J_J7_copyOf_9075b  (a0 : Nat) (v1 : Int32) (σ : Hp) : jR := jalB σ a0 (fun x1 => (if v1 = x1 then jcl σ a0 1000 (fun b6 t7 => jckB t7 b6 (some (.inl (some (.ref b6)), t7))) else jnA σ 6 1000 v1 (fun b2 t3 => jalB t3 a0 (fun x4 => jcpB t3 a0 b2 ((0 : Int32)) ((0 : Int32)) (if v1 < x4 then v1 else x4) (fun t5 => some (.inl (some (.ref b2)), t5))))))
set_option maxHeartbeats 4000000 in
set_option maxRecDepth 100000 in
theorem k_J7_copyOf_9075b (l : Launch) (hst : l.stackTraces = false) (g : jG)   (a0 : Nat) (v1 : Int32) (σ : Hp) (o : jO) (τ : Hp) (h : J_J7_copyOf_9075b a0 v1 σ = some (o, τ)) : jMet l g yJ7_copyOf_9075b (Cond.code yJ7_copyOf_9075b cJ7_copyOf_9075b 3 (some (FieldType.array FieldType.byte)) :: gT) ({ frames := 1, cells := 1, slots := 1000, locals := 40 } : Room) 1 1000 [.ref a0, .int v1] σ o τ := by
  refine j_start l hst (own := RJ7) (by decide) rfl (Nat.le_of_ble_eq_true rfl) ?_
  intro p e s m args below meth c C hE hin
  unfold J_J7_copyOf_9075b at h
  show jW p l e ({ frames := 1, cells := 1, slots := 1000, locals := 40 } : Room) s m args below meth c g (jQ below g o τ args s 1 1000) 0 0 0 [(0, .ref a0), (1, .int v1)] [] σ
  refine r_iload_n C 1 rfl 1 dJ7_copyOf_9075b_0 rfl ?_
  refine r_aload_n C (x := some a0) 2 rfl 0 dJ7_copyOf_9075b_1 rfl ?_
  refine r_alenB C 3 rfl dJ7_copyOf_9075b_2 h (fun x1 h => ?_)
  refine r_icmp_ne C 14 6 rfl dJ7_copyOf_9075b_3 (by decide) h (fun h => ?_) (fun h => ?_)
  · refine r_iload_n C 15 rfl 1 dJ7_copyOf_9075b_14 rfl ?_
    refine r_newB C 17 rfl ac_byte dJ7_copyOf_9075b_15 (by decide) (Nat.le_of_ble_eq_true rfl) (Nat.le_of_ble_eq_true rfl) h (fun b2 t3 h => ?_)
    refine r_astore_n C (x := some b2) 18 rfl [(2, .ref b2), (0, .ref a0), (1, .int v1)] dJ7_copyOf_9075b_17 (by decide) rfl ?_
    refine r_aload_n C (x := some a0) 19 rfl 1 dJ7_copyOf_9075b_18 rfl ?_
    refine r_iconst C (v := (0 : Int32)) 20 rfl dJ7_copyOf_9075b_19 (by decide) ?_
    refine r_aload_n C (x := some b2) 21 rfl 0 dJ7_copyOf_9075b_20 rfl ?_
    refine r_iconst C (v := (0 : Int32)) 22 rfl dJ7_copyOf_9075b_21 (by decide) ?_
    refine r_aload_n C (x := some a0) 23 rfl 1 dJ7_copyOf_9075b_22 rfl ?_
    refine r_alenB C 24 rfl dJ7_copyOf_9075b_23 h (fun x4 h => ?_)
    refine r_iload_n C 25 rfl 2 dJ7_copyOf_9075b_24 rfl ?_
    refine r_mmin C 28 rfl ml_J7_304 st_mmin ini_m cd_mmin dJ7_copyOf_9075b_25 (Nat.le_of_ble_eq_true rfl) (Nat.le_of_ble_eq_true rfl) (Nat.le_refl _) (Nat.le_refl _) ?_
    refine r_copyB C 31 rfl ml_J7_150 nat_copy st_cp ini_sy dJ7_copyOf_9075b_28 (Nat.le_of_ble_eq_true rfl) (by decide) h (fun t5 h => ?_)
    refine r_aload_n C (x := some b2) 32 rfl 0 dJ7_copyOf_9075b_31 rfl ?_
    exact r_aret C (Or.inr ⟨_, rfl⟩) dJ7_copyOf_9075b_32 (Nat.le_refl _) (Nat.le_refl _) h
  · refine r_aload_n C (x := some a0) 7 rfl 0 dJ7_copyOf_9075b_6 rfl ?_
    refine r_clone C 10 rfl ml_J7_310 dJ7_copyOf_9075b_7 (Nat.le_of_ble_eq_true rfl) (by decide) (Nat.le_of_ble_eq_true rfl) (Nat.le_of_ble_eq_true rfl) h (fun b6 t7 h => ?_)
    refine r_ckB C 13 rfl cl_J7_311 dJ7_copyOf_9075b_10 h (fun h => ?_)
    exact r_aret C (Or.inr ⟨_, rfl⟩) dJ7_copyOf_9075b_13 (Nat.le_refl _) (Nat.le_refl _) h

noncomputable def J_J5_ensureCapacityInternal_d00df  (a0 : Nat) (v1 : Int32) (σ : Hp) : jR := jgR σ a0 6 0 (fun r1 => jdr r1 (fun b2 => jalB σ b2 (fun x3 => jgI σ a0 6 1 (fun x4 => (if (v1 - (x3 >>> (x4 &&& 31))) ≤ 0 then some (.inl none, σ) else jgR σ a0 6 0 (fun r5 => jdr r5 (fun b6 => jcv σ a0 6 (J_J5_newCapacity_0f7a4 a0 v1 σ) (fun w8 t7 => jvI w8 (fun x9 => jgI t7 a0 6 1 (fun x10 => jcs (J_J7_copyOf_9075b b6 (x9 <<< (x10 &&& 31)) t7) (fun w12 t11 => jvA w12 (fun b13 => jpR t11 a0 6 0 (some b13) (fun t14 => some (.inl none, t14)))) (fun E t => some (.inr E, t))))) (fun E t => some (.inr E, t)))))))))
set_option maxHeartbeats 4000000 in
set_option maxRecDepth 100000 in
theorem k_J5_ensureCapacityInternal_d00df (l : Launch) (hst : l.stackTraces = false) (g : jG)   (a0 : Nat) (v1 : Int32) (σ : Hp) (o : jO) (τ : Hp) (h : J_J5_ensureCapacityInternal_d00df a0 v1 σ = some (o, τ)) : jMet l g yJ5_ensureCapacityInternal_d00df (Cond.code yJ5_ensureCapacityInternal_d00df cJ5_ensureCapacityInternal_d00df 3 none :: gT) ({ frames := 3, cells := 1, slots := 1000, locals := 78 } : Room) 1 1000 [.ref a0, .int v1] σ o τ := by
  refine j_start l hst (own := RJ5) (by decide) rfl (Nat.le_of_ble_eq_true rfl) ?_
  intro p e s m args below meth c C hE hin
  unfold J_J5_ensureCapacityInternal_d00df at h
  show jW p l e ({ frames := 3, cells := 1, slots := 1000, locals := 78 } : Room) s m args below meth c g (jQ below g o τ args s 1 1000) 0 0 0 [(0, .ref a0), (1, .int v1)] [] σ
  refine r_aload_n C (x := some a0) 1 rfl 0 dJ5_ensureCapacityInternal_d00df_0 rfl ?_
  refine r_getR C 4 rfl ff_J5_15 dJ5_ensureCapacityInternal_d00df_1 h (fun r1 h => ?_)
  replace h := jdr_some h
  obtain ⟨b2, hr, h⟩ := h
  rw [hr]
  refine r_alenB C 5 rfl dJ5_ensureCapacityInternal_d00df_4 h (fun x3 h => ?_)
  refine r_aload_n C (x := some a0) 6 rfl 0 dJ5_ensureCapacityInternal_d00df_5 rfl ?_
  refine r_getI C 9 rfl ff_J5_22 dJ5_ensureCapacityInternal_d00df_6 h (fun x4 h => ?_)
  refine r_ishr C 10 rfl dJ5_ensureCapacityInternal_d00df_9 ?_
  refine r_istore_n C 11 rfl [(2, .int (x3 >>> (x4 &&& 31))), (0, .ref a0), (1, .int v1)] dJ5_ensureCapacityInternal_d00df_10 (by decide) rfl ?_
  refine r_iload_n C 12 rfl 2 dJ5_ensureCapacityInternal_d00df_11 rfl ?_
  refine r_iload_n C 13 rfl 0 dJ5_ensureCapacityInternal_d00df_12 rfl ?_
  refine r_isub C 14 rfl dJ5_ensureCapacityInternal_d00df_13 ?_
  refine r_if_le C 38 17 rfl dJ5_ensureCapacityInternal_d00df_14 (by decide) h (fun h => ?_) (fun h => ?_)
  · exact r_vret C dJ5_ensureCapacityInternal_d00df_38 (Nat.le_of_ble_eq_true rfl) (Nat.le_of_ble_eq_true rfl) h
  · refine r_aload_n C (x := some a0) 18 rfl 1 dJ5_ensureCapacityInternal_d00df_17 rfl ?_
    refine r_aload_n C (x := some a0) 19 rfl 1 dJ5_ensureCapacityInternal_d00df_18 rfl ?_
    refine r_getR C 22 rfl ff_J5_15 dJ5_ensureCapacityInternal_d00df_19 h (fun r5 h => ?_)
    refine r_aload_n C (x := some a0) 23 rfl 1 dJ5_ensureCapacityInternal_d00df_22 rfl ?_
    refine r_iload_n C 24 rfl 2 dJ5_ensureCapacityInternal_d00df_23 rfl ?_
    replace h := jdr_some h
    obtain ⟨b6, hr, h⟩ := h
    rw [hr]
    refine r_callU C (ci := 6) mu_J5_104 rfl 27 0 0 rfl rfl rfl dJ5_ensureCapacityInternal_d00df_24 rfl rfl (As := [.int v1]) rfl rfl (Nat.le_of_ble_eq_true rfl) ⟨Nat.le_of_ble_eq_true rfl, Nat.le_of_ble_eq_true rfl⟩ ⟨(Nat.le_of_ble_eq_true rfl), (Nat.le_of_ble_eq_true rfl)⟩ (fun o t h => k_J5_newCapacity_0f7a4 l hst g _ _ _ o t h) h (fun w8 t7 h => ?_) (fun E t h => r_out C (fun x hx => (hE x hx).elim) (Nat.le_of_ble_eq_true rfl) (Nat.le_of_ble_eq_true rfl) h)
    replace h := jvI_some h
    obtain ⟨x9, rfl, h⟩ := h
    refine r_aload_n C (x := some a0) 28 rfl 1 dJ5_ensureCapacityInternal_d00df_27 rfl ?_
    refine r_getI C 31 rfl ff_J5_22 dJ5_ensureCapacityInternal_d00df_28 h (fun x10 h => ?_)
    refine r_ishl C 32 rfl dJ5_ensureCapacityInternal_d00df_31 ?_
    refine r_callS C mm_J5_108 st_yJ7_copyOf_9075b 35 1 1000 rfl rfl rfl dJ5_ensureCapacityInternal_d00df_32 rfl rfl (As := [.ref b6, .int (x9 <<< (x10 &&& 31))]) rfl rfl (Nat.le_of_ble_eq_true rfl) ⟨Nat.le_of_ble_eq_true rfl, Nat.le_of_ble_eq_true rfl⟩ ⟨(Nat.le_of_ble_eq_true rfl), (Nat.le_of_ble_eq_true rfl)⟩ (fun o t h => k_J7_copyOf_9075b l hst g _ _ _ o t h) h (fun w12 t11 h => ?_) (fun E t h => r_out C (fun x hx => (hE x hx).elim) (Nat.le_refl _) (Nat.le_refl _) h)
    replace h := jvA_some h
    obtain ⟨b13, rfl, h⟩ := h
    refine r_putR C (v := (some b13)) 38 rfl fp_J5_15 dJ5_ensureCapacityInternal_d00df_35 h (fun t14 h => ?_)
    exact r_vret C dJ5_ensureCapacityInternal_d00df_38 (Nat.le_refl _) (Nat.le_refl _) h

noncomputable def J_J0_coder_7d493  (a0 : Nat) (σ : Hp) : jR := (if ((1 : Int32)) = 0 then jrt .byte ((1 : Int32)) σ else jgIs σ a0 (fun x1 => jrt .byte x1 σ))
set_option maxHeartbeats 4000000 in
set_option maxRecDepth 100000 in
theorem k_J0_coder_7d493 (l : Launch) (hst : l.stackTraces = false) (g : jG)   (a0 : Nat) (σ : Hp) (o : jO) (τ : Hp) (h : J_J0_coder_7d493 a0 σ = some (o, τ)) : jMet l g yJ0_coder_7d493 (Cond.code yJ0_coder_7d493 cJ0_coder_7d493 1 (some FieldType.byte) :: gT) ({ frames := 1, cells := 0, slots := 0, locals := 12 } : Room) 0 0 [.ref a0] σ o τ := by
  refine j_start l hst (own := RJ0) (by decide) rfl (Nat.le_of_ble_eq_true rfl) ?_
  intro p e s m args below meth c C hE hin
  unfold J_J0_coder_7d493 at h
  show jW p l e ({ frames := 1, cells := 0, slots := 0, locals := 12 } : Room) s m args below meth c g (jQ below g o τ args s 0 0) 0 0 0 [(0, .ref a0)] [] σ
  refine r_gets1 C 3 rfl fl_J0_38 dJ0_coder_7d493_0 ?_
  refine r_if_eq C 13 6 rfl dJ0_coder_7d493_3 (by decide) h (fun h => ?_) (fun h => ?_)
  · refine r_iconst C (v := (1 : Int32)) 14 rfl dJ0_coder_7d493_13 (by decide) ?_
    exact r_zret C (fun _ => rfl) dJ0_coder_7d493_14 (Nat.le_refl _) (Nat.le_refl _) h
  · refine r_aload_n C (x := some a0) 7 rfl 0 dJ0_coder_7d493_6 rfl ?_
    refine r_getIs C 10 rfl ff_J0_15 fl_J0_15 dJ0_coder_7d493_7 h (fun x1 h => ?_)
    refine r_goto C 14 dJ0_coder_7d493_10 (by decide) ?_
    exact r_zret C (fun _ => rfl) dJ0_coder_7d493_14 (Nat.le_refl _) (Nat.le_refl _) h

noncomputable def J_J0_length_8abf5  (a0 : Nat) (σ : Hp) : jR := jgRs σ a0 (fun r1 => jdr r1 (fun b2 => jalB σ b2 (fun x3 => jcvS σ a0 (J_J0_coder_7d493 a0 σ) (fun w5 t4 => jvI w5 (fun x6 => some (.inl (some (.int (x3 >>> (x6 &&& 31)))), t4))) (fun E t => some (.inr E, t)))))
set_option maxHeartbeats 4000000 in
set_option maxRecDepth 100000 in
theorem k_J0_length_8abf5 (l : Launch) (hst : l.stackTraces = false) (g : jG)   (a0 : Nat) (σ : Hp) (o : jO) (τ : Hp) (h : J_J0_length_8abf5 a0 σ = some (o, τ)) : jMet l g yJ0_length_8abf5 (Cond.code yJ0_length_8abf5 cJ0_length_8abf5 1 (some FieldType.int) :: gT) ({ frames := 2, cells := 0, slots := 0, locals := 32 } : Room) 0 0 [.ref a0] σ o τ := by
  refine j_start l hst (own := RJ0) (by decide) rfl (Nat.le_of_ble_eq_true rfl) ?_
  intro p e s m args below meth c C hE hin
  unfold J_J0_length_8abf5 at h
  show jW p l e ({ frames := 2, cells := 0, slots := 0, locals := 32 } : Room) s m args below meth c g (jQ below g o τ args s 0 0) 0 0 0 [(0, .ref a0)] [] σ
  refine r_aload_n C (x := some a0) 1 rfl 0 dJ0_length_8abf5_0 rfl ?_
  refine r_getRs C 4 rfl ff_J0_9 fl_J0_9 dJ0_length_8abf5_1 h (fun r1 h => ?_)
  replace h := jdr_some h
  obtain ⟨b2, hr, h⟩ := h
  rw [hr]
  refine r_alenB C 5 rfl dJ0_length_8abf5_4 h (fun x3 h => ?_)
  refine r_aload_n C (x := some a0) 6 rfl 0 dJ0_length_8abf5_5 rfl ?_
  refine r_callVS C mm_J0_335 im_yJ0_coder_7d493 se_yJ0_coder_7d493 9 0 0 rfl rfl rfl dJ0_length_8abf5_6 rfl rfl (As := []) rfl rfl (Nat.le_of_ble_eq_true rfl) ⟨Nat.le_of_ble_eq_true rfl, Nat.le_of_ble_eq_true rfl⟩ ⟨(Nat.le_of_ble_eq_true rfl), (Nat.le_of_ble_eq_true rfl)⟩ (fun o t h => k_J0_coder_7d493 l hst g _ _ o t h) h (fun w5 t4 h => ?_) (fun E t h => r_out C (fun x hx => (hE x hx).elim) (Nat.le_refl _) (Nat.le_refl _) h)
  replace h := jvI_some h
  obtain ⟨x6, rfl, h⟩ := h
  refine r_ishr C 10 rfl dJ0_length_8abf5_9 ?_
  exact r_iret C dJ0_length_8abf5_10 (Nat.le_refl _) (Nat.le_refl _) h

noncomputable def J_J5_inflateIfNeededFor_a7421  (a0 : Nat) (a1 : Nat) (σ : Hp) : jR := (if ((1 : Int32)) = 0 then some (.inl none, σ) else jgI σ a0 6 1 (fun x1 => jcvS σ a1 (J_J0_coder_7d493 a1 σ) (fun w3 t2 => jvI w3 (fun x4 => (if x1 = x4 then some (.inl none, t2) else none))) (fun E t => some (.inr E, t))))
set_option maxHeartbeats 4000000 in
set_option maxRecDepth 100000 in
theorem k_J5_inflateIfNeededFor_a7421 (l : Launch) (hst : l.stackTraces = false) (g : jG)   (a0 : Nat) (a1 : Nat) (σ : Hp) (o : jO) (τ : Hp) (h : J_J5_inflateIfNeededFor_a7421 a0 a1 σ = some (o, τ)) : jMet l g yJ5_inflateIfNeededFor_a7421 (Cond.code yJ5_inflateIfNeededFor_a7421 cJ5_inflateIfNeededFor_a7421 2 none :: gT) ({ frames := 2, cells := 0, slots := 0, locals := 32 } : Room) 0 0 [.ref a0, .ref a1] σ o τ := by
  refine j_start l hst (own := RJ5) (by decide) rfl (Nat.le_of_ble_eq_true rfl) ?_
  intro p e s m args below meth c C hE hin
  unfold J_J5_inflateIfNeededFor_a7421 at h
  show jW p l e ({ frames := 2, cells := 0, slots := 0, locals := 32 } : Room) s m args below meth c g (jQ below g o τ args s 0 0) 0 0 0 [(0, .ref a0), (1, .ref a1)] [] σ
  refine r_gets1 C 3 rfl fl_J5_18 dJ5_inflateIfNeededFor_a7421_0 ?_
  refine r_if_eq C 21 6 rfl dJ5_inflateIfNeededFor_a7421_3 (by decide) h (fun h => ?_) (fun h => ?_)
  · exact r_vret C dJ5_inflateIfNeededFor_a7421_21 (Nat.le_refl _) (Nat.le_refl _) h
  · refine r_aload_n C (x := some a0) 7 rfl 0 dJ5_inflateIfNeededFor_a7421_6 rfl ?_
    refine r_getI C 10 rfl ff_J5_22 dJ5_inflateIfNeededFor_a7421_7 h (fun x1 h => ?_)
    refine r_aload_n C (x := some a1) 11 rfl 1 dJ5_inflateIfNeededFor_a7421_10 rfl ?_
    refine r_callVS C mm_J5_40 im_yJ0_coder_7d493 se_yJ0_coder_7d493 14 0 0 rfl rfl rfl dJ5_inflateIfNeededFor_a7421_11 rfl rfl (As := []) rfl rfl (Nat.le_of_ble_eq_true rfl) ⟨Nat.le_of_ble_eq_true rfl, Nat.le_of_ble_eq_true rfl⟩ ⟨(Nat.le_of_ble_eq_true rfl), (Nat.le_of_ble_eq_true rfl)⟩ (fun o t h => k_J0_coder_7d493 l hst g _ _ o t h) h (fun w3 t2 h => ?_) (fun E t h => r_out C (fun x hx => (hE x hx).elim) (Nat.le_refl _) (Nat.le_refl _) h)
    replace h := jvI_some h
    obtain ⟨x4, rfl, h⟩ := h
    refine r_icmp_eq C 21 17 rfl dJ5_inflateIfNeededFor_a7421_14 (by decide) h (fun h => ?_) (fun h => ?_)
    · exact r_vret C dJ5_inflateIfNeededFor_a7421_21 (Nat.le_refl _) (Nat.le_refl _) h
    · cases h

noncomputable def J_J0_getBytes_840e7  (a0 : Nat) (a1 : Nat) (v2 : Int32) (v3 : Int32) (σ : Hp) : jR := jcvS σ a0 (J_J0_coder_7d493 a0 σ) (fun w2 t1 => jvI w2 (fun x3 => (if x3 = v3 then jgRs t1 a0 (fun r4 => jgRs t1 a0 (fun r5 => jdr r5 (fun b6 => jalB t1 b6 (fun x7 => jdr r4 (fun b8 => jcpB t1 b8 a1 ((0 : Int32)) (v2 <<< (v3 &&& 31)) x7 (fun t9 => some (.inl none, t9))))))) else none))) (fun E t => some (.inr E, t))
set_option maxHeartbeats 4000000 in
set_option maxRecDepth 100000 in
theorem k_J0_getBytes_840e7 (l : Launch) (hst : l.stackTraces = false) (g : jG)   (a0 : Nat) (a1 : Nat) (v2 : Int32) (v3 : Int32) (σ : Hp) (o : jO) (τ : Hp) (h : J_J0_getBytes_840e7 a0 a1 v2 v3 σ = some (o, τ)) : jMet l g yJ0_getBytes_840e7 (Cond.code yJ0_getBytes_840e7 cJ0_getBytes_840e7 4 none :: gT) ({ frames := 2, cells := 0, slots := 0, locals := 40 } : Room) 0 0 [.ref a0, .ref a1, .int v2, .int v3] σ o τ := by
  refine j_start l hst (own := RJ0) (by decide) rfl (Nat.le_of_ble_eq_true rfl) ?_
  intro p e s m args below meth c C hE hin
  unfold J_J0_getBytes_840e7 at h
  show jW p l e ({ frames := 2, cells := 0, slots := 0, locals := 40 } : Room) s m args below meth c g (jQ below g o τ args s 0 0) 0 0 0 [(0, .ref a0), (1, .ref a1), (2, .int v2), (3, .int v3)] [] σ
  refine r_aload_n C (x := some a0) 1 rfl 0 dJ0_getBytes_840e7_0 rfl ?_
  refine r_callVS C mm_J0_335 im_yJ0_coder_7d493 se_yJ0_coder_7d493 4 0 0 rfl rfl rfl dJ0_getBytes_840e7_1 rfl rfl (As := []) rfl rfl (Nat.le_of_ble_eq_true rfl) ⟨Nat.le_of_ble_eq_true rfl, Nat.le_of_ble_eq_true rfl⟩ ⟨(Nat.le_of_ble_eq_true rfl), (Nat.le_of_ble_eq_true rfl)⟩ (fun o t h => k_J0_coder_7d493 l hst g _ _ o t h) h (fun w2 t1 h => ?_) (fun E t h => r_out C (fun x hx => (hE x hx).elim) (Nat.le_refl _) (Nat.le_refl _) h)
  replace h := jvI_some h
  obtain ⟨x3, rfl, h⟩ := h
  refine r_iload_n C 5 rfl 3 dJ0_getBytes_840e7_4 rfl ?_
  refine r_icmp_ne C 28 8 rfl dJ0_getBytes_840e7_5 (by decide) h (fun h => ?_) (fun h => ?_)
  · cases h
  · refine r_aload_n C (x := some a0) 9 rfl 0 dJ0_getBytes_840e7_8 rfl ?_
    refine r_getRs C 12 rfl ff_J0_9 fl_J0_9 dJ0_getBytes_840e7_9 h (fun r4 h => ?_)
    refine r_iconst C (v := (0 : Int32)) 13 rfl dJ0_getBytes_840e7_12 (by decide) ?_
    refine r_aload_n C (x := some a1) 14 rfl 1 dJ0_getBytes_840e7_13 rfl ?_
    refine r_iload_n C 15 rfl 2 dJ0_getBytes_840e7_14 rfl ?_
    refine r_iload_n C 16 rfl 3 dJ0_getBytes_840e7_15 rfl ?_
    refine r_ishl C 17 rfl dJ0_getBytes_840e7_16 ?_
    refine r_aload_n C (x := some a0) 18 rfl 0 dJ0_getBytes_840e7_17 rfl ?_
    refine r_getRs C 21 rfl ff_J0_9 fl_J0_9 dJ0_getBytes_840e7_18 h (fun r5 h => ?_)
    replace h := jdr_some h
    obtain ⟨b6, hr, h⟩ := h
    rw [hr]
    refine r_alenB C 22 rfl dJ0_getBytes_840e7_21 h (fun x7 h => ?_)
    replace h := jdr_some h
    obtain ⟨b8, hr, h⟩ := h
    rw [hr]
    refine r_copyB C 25 rfl ml_J0_212 nat_copy st_cp ini_sy dJ0_getBytes_840e7_22 (Nat.le_of_ble_eq_true rfl) (by decide) h (fun t9 h => ?_)
    refine r_goto C 43 dJ0_getBytes_840e7_25 (by decide) ?_
    exact r_vret C dJ0_getBytes_840e7_43 (Nat.le_refl _) (Nat.le_refl _) h

noncomputable def J_J5_putStringAt_47b60  (a0 : Nat) (v1 : Int32) (a2 : Nat) (σ : Hp) : jR := jcv σ a0 6 (J_J5_inflateIfNeededFor_a7421 a0 a2 σ) (fun w2 t1 => jvV w2 (jgR t1 a0 6 0 (fun r3 => jgI t1 a0 6 1 (fun x4 => jdr r3 (fun b5 => jcvS t1 a2 (J_J0_getBytes_840e7 a2 b5 v1 x4 t1) (fun w7 t6 => jvV w7 (some (.inl none, t6))) (fun E t => some (.inr E, t))))))) (fun E t => some (.inr E, t))
set_option maxHeartbeats 4000000 in
set_option maxRecDepth 100000 in
theorem k_J5_putStringAt_47b60 (l : Launch) (hst : l.stackTraces = false) (g : jG)   (a0 : Nat) (v1 : Int32) (a2 : Nat) (σ : Hp) (o : jO) (τ : Hp) (h : J_J5_putStringAt_47b60 a0 v1 a2 σ = some (o, τ)) : jMet l g yJ5_putStringAt_47b60 (Cond.code yJ5_putStringAt_47b60 cJ5_putStringAt_47b60 3 none :: gT) ({ frames := 3, cells := 0, slots := 0, locals := 63 } : Room) 0 0 [.ref a0, .int v1, .ref a2] σ o τ := by
  refine j_start l hst (own := RJ5) (by decide) rfl (Nat.le_of_ble_eq_true rfl) ?_
  intro p e s m args below meth c C hE hin
  unfold J_J5_putStringAt_47b60 at h
  show jW p l e ({ frames := 3, cells := 0, slots := 0, locals := 63 } : Room) s m args below meth c g (jQ below g o τ args s 0 0) 0 0 0 [(0, .ref a0), (1, .int v1), (2, .ref a2)] [] σ
  refine r_aload_n C (x := some a0) 1 rfl 0 dJ5_putStringAt_47b60_0 rfl ?_
  refine r_aload_n C (x := some a2) 2 rfl 2 dJ5_putStringAt_47b60_1 rfl ?_
  refine r_callU C (ci := 6) mu_J5_397 rfl 5 0 0 rfl rfl rfl dJ5_putStringAt_47b60_2 rfl rfl (As := [.ref a2]) rfl rfl (Nat.le_of_ble_eq_true rfl) ⟨Nat.le_of_ble_eq_true rfl, Nat.le_of_ble_eq_true rfl⟩ ⟨(Nat.le_of_ble_eq_true rfl), (Nat.le_of_ble_eq_true rfl)⟩ (fun o t h => k_J5_inflateIfNeededFor_a7421 l hst g _ _ _ o t h) h (fun w2 t1 h => ?_) (fun E t h => r_out C (fun x hx => (hE x hx).elim) (Nat.le_refl _) (Nat.le_refl _) h)
  replace h := jvV_some h
  obtain ⟨rfl, h⟩ := h
  refine r_aload_n C (x := some a2) 6 rfl 2 dJ5_putStringAt_47b60_5 rfl ?_
  refine r_aload_n C (x := some a0) 7 rfl 0 dJ5_putStringAt_47b60_6 rfl ?_
  refine r_getR C 10 rfl ff_J5_15 dJ5_putStringAt_47b60_7 h (fun r3 h => ?_)
  refine r_iload_n C 11 rfl 1 dJ5_putStringAt_47b60_10 rfl ?_
  refine r_aload_n C (x := some a0) 12 rfl 0 dJ5_putStringAt_47b60_11 rfl ?_
  refine r_getI C 15 rfl ff_J5_22 dJ5_putStringAt_47b60_12 h (fun x4 h => ?_)
  replace h := jdr_some h
  obtain ⟨b5, hr, h⟩ := h
  rw [hr]
  refine r_callVS C mm_J5_399 im_yJ0_getBytes_840e7 se_yJ0_getBytes_840e7 18 0 0 rfl rfl rfl dJ5_putStringAt_47b60_15 rfl rfl (As := [.ref b5, .int v1, .int x4]) rfl rfl (Nat.le_of_ble_eq_true rfl) ⟨Nat.le_of_ble_eq_true rfl, Nat.le_of_ble_eq_true rfl⟩ ⟨(Nat.le_of_ble_eq_true rfl), (Nat.le_of_ble_eq_true rfl)⟩ (fun o t h => k_J0_getBytes_840e7 l hst g _ _ _ _ _ o t h) h (fun w7 t6 h => ?_) (fun E t h => r_out C (fun x hx => (hE x hx).elim) (Nat.le_refl _) (Nat.le_refl _) h)
  replace h := jvV_some h
  obtain ⟨rfl, h⟩ := h
  exact r_vret C dJ5_putStringAt_47b60_18 (Nat.le_refl _) (Nat.le_refl _) h

noncomputable def J_J5_append_cf1ce  (a0 : Nat) (a1 : Nat) (σ : Hp) : jR := jcvS σ a1 (J_J0_length_8abf5 a1 σ) (fun w2 t1 => jvI w2 (fun x3 => jgI t1 a0 6 3 (fun x4 => jcv t1 a0 6 (J_J5_ensureCapacityInternal_d00df a0 (x4 + x3) t1) (fun w6 t5 => jvV w6 (jgI t5 a0 6 3 (fun x7 => jcv t5 a0 6 (J_J5_putStringAt_47b60 a0 x7 a1 t5) (fun w9 t8 => jvV w9 (jgI t8 a0 6 3 (fun x10 => jpI t8 a0 6 3 (x10 + x3) (fun t11 => some (.inl (some (.ref a0)), t11))))) (fun E t => some (.inr E, t))))) (fun E t => some (.inr E, t))))) (fun E t => some (.inr E, t))
set_option maxHeartbeats 4000000 in
set_option maxRecDepth 100000 in
theorem k_J5_append_cf1ce (l : Launch) (hst : l.stackTraces = false) (g : jG)   (a0 : Nat) (a1 : Nat) (σ : Hp) (o : jO) (τ : Hp) (h : J_J5_append_cf1ce a0 a1 σ = some (o, τ)) : jMet l g yJ5_append_cf1ce (Cond.code yJ5_append_cf1ce cJ5_append_cf1ce 3 (some (FieldType.object "java/lang/AbstractStringBuilder")) :: gT) ({ frames := 4, cells := 1, slots := 1000, locals := 100 } : Room) 1 1000 [.ref a0, .ref a1] σ o τ := by
  refine j_start l hst (own := RJ5) (by decide) rfl (Nat.le_of_ble_eq_true rfl) ?_
  intro p e s m args below meth c C hE hin
  unfold J_J5_append_cf1ce at h
  show jW p l e ({ frames := 4, cells := 1, slots := 1000, locals := 100 } : Room) s m args below meth c g (jQ below g o τ args s 1 1000) 0 0 0 [(0, .ref a0), (1, .ref a1)] [] σ
  refine r_aload_n C (x := some a1) 1 rfl 1 dJ5_append_cf1ce_0 rfl ?_
  refine r_ifnnA C 9 dJ5_append_cf1ce_1 (by decide) ?_
  refine r_aload_n C (x := some a1) 10 rfl 1 dJ5_append_cf1ce_9 rfl ?_
  refine r_callVS C mm_J5_32 im_yJ0_length_8abf5 se_yJ0_length_8abf5 13 0 0 rfl rfl rfl dJ5_append_cf1ce_10 rfl rfl (As := []) rfl rfl (Nat.le_of_ble_eq_true rfl) ⟨Nat.le_of_ble_eq_true rfl, Nat.le_of_ble_eq_true rfl⟩ ⟨(Nat.le_of_ble_eq_true rfl), (Nat.le_of_ble_eq_true rfl)⟩ (fun o t h => k_J0_length_8abf5 l hst g _ _ o t h) h (fun w2 t1 h => ?_) (fun E t h => r_out C (fun x hx => (hE x hx).elim) (Nat.le_of_ble_eq_true rfl) (Nat.le_of_ble_eq_true rfl) h)
  replace h := jvI_some h
  obtain ⟨x3, rfl, h⟩ := h
  refine r_istore_n C 14 rfl [(2, .int x3), (0, .ref a0), (1, .ref a1)] dJ5_append_cf1ce_13 (by decide) rfl ?_
  refine r_aload_n C (x := some a0) 15 rfl 1 dJ5_append_cf1ce_14 rfl ?_
  refine r_aload_n C (x := some a0) 16 rfl 1 dJ5_append_cf1ce_15 rfl ?_
  refine r_getI C 19 rfl ff_J5_79 dJ5_append_cf1ce_16 h (fun x4 h => ?_)
  refine r_iload_n C 20 rfl 0 dJ5_append_cf1ce_19 rfl ?_
  refine r_iadd C 21 rfl dJ5_append_cf1ce_20 ?_
  refine r_callU C (ci := 6) mu_J5_100 rfl 24 1 1000 rfl rfl rfl dJ5_append_cf1ce_21 rfl rfl (As := [.int (x4 + x3)]) rfl rfl (Nat.le_of_ble_eq_true rfl) ⟨Nat.le_of_ble_eq_true rfl, Nat.le_of_ble_eq_true rfl⟩ ⟨(Nat.le_of_ble_eq_true rfl), (Nat.le_of_ble_eq_true rfl)⟩ (fun o t h => k_J5_ensureCapacityInternal_d00df l hst g _ _ _ o t h) h (fun w6 t5 h => ?_) (fun E t h => r_out C (fun x hx => (hE x hx).elim) (Nat.le_refl _) (Nat.le_refl _) h)
  replace h := jvV_some h
  obtain ⟨rfl, h⟩ := h
  refine r_aload_n C (x := some a0) 25 rfl 1 dJ5_append_cf1ce_24 rfl ?_
  refine r_aload_n C (x := some a0) 26 rfl 1 dJ5_append_cf1ce_25 rfl ?_
  refine r_getI C 29 rfl ff_J5_79 dJ5_append_cf1ce_26 h (fun x7 h => ?_)
  refine r_aload_n C (x := some a1) 30 rfl 2 dJ5_append_cf1ce_29 rfl ?_
  refine r_callU C (ci := 6) mu_J5_208 rfl 33 1 1000 rfl rfl rfl dJ5_append_cf1ce_30 rfl rfl (As := [.int x7, .ref a1]) rfl rfl (Nat.le_of_ble_eq_true rfl) ⟨Nat.le_of_ble_eq_true rfl, Nat.le_of_ble_eq_true rfl⟩ ⟨(Nat.le_of_ble_eq_true rfl), (Nat.le_of_ble_eq_true rfl)⟩ (fun o t h => k_J5_putStringAt_47b60 l hst g _ _ _ _ o t h) h (fun w9 t8 h => ?_) (fun E t h => r_out C (fun x hx => (hE x hx).elim) (Nat.le_refl _) (Nat.le_refl _) h)
  replace h := jvV_some h
  obtain ⟨rfl, h⟩ := h
  refine r_aload_n C (x := some a0) 34 rfl 1 dJ5_append_cf1ce_33 rfl ?_
  refine r_dup C 35 rfl dJ5_append_cf1ce_34 rfl ?_
  refine r_getI C 38 rfl ff_J5_79 dJ5_append_cf1ce_35 h (fun x10 h => ?_)
  refine r_iload_n C 39 rfl 0 dJ5_append_cf1ce_38 rfl ?_
  refine r_iadd C 40 rfl dJ5_append_cf1ce_39 ?_
  refine r_putI C 43 rfl fp_J5_79 dJ5_append_cf1ce_40 h (fun t11 h => ?_)
  refine r_aload_n C (x := some a0) 44 rfl 1 dJ5_append_cf1ce_43 rfl ?_
  exact r_aret C (Or.inl ⟨_, rfl⟩) dJ5_append_cf1ce_44 (Nat.le_refl _) (Nat.le_refl _) h

noncomputable def J_J5_isLatin1_aae02  (a0 : Nat) (σ : Hp) : jR := (if ((1 : Int32)) = 0 then jrt .boolean ((0 : Int32)) σ else jgI σ a0 6 1 (fun x1 => (if x1 = 0 then jrt .boolean ((1 : Int32)) σ else jrt .boolean ((0 : Int32)) σ)))
set_option maxHeartbeats 4000000 in
set_option maxRecDepth 100000 in
theorem k_J5_isLatin1_aae02 (l : Launch) (hst : l.stackTraces = false) (g : jG)   (a0 : Nat) (σ : Hp) (o : jO) (τ : Hp) (h : J_J5_isLatin1_aae02 a0 σ = some (o, τ)) : jMet l g yJ5_isLatin1_aae02 (Cond.code yJ5_isLatin1_aae02 cJ5_isLatin1_aae02 1 (some FieldType.boolean) :: gT) ({ frames := 1, cells := 0, slots := 0, locals := 12 } : Room) 0 0 [.ref a0] σ o τ := by
  refine j_start l hst (own := RJ5) (by decide) rfl (Nat.le_of_ble_eq_true rfl) ?_
  intro p e s m args below meth c C hE hin
  unfold J_J5_isLatin1_aae02 at h
  show jW p l e ({ frames := 1, cells := 0, slots := 0, locals := 12 } : Room) s m args below meth c g (jQ below g o τ args s 0 0) 0 0 0 [(0, .ref a0)] [] σ
  refine r_gets1 C 3 rfl fl_J5_18 dJ5_isLatin1_aae02_0 ?_
  refine r_if_eq C 17 6 rfl dJ5_isLatin1_aae02_3 (by decide) h (fun h => ?_) (fun h => ?_)
  · refine r_iconst C (v := (0 : Int32)) 18 rfl dJ5_isLatin1_aae02_17 (by decide) ?_
    exact r_zret C (fun _ => rfl) dJ5_isLatin1_aae02_18 (Nat.le_refl _) (Nat.le_refl _) h
  · refine r_aload_n C (x := some a0) 7 rfl 0 dJ5_isLatin1_aae02_6 rfl ?_
    refine r_getI C 10 rfl ff_J5_22 dJ5_isLatin1_aae02_7 h (fun x1 h => ?_)
    refine r_if_ne C 17 13 rfl dJ5_isLatin1_aae02_10 (by decide) h (fun h => ?_) (fun h => ?_)
    · refine r_iconst C (v := (0 : Int32)) 18 rfl dJ5_isLatin1_aae02_17 (by decide) ?_
      exact r_zret C (fun _ => rfl) dJ5_isLatin1_aae02_18 (Nat.le_refl _) (Nat.le_refl _) h
    · refine r_iconst C (v := (1 : Int32)) 14 rfl dJ5_isLatin1_aae02_13 (by decide) ?_
      refine r_goto C 18 dJ5_isLatin1_aae02_14 (by decide) ?_
      exact r_zret C (fun _ => rfl) dJ5_isLatin1_aae02_18 (Nat.le_refl _) (Nat.le_refl _) h

noncomputable def J_J1_canEncode_fc78d  (v0 : Int32) (σ : Hp) : jR := (if ((255 : Int32)) < v0 then jrt .boolean ((0 : Int32)) σ else jrt .boolean ((1 : Int32)) σ)
set_option maxHeartbeats 4000000 in
set_option maxRecDepth 100000 in
theorem k_J1_canEncode_fc78d (l : Launch) (hst : l.stackTraces = false) (g : jG)   (v0 : Int32) (σ : Hp) (o : jO) (τ : Hp) (h : J_J1_canEncode_fc78d v0 σ = some (o, τ)) : jMet l g yJ1_canEncode_fc78d (Cond.code yJ1_canEncode_fc78d cJ1_canEncode_fc78d 1 (some FieldType.boolean) :: gT) ({ frames := 1, cells := 0, slots := 0, locals := 12 } : Room) 0 0 [.int v0] σ o τ := by
  refine j_start l hst (own := RJ1) (by decide) rfl (Nat.le_of_ble_eq_true rfl) ?_
  intro p e s m args below meth c C hE hin
  unfold J_J1_canEncode_fc78d at h
  show jW p l e ({ frames := 1, cells := 0, slots := 0, locals := 12 } : Room) s m args below meth c g (jQ below g o τ args s 0 0) 0 0 0 [(0, .int v0)] [] σ
  refine r_iload_n C 1 rfl 0 dJ1_canEncode_fc78d_0 rfl ?_
  refine r_sipush C (v := (255 : Int32)) 4 rfl dJ1_canEncode_fc78d_1 (by decide) ?_
  refine r_icmp_gt C 11 7 rfl dJ1_canEncode_fc78d_4 (by decide) h (fun h => ?_) (fun h => ?_)
  · refine r_iconst C (v := (0 : Int32)) 12 rfl dJ1_canEncode_fc78d_11 (by decide) ?_
    exact r_zret C (fun _ => rfl) dJ1_canEncode_fc78d_12 (Nat.le_refl _) (Nat.le_refl _) h
  · refine r_iconst C (v := (1 : Int32)) 8 rfl dJ1_canEncode_fc78d_7 (by decide) ?_
    refine r_goto C 12 dJ1_canEncode_fc78d_8 (by decide) ?_
    exact r_zret C (fun _ => rfl) dJ1_canEncode_fc78d_12 (Nat.le_refl _) (Nat.le_refl _) h

noncomputable def J_J5_append_3fe6f  (a0 : Nat) (v1 : Int32) (σ : Hp) : jR := jgI σ a0 6 3 (fun x1 => jcv σ a0 6 (J_J5_ensureCapacityInternal_d00df a0 (x1 + ((1 : Int32))) σ) (fun w3 t2 => jvV w3 (jcv t2 a0 6 (J_J5_isLatin1_aae02 a0 t2) (fun w5 t4 => jvI w5 (fun x6 => (if x6 = 0 then none else jcs (J_J1_canEncode_fc78d v1 t4) (fun w8 t7 => jvI w8 (fun x9 => (if x9 = 0 then none else jgR t7 a0 6 0 (fun r10 => jgI t7 a0 6 3 (fun x11 => jpI t7 a0 6 3 (x11 + ((1 : Int32))) (fun t12 => jdr r10 (fun b13 => jsB t12 b13 x11 v1.toInt8.toInt32 (fun t14 => some (.inl (some (.ref a0)), t14))))))))) (fun E t => some (.inr E, t))))) (fun E t => some (.inr E, t)))) (fun E t => some (.inr E, t)))
set_option maxHeartbeats 4000000 in
set_option maxRecDepth 100000 in
theorem k_J5_append_3fe6f (l : Launch) (hst : l.stackTraces = false) (g : jG)   (a0 : Nat) (v1 : Int32) (σ : Hp) (o : jO) (τ : Hp) (h : J_J5_append_3fe6f a0 v1 σ = some (o, τ)) : jMet l g yJ5_append_3fe6f (Cond.code yJ5_append_3fe6f cJ5_append_3fe6f 2 (some (FieldType.object "java/lang/AbstractStringBuilder")) :: gT) ({ frames := 4, cells := 1, slots := 1000, locals := 100 } : Room) 1 1000 [.ref a0, .int v1] σ o τ := by
  refine j_start l hst (own := RJ5) (by decide) rfl (Nat.le_of_ble_eq_true rfl) ?_
  intro p e s m args below meth c C hE hin
  unfold J_J5_append_3fe6f at h
  show jW p l e ({ frames := 4, cells := 1, slots := 1000, locals := 100 } : Room) s m args below meth c g (jQ below g o τ args s 1 1000) 0 0 0 [(0, .ref a0), (1, .int v1)] [] σ
  refine r_aload_n C (x := some a0) 1 rfl 0 dJ5_append_3fe6f_0 rfl ?_
  refine r_aload_n C (x := some a0) 2 rfl 0 dJ5_append_3fe6f_1 rfl ?_
  refine r_getI C 5 rfl ff_J5_79 dJ5_append_3fe6f_2 h (fun x1 h => ?_)
  refine r_iconst C (v := (1 : Int32)) 6 rfl dJ5_append_3fe6f_5 (by decide) ?_
  refine r_iadd C 7 rfl dJ5_append_3fe6f_6 ?_
  refine r_callU C (ci := 6) mu_J5_100 rfl 10 1 1000 rfl rfl rfl dJ5_append_3fe6f_7 rfl rfl (As := [.int (x1 + ((1 : Int32)))]) rfl rfl (Nat.le_of_ble_eq_true rfl) ⟨Nat.le_of_ble_eq_true rfl, Nat.le_of_ble_eq_true rfl⟩ ⟨(Nat.le_of_ble_eq_true rfl), (Nat.le_of_ble_eq_true rfl)⟩ (fun o t h => k_J5_ensureCapacityInternal_d00df l hst g _ _ _ o t h) h (fun w3 t2 h => ?_) (fun E t h => r_out C (fun x hx => (hE x hx).elim) (Nat.le_refl _) (Nat.le_refl _) h)
  replace h := jvV_some h
  obtain ⟨rfl, h⟩ := h
  refine r_aload_n C (x := some a0) 11 rfl 0 dJ5_append_3fe6f_10 rfl ?_
  refine r_callU C (ci := 6) mu_J5_83 rfl 14 1 1000 rfl rfl rfl dJ5_append_3fe6f_11 rfl rfl (As := []) rfl rfl (Nat.le_of_ble_eq_true rfl) ⟨Nat.le_of_ble_eq_true rfl, Nat.le_of_ble_eq_true rfl⟩ ⟨(Nat.le_of_ble_eq_true rfl), (Nat.le_of_ble_eq_true rfl)⟩ (fun o t h => k_J5_isLatin1_aae02 l hst g _ _ o t h) h (fun w5 t4 h => ?_) (fun E t h => r_out C (fun x hx => (hE x hx).elim) (Nat.le_refl _) (Nat.le_refl _) h)
  replace h := jvI_some h
  obtain ⟨x6, rfl, h⟩ := h
  refine r_if_eq C 45 17 rfl dJ5_append_3fe6f_14 (by decide) h (fun h => ?_) (fun h => ?_)
  · cases h
  · refine r_iload_n C 18 rfl 1 dJ5_append_3fe6f_17 rfl ?_
    refine r_callS C mm_J5_191 st_yJ1_canEncode_fc78d 21 1 1000 rfl rfl rfl dJ5_append_3fe6f_18 rfl rfl (As := [.int v1]) rfl rfl (Nat.le_of_ble_eq_true rfl) ⟨Nat.le_of_ble_eq_true rfl, Nat.le_of_ble_eq_true rfl⟩ ⟨(Nat.le_of_ble_eq_true rfl), (Nat.le_of_ble_eq_true rfl)⟩ (fun o t h => k_J1_canEncode_fc78d l hst g _ _ o t h) h (fun w8 t7 h => ?_) (fun E t h => r_out C (fun x hx => (hE x hx).elim) (Nat.le_refl _) (Nat.le_refl _) h)
    replace h := jvI_some h
    obtain ⟨x9, rfl, h⟩ := h
    refine r_if_eq C 45 24 rfl dJ5_append_3fe6f_21 (by decide) h (fun h => ?_) (fun h => ?_)
    · cases h
    · refine r_aload_n C (x := some a0) 25 rfl 0 dJ5_append_3fe6f_24 rfl ?_
      refine r_getR C 28 rfl ff_J5_15 dJ5_append_3fe6f_25 h (fun r10 h => ?_)
      refine r_aload_n C (x := some a0) 29 rfl 0 dJ5_append_3fe6f_28 rfl ?_
      refine r_dup C 30 rfl dJ5_append_3fe6f_29 rfl ?_
      refine r_getI C 33 rfl ff_J5_79 dJ5_append_3fe6f_30 h (fun x11 h => ?_)
      refine r_dup_x1 C 34 rfl dJ5_append_3fe6f_33 rfl rfl ?_
      refine r_iconst C (v := (1 : Int32)) 35 rfl dJ5_append_3fe6f_34 (by decide) ?_
      refine r_iadd C 36 rfl dJ5_append_3fe6f_35 ?_
      refine r_putI C 39 rfl fp_J5_79 dJ5_append_3fe6f_36 h (fun t12 h => ?_)
      refine r_iload_n C 40 rfl 1 dJ5_append_3fe6f_39 rfl ?_
      refine r_i2b C 41 rfl dJ5_append_3fe6f_40 ?_
      replace h := jdr_some h
      obtain ⟨b13, hr, h⟩ := h
      rw [hr]
      refine r_bast C 42 rfl dJ5_append_3fe6f_41 h (fun t14 h => ?_)
      refine r_goto C 75 dJ5_append_3fe6f_42 (by decide) ?_
      refine r_aload_n C (x := some a0) 76 rfl 0 dJ5_append_3fe6f_75 rfl ?_
      exact r_aret C (Or.inl ⟨_, rfl⟩) dJ5_append_3fe6f_76 (Nat.le_refl _) (Nat.le_refl _) h

noncomputable def J_J5_getValue_6d5f1  (a0 : Nat) (σ : Hp) : jR := jgR σ a0 6 0 (fun r1 => jdr r1 (fun b2 => some (.inl (some (.ref b2)), σ)))
set_option maxHeartbeats 4000000 in
set_option maxRecDepth 100000 in
theorem k_J5_getValue_6d5f1 (l : Launch) (hst : l.stackTraces = false) (g : jG)   (a0 : Nat) (σ : Hp) (o : jO) (τ : Hp) (h : J_J5_getValue_6d5f1 a0 σ = some (o, τ)) : jMet l g yJ5_getValue_6d5f1 (Cond.code yJ5_getValue_6d5f1 cJ5_getValue_6d5f1 1 (some (FieldType.array FieldType.byte)) :: gT) ({ frames := 1, cells := 0, slots := 0, locals := 12 } : Room) 0 0 [.ref a0] σ o τ := by
  refine j_start l hst (own := RJ5) (by decide) rfl (Nat.le_of_ble_eq_true rfl) ?_
  intro p e s m args below meth c C hE hin
  unfold J_J5_getValue_6d5f1 at h
  show jW p l e ({ frames := 1, cells := 0, slots := 0, locals := 12 } : Room) s m args below meth c g (jQ below g o τ args s 0 0) 0 0 0 [(0, .ref a0)] [] σ
  refine r_aload_n C (x := some a0) 1 rfl 0 dJ5_getValue_6d5f1_0 rfl ?_
  refine r_getR C 4 rfl ff_J5_15 dJ5_getValue_6d5f1_1 h (fun r1 h => ?_)
  replace h := jdr_some h
  obtain ⟨b2, hr, h⟩ := h
  rw [hr]
  exact r_aret C (Or.inr ⟨_, rfl⟩) dJ5_getValue_6d5f1_4 (Nat.le_refl _) (Nat.le_refl _) h

noncomputable def J_J4_length_8abf5  (a0 : Nat) (σ : Hp) : jR := jcv σ a0 6 (J_J5_length_8abf5 a0 σ) (fun w2 t1 => jvI w2 (fun x3 => some (.inl (some (.int x3)), t1))) (fun E t => some (.inr E, t))
set_option maxHeartbeats 4000000 in
set_option maxRecDepth 100000 in
theorem k_J4_length_8abf5 (l : Launch) (hst : l.stackTraces = false) (g : jG)   (a0 : Nat) (σ : Hp) (o : jO) (τ : Hp) (h : J_J4_length_8abf5 a0 σ = some (o, τ)) : jMet l g yJ4_length_8abf5 (Cond.code yJ4_length_8abf5 cJ4_length_8abf5 1 (some FieldType.int) :: gT) ({ frames := 2, cells := 0, slots := 0, locals := 32 } : Room) 0 0 [.ref a0] σ o τ := by
  refine j_start l hst (own := RJ4) (by decide) rfl (Nat.le_of_ble_eq_true rfl) ?_
  intro p e s m args below meth c C hE hin
  unfold J_J4_length_8abf5 at h
  show jW p l e ({ frames := 2, cells := 0, slots := 0, locals := 32 } : Room) s m args below meth c g (jQ below g o τ args s 0 0) 0 0 0 [(0, .ref a0)] [] σ
  refine r_aload_n C (x := some a0) 1 rfl 0 dJ4_length_8abf5_0 rfl ?_
  refine r_callSU C (ci := 6) ms_J4_343 rfl 4 0 0 rfl rfl rfl dJ4_length_8abf5_1 rfl rfl (As := []) rfl rfl (Nat.le_of_ble_eq_true rfl) ⟨Nat.le_of_ble_eq_true rfl, Nat.le_of_ble_eq_true rfl⟩ ⟨(Nat.le_of_ble_eq_true rfl), (Nat.le_of_ble_eq_true rfl)⟩ (fun o t h => k_J5_length_8abf5 l hst g _ _ o t h) h (fun w2 t1 h => ?_) (fun E t h => r_out C (fun x hx => (hE x hx).elim) (Nat.le_refl _) (Nat.le_refl _) h)
  replace h := jvI_some h
  obtain ⟨x3, rfl, h⟩ := h
  exact r_iret C dJ4_length_8abf5_4 (Nat.le_refl _) (Nat.le_refl _) h

noncomputable def J_J7_checkLength_df160  (v0 : Int32) (v1 : Int32) (σ : Hp) : jR := (if v0 ≤ v1 then some (.inl none, σ) else none)
set_option maxHeartbeats 4000000 in
set_option maxRecDepth 100000 in
theorem k_J7_checkLength_df160 (l : Launch) (hst : l.stackTraces = false) (g : jG)   (v0 : Int32) (v1 : Int32) (σ : Hp) (o : jO) (τ : Hp) (h : J_J7_checkLength_df160 v0 v1 σ = some (o, τ)) : jMet l g yJ7_checkLength_df160 (Cond.code yJ7_checkLength_df160 cJ7_checkLength_df160 2 none :: gT) ({ frames := 1, cells := 0, slots := 0, locals := 12 } : Room) 0 0 [.int v0, .int v1] σ o τ := by
  refine j_start l hst (own := RJ7) (by decide) rfl (Nat.le_of_ble_eq_true rfl) ?_
  intro p e s m args below meth c C hE hin
  unfold J_J7_checkLength_df160 at h
  show jW p l e ({ frames := 1, cells := 0, slots := 0, locals := 12 } : Room) s m args below meth c g (jQ below g o τ args s 0 0) 0 0 0 [(0, .int v0), (1, .int v1)] [] σ
  refine r_iload_n C 1 rfl 1 dJ7_checkLength_df160_0 rfl ?_
  refine r_iload_n C 2 rfl 0 dJ7_checkLength_df160_1 rfl ?_
  refine r_icmp_ge C 37 5 rfl dJ7_checkLength_df160_2 (by decide) h (fun h => ?_) (fun h => ?_)
  · exact r_vret C dJ7_checkLength_df160_37 (Nat.le_refl _) (Nat.le_refl _) h
  · cases h

noncomputable def J_J7_copyOfRangeByte_39247  (a0 : Nat) (v1 : Int32) (v2 : Int32) (σ : Hp) : jR := jcs (J_J7_checkLength_df160 v1 v2 σ) (fun w2 t1 => jvV w2 (jnA t1 6 1000 (v2 - v1) (fun b3 t4 => jalB t4 a0 (fun x5 => jcpB t4 a0 b3 v1 ((0 : Int32)) (if (v2 - v1) < (x5 - v1) then (v2 - v1) else (x5 - v1)) (fun t6 => some (.inl (some (.ref b3)), t6)))))) (fun E t => some (.inr E, t))
set_option maxHeartbeats 4000000 in
set_option maxRecDepth 100000 in
theorem k_J7_copyOfRangeByte_39247 (l : Launch) (hst : l.stackTraces = false) (g : jG)   (a0 : Nat) (v1 : Int32) (v2 : Int32) (σ : Hp) (o : jO) (τ : Hp) (h : J_J7_copyOfRangeByte_39247 a0 v1 v2 σ = some (o, τ)) : jMet l g yJ7_copyOfRangeByte_39247 (Cond.code yJ7_copyOfRangeByte_39247 cJ7_copyOfRangeByte_39247 5 (some (FieldType.array FieldType.byte)) :: gT) ({ frames := 2, cells := 1, slots := 1000, locals := 40 } : Room) 1 1000 [.ref a0, .int v1, .int v2] σ o τ := by
  refine j_start l hst (own := RJ7) (by decide) rfl (Nat.le_of_ble_eq_true rfl) ?_
  intro p e s m args below meth c C hE hin
  unfold J_J7_copyOfRangeByte_39247 at h
  show jW p l e ({ frames := 2, cells := 1, slots := 1000, locals := 40 } : Room) s m args below meth c g (jQ below g o τ args s 1 1000) 0 0 0 [(0, .ref a0), (1, .int v1), (2, .int v2)] [] σ
  refine r_iload_n C 1 rfl 1 dJ7_copyOfRangeByte_39247_0 rfl ?_
  refine r_iload_n C 2 rfl 2 dJ7_copyOfRangeByte_39247_1 rfl ?_
  refine r_callS C mm_J7_343 st_yJ7_checkLength_df160 5 0 0 rfl rfl rfl dJ7_copyOfRangeByte_39247_2 rfl rfl (As := [.int v1, .int v2]) rfl rfl (Nat.le_of_ble_eq_true rfl) ⟨Nat.le_of_ble_eq_true rfl, Nat.le_of_ble_eq_true rfl⟩ ⟨(Nat.le_of_ble_eq_true rfl), (Nat.le_of_ble_eq_true rfl)⟩ (fun o t h => k_J7_checkLength_df160 l hst g _ _ _ o t h) h (fun w2 t1 h => ?_) (fun E t h => r_out C (fun x hx => (hE x hx).elim) (Nat.le_of_ble_eq_true rfl) (Nat.le_of_ble_eq_true rfl) h)
  replace h := jvV_some h
  obtain ⟨rfl, h⟩ := h
  refine r_iload_n C 6 rfl 2 dJ7_copyOfRangeByte_39247_5 rfl ?_
  refine r_iload_n C 7 rfl 1 dJ7_copyOfRangeByte_39247_6 rfl ?_
  refine r_isub C 8 rfl dJ7_copyOfRangeByte_39247_7 ?_
  refine r_istore_n C 9 rfl [(3, .int (v2 - v1)), (0, .ref a0), (1, .int v1), (2, .int v2)] dJ7_copyOfRangeByte_39247_8 (by decide) rfl ?_
  refine r_iload_n C 10 rfl 0 dJ7_copyOfRangeByte_39247_9 rfl ?_
  refine r_newB C 12 rfl ac_byte dJ7_copyOfRangeByte_39247_10 (by decide) (Nat.le_of_ble_eq_true rfl) (Nat.le_of_ble_eq_true rfl) h (fun b3 t4 h => ?_)
  refine r_astore C (x := some b3) 14 rfl [(4, .ref b3), (3, .int (v2 - v1)), (0, .ref a0), (1, .int v1), (2, .int v2)] dJ7_copyOfRangeByte_39247_12 (by decide) rfl ?_
  refine r_aload_n C (x := some a0) 15 rfl 2 dJ7_copyOfRangeByte_39247_14 rfl ?_
  refine r_iload_n C 16 rfl 3 dJ7_copyOfRangeByte_39247_15 rfl ?_
  refine r_aload C (x := some b3) 18 rfl 0 dJ7_copyOfRangeByte_39247_16 rfl ?_
  refine r_iconst C (v := (0 : Int32)) 19 rfl dJ7_copyOfRangeByte_39247_18 (by decide) ?_
  refine r_aload_n C (x := some a0) 20 rfl 2 dJ7_copyOfRangeByte_39247_19 rfl ?_
  refine r_alenB C 21 rfl dJ7_copyOfRangeByte_39247_20 h (fun x5 h => ?_)
  refine r_iload_n C 22 rfl 3 dJ7_copyOfRangeByte_39247_21 rfl ?_
  refine r_isub C 23 rfl dJ7_copyOfRangeByte_39247_22 ?_
  refine r_iload_n C 24 rfl 1 dJ7_copyOfRangeByte_39247_23 rfl ?_
  refine r_mmin C 27 rfl ml_J7_304 st_mmin ini_m cd_mmin dJ7_copyOfRangeByte_39247_24 (Nat.le_of_ble_eq_true rfl) (Nat.le_of_ble_eq_true rfl) (Nat.le_refl _) (Nat.le_refl _) ?_
  refine r_copyB C 30 rfl ml_J7_150 nat_copy st_cp ini_sy dJ7_copyOfRangeByte_39247_27 (Nat.le_of_ble_eq_true rfl) (by decide) h (fun t6 h => ?_)
  refine r_aload C (x := some b3) 32 rfl 0 dJ7_copyOfRangeByte_39247_30 rfl ?_
  exact r_aret C (Or.inr ⟨_, rfl⟩) dJ7_copyOfRangeByte_39247_32 (Nat.le_refl _) (Nat.le_refl _) h

noncomputable def J_J7_copyOfRange_39247  (a0 : Nat) (v1 : Int32) (v2 : Int32) (σ : Hp) : jR := jj (fun (t1 : Hp) => jcs (J_J7_copyOfRangeByte_39247 a0 v1 v2 t1) (fun w3 t2 => jvA w3 (fun b4 => some (.inl (some (.ref b4)), t2))) (fun E t => some (.inr E, t))) (fun j10 => (if v1 = 0 then jalB σ a0 (fun x5 => (if v2 = x5 then jcl σ a0 1000 (fun b6 t7 => jckB t7 b6 (some (.inl (some (.ref b6)), t7))) else j10 σ)) else j10 σ))
set_option maxHeartbeats 4000000 in
set_option maxRecDepth 100000 in
theorem k_J7_copyOfRange_39247 (l : Launch) (hst : l.stackTraces = false) (g : jG)   (a0 : Nat) (v1 : Int32) (v2 : Int32) (σ : Hp) (o : jO) (τ : Hp) (h : J_J7_copyOfRange_39247 a0 v1 v2 σ = some (o, τ)) : jMet l g yJ7_copyOfRange_39247 (Cond.code yJ7_copyOfRange_39247 cJ7_copyOfRange_39247 3 (some (FieldType.array FieldType.byte)) :: gT) ({ frames := 3, cells := 1, slots := 1000, locals := 64 } : Room) 1 1000 [.ref a0, .int v1, .int v2] σ o τ := by
  refine j_start l hst (own := RJ7) (by decide) rfl (Nat.le_of_ble_eq_true rfl) ?_
  intro p e s m args below meth c C hE hin
  unfold J_J7_copyOfRange_39247 at h
  show jW p l e ({ frames := 3, cells := 1, slots := 1000, locals := 64 } : Room) s m args below meth c g (jQ below g o τ args s 1 1000) 0 0 0 [(0, .ref a0), (1, .int v1), (2, .int v2)] [] σ
  refine r_iload_n C 1 rfl 1 dJ7_copyOfRange_39247_0 rfl ?_
  obtain ⟨j10, hj10E, h⟩ := jj_some h
  have hj10 : ∀ (t1 : Hp), j10 t1 = some (o, τ) → jW p l e ({ frames := 3, cells := 1, slots := 1000, locals := 64 } : Room) s m args below meth c g (jQ below g o τ args s 1 1000) 0 0 10 [(0, .ref a0), (1, .int v1), (2, .int v2)] [] t1 := by
    subst hj10E
    intro t1 h
    refine r_aload_n C (x := some a0) 11 rfl 0 dJ7_copyOfRange_39247_10 rfl ?_
    refine r_iload_n C 12 rfl 1 dJ7_copyOfRange_39247_11 rfl ?_
    refine r_iload_n C 13 rfl 2 dJ7_copyOfRange_39247_12 rfl ?_
    refine r_callS C mm_J7_339 st_yJ7_copyOfRangeByte_39247 16 1 1000 rfl rfl rfl dJ7_copyOfRange_39247_13 rfl rfl (As := [.ref a0, .int v1, .int v2]) rfl rfl (Nat.le_of_ble_eq_true rfl) ⟨Nat.le_of_ble_eq_true rfl, Nat.le_of_ble_eq_true rfl⟩ ⟨(Nat.le_of_ble_eq_true rfl), (Nat.le_of_ble_eq_true rfl)⟩ (fun o t h => k_J7_copyOfRangeByte_39247 l hst g _ _ _ _ o t h) h (fun w3 t2 h => ?_) (fun E t h => r_out C (fun x hx => (hE x hx).elim) (Nat.le_refl _) (Nat.le_refl _) h)
    replace h := jvA_some h
    obtain ⟨b4, rfl, h⟩ := h
    exact r_aret C (Or.inr ⟨_, rfl⟩) dJ7_copyOfRange_39247_16 (Nat.le_refl _) (Nat.le_refl _) h
  clear hj10E
  refine r_if_ne C 10 4 rfl dJ7_copyOfRange_39247_1 (by decide) h (fun h => ?_) (fun h => ?_)
  · exact hj10 σ h
  · refine r_iload_n C 5 rfl 2 dJ7_copyOfRange_39247_4 rfl ?_
    refine r_aload_n C (x := some a0) 6 rfl 0 dJ7_copyOfRange_39247_5 rfl ?_
    refine r_alenB C 7 rfl dJ7_copyOfRange_39247_6 h (fun x5 h => ?_)
    refine r_icmp_eq C 17 10 rfl dJ7_copyOfRange_39247_7 (by decide) h (fun h => ?_) (fun h => ?_)
    · refine r_aload_n C (x := some a0) 18 rfl 0 dJ7_copyOfRange_39247_17 rfl ?_
      refine r_clone C 21 rfl ml_J7_310 dJ7_copyOfRange_39247_18 (Nat.le_of_ble_eq_true rfl) (by decide) (Nat.le_of_ble_eq_true rfl) (Nat.le_of_ble_eq_true rfl) h (fun b6 t7 h => ?_)
      refine r_ckB C 24 rfl cl_J7_311 dJ7_copyOfRange_39247_21 h (fun h => ?_)
      exact r_aret C (Or.inr ⟨_, rfl⟩) dJ7_copyOfRange_39247_24 (Nat.le_refl _) (Nat.le_refl _) h
    · exact hj10 σ h

noncomputable def J_J0_init_db425  (a0 : Nat) (a1 : Nat) (a2 : Option Nat) (σ : Hp) : jR := jcv σ a1 6 (J_J5_getValue_6d5f1 a1 σ) (fun w2 t1 => jvA w2 (fun b3 => jcv t1 a1 6 (J_J4_length_8abf5 a1 t1) (fun w5 t4 => jvI w5 (fun x6 => jcv t4 a1 6 (J_J5_isLatin1_aae02 a1 t4) (fun w8 t7 => jvI w8 (fun x9 => (if x9 = 0 then none else jpI t7 a0 7 1 0 (fun t10 => jcs (J_J7_copyOfRange_39247 b3 ((0 : Int32)) x6 t10) (fun w12 t11 => jvA w12 (fun b13 => jpR t11 a0 7 0 (some b13) (fun t14 => some (.inl none, t14)))) (fun E t => some (.inr E, t)))))) (fun E t => some (.inr E, t)))) (fun E t => some (.inr E, t)))) (fun E t => some (.inr E, t))
set_option maxHeartbeats 4000000 in
set_option maxRecDepth 100000 in
theorem k_J0_init_db425 (l : Launch) (hst : l.stackTraces = false) (g : jG)   (a0 : Nat) (a1 : Nat) (a2 : Option Nat) (σ : Hp) (o : jO) (τ : Hp) (h : J_J0_init_db425 a0 a1 a2 σ = some (o, τ)) : jMet l g yJ0_init_db425 (Cond.code yJ0_init_db425 cJ0_init_db425 5 none :: gT) ({ frames := 4, cells := 1, slots := 1000, locals := 86 } : Room) 1 1000 [.ref a0, .ref a1, va_rf a2] σ o τ := by
  refine j_start l hst (own := RJ0) (by decide) rfl (by cases a2 <;> exact Nat.le_of_ble_eq_true rfl) ?_
  intro p e s m args below meth c C hE hin
  unfold J_J0_init_db425 at h
  rw [show lv_args 0 [.ref a0, .ref a1, va_rf a2] = [(0, .ref a0), (1, .ref a1), (2, va_rf a2)] by cases a2 <;> rfl]
  show jW p l e ({ frames := 4, cells := 1, slots := 1000, locals := 86 } : Room) s m args below meth c g (jQ below g o τ args s 1 1000) 0 0 0 [(0, .ref a0), (1, .ref a1), (2, va_rf a2)] [] σ
  refine r_lv [0, 1] rfl ?_
  refine r_aload_n C (x := some a0) 1 rfl 0 dJ0_init_db425_0 rfl ?_
  refine r_objInit C 4 rfl ml_J0_1 im_oi cd_oi dJ0_init_db425_1 (Nat.le_of_ble_eq_true rfl) (Nat.le_of_ble_eq_true rfl) ?_
  refine r_aload_n C (x := some a1) 5 rfl 1 dJ0_init_db425_4 rfl ?_
  refine r_callU C (ci := 6) mu_J0_552 rfl 8 0 0 rfl rfl rfl dJ0_init_db425_5 rfl rfl (As := []) rfl rfl (Nat.le_of_ble_eq_true rfl) ⟨Nat.le_of_ble_eq_true rfl, Nat.le_of_ble_eq_true rfl⟩ ⟨(Nat.le_of_ble_eq_true rfl), (Nat.le_of_ble_eq_true rfl)⟩ (fun o t h => k_J5_getValue_6d5f1 l hst g _ _ o t h) h (fun w2 t1 h => ?_) (fun E t h => r_out C (fun x hx => (hE x hx).elim) (Nat.le_of_ble_eq_true rfl) (Nat.le_of_ble_eq_true rfl) h)
  replace h := jvA_some h
  obtain ⟨b3, rfl, h⟩ := h
  refine r_astore_n C (x := some b3) 9 rfl [(3, .ref b3), (0, .ref a0), (1, .ref a1)] dJ0_init_db425_8 (by decide) rfl ?_
  refine r_aload_n C (x := some a1) 10 rfl 2 dJ0_init_db425_9 rfl ?_
  refine r_callU C (ci := 6) mu_J0_549 rfl 13 0 0 rfl rfl rfl dJ0_init_db425_10 rfl rfl (As := []) rfl rfl (Nat.le_of_ble_eq_true rfl) ⟨Nat.le_of_ble_eq_true rfl, Nat.le_of_ble_eq_true rfl⟩ ⟨(Nat.le_of_ble_eq_true rfl), (Nat.le_of_ble_eq_true rfl)⟩ (fun o t h => k_J4_length_8abf5 l hst g _ _ o t h) h (fun w5 t4 h => ?_) (fun E t h => r_out C (fun x hx => (hE x hx).elim) (Nat.le_of_ble_eq_true rfl) (Nat.le_of_ble_eq_true rfl) h)
  replace h := jvI_some h
  obtain ⟨x6, rfl, h⟩ := h
  refine r_istore C 15 rfl [(4, .int x6), (3, .ref b3), (0, .ref a0), (1, .ref a1)] dJ0_init_db425_13 (by decide) rfl ?_
  refine r_aload_n C (x := some a1) 16 rfl 3 dJ0_init_db425_15 rfl ?_
  refine r_callU C (ci := 6) mu_J0_1047 rfl 19 0 0 rfl rfl rfl dJ0_init_db425_16 rfl rfl (As := []) rfl rfl (Nat.le_of_ble_eq_true rfl) ⟨Nat.le_of_ble_eq_true rfl, Nat.le_of_ble_eq_true rfl⟩ ⟨(Nat.le_of_ble_eq_true rfl), (Nat.le_of_ble_eq_true rfl)⟩ (fun o t h => k_J5_isLatin1_aae02 l hst g _ _ o t h) h (fun w8 t7 h => ?_) (fun E t h => r_out C (fun x hx => (hE x hx).elim) (Nat.le_of_ble_eq_true rfl) (Nat.le_of_ble_eq_true rfl) h)
  replace h := jvI_some h
  obtain ⟨x9, rfl, h⟩ := h
  refine r_if_eq C 41 22 rfl dJ0_init_db425_19 (by decide) h (fun h => ?_) (fun h => ?_)
  · cases h
  · refine r_aload_n C (x := some a0) 23 rfl 2 dJ0_init_db425_22 rfl ?_
    refine r_iconst C (v := (0 : Int32)) 24 rfl dJ0_init_db425_23 (by decide) ?_
    refine r_putI0F C hin 27 rfl fp_J0_15 dJ0_init_db425_24 h (fun t10 h => ?_)
    refine r_aload_n C (x := some a0) 28 rfl 2 dJ0_init_db425_27 rfl ?_
    refine r_aload_n C (x := some b3) 29 rfl 1 dJ0_init_db425_28 rfl ?_
    refine r_iconst C (v := (0 : Int32)) 30 rfl dJ0_init_db425_29 (by decide) ?_
    refine r_iload C 32 rfl 0 dJ0_init_db425_30 rfl ?_
    refine r_callS C mm_J0_54 st_yJ7_copyOfRange_39247 35 1 1000 rfl rfl rfl dJ0_init_db425_32 rfl rfl (As := [.ref b3, .int ((0 : Int32)), .int x6]) rfl rfl (Nat.le_of_ble_eq_true rfl) ⟨Nat.le_of_ble_eq_true rfl, Nat.le_of_ble_eq_true rfl⟩ ⟨(Nat.le_of_ble_eq_true rfl), (Nat.le_of_ble_eq_true rfl)⟩ (fun o t h => k_J7_copyOfRange_39247 l hst g _ _ _ _ o t h) h (fun w12 t11 h => ?_) (fun E t h => r_out C (fun x hx => (hE x hx).elim) (Nat.le_refl _) (Nat.le_refl _) h)
    replace h := jvA_some h
    obtain ⟨b13, rfl, h⟩ := h
    refine r_putRF C hin (v := (some b13)) 38 rfl fp_J0_9 dJ0_init_db425_35 h (fun t14 h => ?_)
    refine r_goto C 97 dJ0_init_db425_38 (by decide) ?_
    exact r_vret C dJ0_init_db425_97 (Nat.le_refl _) (Nat.le_refl _) h

noncomputable def J_J0_init_81219  (a0 : Nat) (a1 : Nat) (σ : Hp) : jR := jcv σ a0 7 (J_J0_init_db425 a0 a1 none σ) (fun w2 t1 => jvV w2 (some (.inl none, t1))) (fun E t => some (.inr E, t))
set_option maxHeartbeats 4000000 in
set_option maxRecDepth 100000 in
theorem k_J0_init_81219 (l : Launch) (hst : l.stackTraces = false) (g : jG)   (a0 : Nat) (a1 : Nat) (σ : Hp) (o : jO) (τ : Hp) (h : J_J0_init_81219 a0 a1 σ = some (o, τ)) : jMet l g yJ0_init_81219 (Cond.code yJ0_init_81219 cJ0_init_81219 2 none :: gT) ({ frames := 5, cells := 1, slots := 1000, locals := 110 } : Room) 1 1000 [.ref a0, .ref a1] σ o τ := by
  refine j_start l hst (own := RJ0) (by decide) rfl (Nat.le_of_ble_eq_true rfl) ?_
  intro p e s m args below meth c C hE hin
  unfold J_J0_init_81219 at h
  show jW p l e ({ frames := 5, cells := 1, slots := 1000, locals := 110 } : Room) s m args below meth c g (jQ below g o τ args s 1 1000) 0 0 0 [(0, .ref a0), (1, .ref a1)] [] σ
  refine r_aload_n C (x := some a0) 1 rfl 0 dJ0_init_81219_0 rfl ?_
  refine r_aload_n C (x := some a1) 2 rfl 1 dJ0_init_81219_1 rfl ?_
  refine r_aconst C 3 rfl dJ0_init_81219_2 ?_
  refine r_callI C (ci := 7) mm_J0_489 im_yJ0_init_db425 rfl 6 1 1000 rfl rfl rfl dJ0_init_81219_3 rfl rfl (As := [.ref a1, va_rf none]) rfl rfl (Nat.le_of_ble_eq_true rfl) ⟨Nat.le_of_ble_eq_true rfl, Nat.le_of_ble_eq_true rfl⟩ ⟨(Nat.le_of_ble_eq_true rfl), (Nat.le_of_ble_eq_true rfl)⟩ (fun o t h => k_J0_init_db425 l hst g _ _ _ _ o t h) h (fun w2 t1 h => ?_) (fun E t h => r_out C (fun x hx => (hE x hx).elim) (Nat.le_refl _) (Nat.le_refl _) h)
  replace h := jvV_some h
  obtain ⟨rfl, h⟩ := h
  exact r_vret C dJ0_init_81219_6 (Nat.le_refl _) (Nat.le_refl _) h

noncomputable def J_J0_isLatin1_aae02  (a0 : Nat) (σ : Hp) : jR := (if ((1 : Int32)) = 0 then jrt .boolean ((0 : Int32)) σ else jgIs σ a0 (fun x1 => (if x1 = 0 then jrt .boolean ((1 : Int32)) σ else jrt .boolean ((0 : Int32)) σ)))
set_option maxHeartbeats 4000000 in
set_option maxRecDepth 100000 in
theorem k_J0_isLatin1_aae02 (l : Launch) (hst : l.stackTraces = false) (g : jG)   (a0 : Nat) (σ : Hp) (o : jO) (τ : Hp) (h : J_J0_isLatin1_aae02 a0 σ = some (o, τ)) : jMet l g yJ0_isLatin1_aae02 (Cond.code yJ0_isLatin1_aae02 cJ0_isLatin1_aae02 1 (some FieldType.boolean) :: gT) ({ frames := 1, cells := 0, slots := 0, locals := 12 } : Room) 0 0 [.ref a0] σ o τ := by
  refine j_start l hst (own := RJ0) (by decide) rfl (Nat.le_of_ble_eq_true rfl) ?_
  intro p e s m args below meth c C hE hin
  unfold J_J0_isLatin1_aae02 at h
  show jW p l e ({ frames := 1, cells := 0, slots := 0, locals := 12 } : Room) s m args below meth c g (jQ below g o τ args s 0 0) 0 0 0 [(0, .ref a0)] [] σ
  refine r_gets1 C 3 rfl fl_J0_38 dJ0_isLatin1_aae02_0 ?_
  refine r_if_eq C 17 6 rfl dJ0_isLatin1_aae02_3 (by decide) h (fun h => ?_) (fun h => ?_)
  · refine r_iconst C (v := (0 : Int32)) 18 rfl dJ0_isLatin1_aae02_17 (by decide) ?_
    exact r_zret C (fun _ => rfl) dJ0_isLatin1_aae02_18 (Nat.le_refl _) (Nat.le_refl _) h
  · refine r_aload_n C (x := some a0) 7 rfl 0 dJ0_isLatin1_aae02_6 rfl ?_
    refine r_getIs C 10 rfl ff_J0_15 fl_J0_15 dJ0_isLatin1_aae02_7 h (fun x1 h => ?_)
    refine r_if_ne C 17 13 rfl dJ0_isLatin1_aae02_10 (by decide) h (fun h => ?_) (fun h => ?_)
    · refine r_iconst C (v := (0 : Int32)) 18 rfl dJ0_isLatin1_aae02_17 (by decide) ?_
      exact r_zret C (fun _ => rfl) dJ0_isLatin1_aae02_18 (Nat.le_refl _) (Nat.le_refl _) h
    · refine r_iconst C (v := (1 : Int32)) 14 rfl dJ0_isLatin1_aae02_13 (by decide) ?_
      refine r_goto C 18 dJ0_isLatin1_aae02_14 (by decide) ?_
      exact r_zret C (fun _ => rfl) dJ0_isLatin1_aae02_18 (Nat.le_refl _) (Nat.le_refl _) h

noncomputable def J_J3_checkIndex_8e157  (v0 : Int32) (v1 : Int32) (a2 : Option Nat) (σ : Hp) : jR := (if v0 < 0 then none else (if v0 < v1 then some (.inl (some (.int v0)), σ) else none))
set_option maxHeartbeats 4000000 in
set_option maxRecDepth 100000 in
theorem k_J3_checkIndex_8e157 (l : Launch) (hst : l.stackTraces = false) (g : jG)   (v0 : Int32) (v1 : Int32) (a2 : Option Nat) (σ : Hp) (o : jO) (τ : Hp) (h : J_J3_checkIndex_8e157 v0 v1 a2 σ = some (o, τ)) : jMet l g yJ3_checkIndex_8e157 (Cond.code yJ3_checkIndex_8e157 cJ3_checkIndex_8e157 3 (some FieldType.int) :: gT) ({ frames := 1, cells := 0, slots := 0, locals := 12 } : Room) 0 0 [.int v0, .int v1, va_rf a2] σ o τ := by
  refine j_start l hst (own := RJ3) (by decide) rfl (by cases a2 <;> exact Nat.le_of_ble_eq_true rfl) ?_
  intro p e s m args below meth c C hE hin
  unfold J_J3_checkIndex_8e157 at h
  rw [show lv_args 0 [.int v0, .int v1, va_rf a2] = [(0, .int v0), (1, .int v1), (2, va_rf a2)] by cases a2 <;> rfl]
  show jW p l e ({ frames := 1, cells := 0, slots := 0, locals := 12 } : Room) s m args below meth c g (jQ below g o τ args s 0 0) 0 0 0 [(0, .int v0), (1, .int v1), (2, va_rf a2)] [] σ
  refine r_iload_n C 1 rfl 0 dJ3_checkIndex_8e157_0 rfl ?_
  refine r_if_lt C 9 4 rfl dJ3_checkIndex_8e157_1 (by decide) h (fun h => ?_) (fun h => ?_)
  · cases h
  · refine r_iload_n C 5 rfl 0 dJ3_checkIndex_8e157_4 rfl ?_
    refine r_iload_n C 6 rfl 1 dJ3_checkIndex_8e157_5 rfl ?_
    refine r_icmp_lt C 16 9 rfl dJ3_checkIndex_8e157_6 (by decide) h (fun h => ?_) (fun h => ?_)
    · refine r_iload_n C 17 rfl 0 dJ3_checkIndex_8e157_16 rfl ?_
      exact r_iret C dJ3_checkIndex_8e157_17 (Nat.le_refl _) (Nat.le_refl _) h
    · cases h

noncomputable def J_J0_checkIndex_df160  (v0 : Int32) (v1 : Int32) (σ : Hp) : jR := jcs (J_J3_checkIndex_8e157 v0 v1 none σ) (fun w2 t1 => jvI w2 (fun x3 => some (.inl none, t1))) (fun E t => some (.inr E, t))
set_option maxHeartbeats 4000000 in
set_option maxRecDepth 100000 in
theorem k_J0_checkIndex_df160 (l : Launch) (hst : l.stackTraces = false) (g : jG)   (v0 : Int32) (v1 : Int32) (σ : Hp) (o : jO) (τ : Hp) (h : J_J0_checkIndex_df160 v0 v1 σ = some (o, τ)) : jMet l g yJ0_checkIndex_df160 (Cond.code yJ0_checkIndex_df160 cJ0_checkIndex_df160 2 none :: gT) ({ frames := 2, cells := 0, slots := 0, locals := 34 } : Room) 0 0 [.int v0, .int v1] σ o τ := by
  refine j_start l hst (own := RJ0) (by decide) rfl (Nat.le_of_ble_eq_true rfl) ?_
  intro p e s m args below meth c C hE hin
  unfold J_J0_checkIndex_df160 at h
  show jW p l e ({ frames := 2, cells := 0, slots := 0, locals := 34 } : Room) s m args below meth c g (jQ below g o τ args s 0 0) 0 0 0 [(0, .int v0), (1, .int v1)] [] σ
  refine r_iload_n C 1 rfl 0 dJ0_checkIndex_df160_0 rfl ?_
  refine r_iload_n C 2 rfl 1 dJ0_checkIndex_df160_1 rfl ?_
  refine r_getsF C 5 rfl fl_J0_1053 dJ0_checkIndex_df160_2 ?_
  refine r_callS C mm_J0_1059 st_yJ3_checkIndex_8e157 8 0 0 rfl rfl rfl dJ0_checkIndex_df160_5 rfl rfl (As := [.int v0, .int v1, va_rf (gFm g)]) rfl rfl (Nat.le_of_ble_eq_true rfl) ⟨Nat.le_of_ble_eq_true rfl, Nat.le_of_ble_eq_true rfl⟩ ⟨(Nat.le_of_ble_eq_true rfl), (Nat.le_of_ble_eq_true rfl)⟩ (fun o t h => k_J3_checkIndex_8e157 l hst g _ _ (gFm g) _ o t h) h (fun w2 t1 h => ?_) (fun E t h => r_out C (fun x hx => (hE x hx).elim) (Nat.le_refl _) (Nat.le_refl _) h)
  replace h := jvI_some h
  obtain ⟨x3, rfl, h⟩ := h
  refine r_pop C 9 rfl dJ0_checkIndex_df160_8 rfl ?_
  exact r_vret C dJ0_checkIndex_df160_9 (Nat.le_refl _) (Nat.le_refl _) h

noncomputable def J_J1_charAt_3b067  (a0 : Nat) (v1 : Int32) (σ : Hp) : jR := jalB σ a0 (fun x1 => jcs (J_J0_checkIndex_df160 v1 x1 σ) (fun w3 t2 => jvV w3 (jaB t2 a0 v1 (fun x4 => jrt .char (((x4 &&& ((255 : Int32))).toUInt32 % 65536).toInt32) t2))) (fun E t => some (.inr E, t)))
set_option maxHeartbeats 4000000 in
set_option maxRecDepth 100000 in
theorem k_J1_charAt_3b067 (l : Launch) (hst : l.stackTraces = false) (g : jG)   (a0 : Nat) (v1 : Int32) (σ : Hp) (o : jO) (τ : Hp) (h : J_J1_charAt_3b067 a0 v1 σ = some (o, τ)) : jMet l g yJ1_charAt_3b067 (Cond.code yJ1_charAt_3b067 cJ1_charAt_3b067 2 (some FieldType.char) :: gT) ({ frames := 3, cells := 0, slots := 0, locals := 55 } : Room) 0 0 [.ref a0, .int v1] σ o τ := by
  refine j_start l hst (own := RJ1) (by decide) rfl (Nat.le_of_ble_eq_true rfl) ?_
  intro p e s m args below meth c C hE hin
  unfold J_J1_charAt_3b067 at h
  show jW p l e ({ frames := 3, cells := 0, slots := 0, locals := 55 } : Room) s m args below meth c g (jQ below g o τ args s 0 0) 0 0 0 [(0, .ref a0), (1, .int v1)] [] σ
  refine r_iload_n C 1 rfl 1 dJ1_charAt_3b067_0 rfl ?_
  refine r_aload_n C (x := some a0) 2 rfl 0 dJ1_charAt_3b067_1 rfl ?_
  refine r_alenB C 3 rfl dJ1_charAt_3b067_2 h (fun x1 h => ?_)
  refine r_callS C mm_J1_9 st_yJ0_checkIndex_df160 6 0 0 rfl rfl rfl dJ1_charAt_3b067_3 rfl rfl (As := [.int v1, .int x1]) rfl rfl (Nat.le_of_ble_eq_true rfl) ⟨Nat.le_of_ble_eq_true rfl, Nat.le_of_ble_eq_true rfl⟩ ⟨(Nat.le_of_ble_eq_true rfl), (Nat.le_of_ble_eq_true rfl)⟩ (fun o t h => k_J0_checkIndex_df160 l hst g _ _ _ o t h) h (fun w3 t2 h => ?_) (fun E t h => r_out C (fun x hx => (hE x hx).elim) (Nat.le_refl _) (Nat.le_refl _) h)
  replace h := jvV_some h
  obtain ⟨rfl, h⟩ := h
  refine r_aload_n C (x := some a0) 7 rfl 0 dJ1_charAt_3b067_6 rfl ?_
  refine r_iload_n C 8 rfl 1 dJ1_charAt_3b067_7 rfl ?_
  refine r_bald C 9 rfl dJ1_charAt_3b067_8 h (fun x4 h => ?_)
  refine r_sipush C (v := (255 : Int32)) 12 rfl dJ1_charAt_3b067_9 (by decide) ?_
  refine r_iand C 13 rfl dJ1_charAt_3b067_12 ?_
  refine r_i2c C 14 rfl dJ1_charAt_3b067_13 ?_
  exact r_zret C (fun _ => rfl) dJ1_charAt_3b067_14 (Nat.le_refl _) (Nat.le_refl _) h

noncomputable def J_J0_charAt_5068e  (a0 : Nat) (v1 : Int32) (σ : Hp) : jR := jcvS σ a0 (J_J0_isLatin1_aae02 a0 σ) (fun w2 t1 => jvI w2 (fun x3 => (if x3 = 0 then none else jgRs t1 a0 (fun r4 => jdr r4 (fun b5 => jcs (J_J1_charAt_3b067 b5 v1 t1) (fun w7 t6 => jvI w7 (fun x8 => jrt .char x8 t6)) (fun E t => some (.inr E, t))))))) (fun E t => some (.inr E, t))
set_option maxHeartbeats 4000000 in
set_option maxRecDepth 100000 in
theorem k_J0_charAt_5068e (l : Launch) (hst : l.stackTraces = false) (g : jG)   (a0 : Nat) (v1 : Int32) (σ : Hp) (o : jO) (τ : Hp) (h : J_J0_charAt_5068e a0 v1 σ = some (o, τ)) : jMet l g yJ0_charAt_5068e (Cond.code yJ0_charAt_5068e cJ0_charAt_5068e 2 (some FieldType.char) :: gT) ({ frames := 4, cells := 0, slots := 0, locals := 76 } : Room) 0 0 [.ref a0, .int v1] σ o τ := by
  refine j_start l hst (own := RJ0) (by decide) rfl (Nat.le_of_ble_eq_true rfl) ?_
  intro p e s m args below meth c C hE hin
  unfold J_J0_charAt_5068e at h
  show jW p l e ({ frames := 4, cells := 0, slots := 0, locals := 76 } : Room) s m args below meth c g (jQ below g o τ args s 0 0) 0 0 0 [(0, .ref a0), (1, .int v1)] [] σ
  refine r_aload_n C (x := some a0) 1 rfl 0 dJ0_charAt_5068e_0 rfl ?_
  refine r_callVS C mm_J0_492 im_yJ0_isLatin1_aae02 se_yJ0_isLatin1_aae02 4 0 0 rfl rfl rfl dJ0_charAt_5068e_1 rfl rfl (As := []) rfl rfl (Nat.le_of_ble_eq_true rfl) ⟨Nat.le_of_ble_eq_true rfl, Nat.le_of_ble_eq_true rfl⟩ ⟨(Nat.le_of_ble_eq_true rfl), (Nat.le_of_ble_eq_true rfl)⟩ (fun o t h => k_J0_isLatin1_aae02 l hst g _ _ o t h) h (fun w2 t1 h => ?_) (fun E t h => r_out C (fun x hx => (hE x hx).elim) (Nat.le_refl _) (Nat.le_refl _) h)
  replace h := jvI_some h
  obtain ⟨x3, rfl, h⟩ := h
  refine r_if_eq C 16 7 rfl dJ0_charAt_5068e_4 (by decide) h (fun h => ?_) (fun h => ?_)
  · cases h
  · refine r_aload_n C (x := some a0) 8 rfl 0 dJ0_charAt_5068e_7 rfl ?_
    refine r_getRs C 11 rfl ff_J0_9 fl_J0_9 dJ0_charAt_5068e_8 h (fun r4 h => ?_)
    refine r_iload_n C 12 rfl 1 dJ0_charAt_5068e_11 rfl ?_
    replace h := jdr_some h
    obtain ⟨b5, hr, h⟩ := h
    rw [hr]
    refine r_callS C mm_J0_495 st_yJ1_charAt_3b067 15 0 0 rfl rfl rfl dJ0_charAt_5068e_12 rfl rfl (As := [.ref b5, .int v1]) rfl rfl (Nat.le_of_ble_eq_true rfl) ⟨Nat.le_of_ble_eq_true rfl, Nat.le_of_ble_eq_true rfl⟩ ⟨(Nat.le_of_ble_eq_true rfl), (Nat.le_of_ble_eq_true rfl)⟩ (fun o t h => k_J1_charAt_3b067 l hst g _ _ _ o t h) h (fun w7 t6 h => ?_) (fun E t h => r_out C (fun x hx => (hE x hx).elim) (Nat.le_refl _) (Nat.le_refl _) h)
    replace h := jvI_some h
    obtain ⟨x8, rfl, h⟩ := h
    exact r_zret C (fun _ => rfl) dJ0_charAt_5068e_15 (Nat.le_refl _) (Nat.le_refl _) h

noncomputable def J_J4_init_da8c8  (a0 : Nat) (σ : Hp) : jR := jcv σ a0 6 (J_J5_init_d00df a0 ((16 : Int32)) σ) (fun w2 t1 => jvV w2 (some (.inl none, t1))) (fun E t => some (.inr E, t))
set_option maxHeartbeats 4000000 in
set_option maxRecDepth 100000 in
theorem k_J4_init_da8c8 (l : Launch) (hst : l.stackTraces = false) (g : jG)   (a0 : Nat) (σ : Hp) (o : jO) (τ : Hp) (h : J_J4_init_da8c8 a0 σ = some (o, τ)) : jMet l g yJ4_init_da8c8 (Cond.code yJ4_init_da8c8 cJ4_init_da8c8 1 none :: gT) ({ frames := 2, cells := 1, slots := 1000, locals := 47 } : Room) 1 1000 [.ref a0] σ o τ := by
  refine j_start l hst (own := RJ4) (by decide) rfl (Nat.le_of_ble_eq_true rfl) ?_
  intro p e s m args below meth c C hE hin
  unfold J_J4_init_da8c8 at h
  show jW p l e ({ frames := 2, cells := 1, slots := 1000, locals := 47 } : Room) s m args below meth c g (jQ below g o τ args s 1 1000) 0 0 0 [(0, .ref a0)] [] σ
  refine r_aload_n C (x := some a0) 1 rfl 0 dJ4_init_da8c8_0 rfl ?_
  refine r_bipush C (v := (16 : Int32)) 3 rfl dJ4_init_da8c8_1 (by decide) ?_
  refine r_callI C (ci := 6) mm_J4_1 im_yJ5_init_d00df rfl 6 1 1000 rfl rfl rfl dJ4_init_da8c8_3 rfl rfl (As := [.int ((16 : Int32))]) rfl rfl (Nat.le_of_ble_eq_true rfl) ⟨Nat.le_of_ble_eq_true rfl, Nat.le_of_ble_eq_true rfl⟩ ⟨(Nat.le_of_ble_eq_true rfl), (Nat.le_of_ble_eq_true rfl)⟩ (fun o t h => k_J5_init_d00df l hst g _ _ _ o t h) h (fun w2 t1 h => ?_) (fun E t h => r_out C (fun x hx => (hE x hx).elim) (Nat.le_refl _) (Nat.le_refl _) h)
  replace h := jvV_some h
  obtain ⟨rfl, h⟩ := h
  exact r_vret C dJ4_init_da8c8_6 (Nat.le_refl _) (Nat.le_refl _) h

noncomputable def J_J4_append_15ec4  (a0 : Nat) (a1 : Nat) (σ : Hp) : jR := jcv σ a0 6 (J_J5_append_cf1ce a0 a1 σ) (fun w2 t1 => jvA w2 (fun b3 => some (.inl (some (.ref a0)), t1))) (fun E t => some (.inr E, t))
set_option maxHeartbeats 4000000 in
set_option maxRecDepth 100000 in
theorem k_J4_append_15ec4 (l : Launch) (hst : l.stackTraces = false) (g : jG)   (a0 : Nat) (a1 : Nat) (σ : Hp) (o : jO) (τ : Hp) (h : J_J4_append_15ec4 a0 a1 σ = some (o, τ)) : jMet l g yJ4_append_15ec4 (Cond.code yJ4_append_15ec4 cJ4_append_15ec4 2 (some (FieldType.object "java/lang/StringBuilder")) :: gT) ({ frames := 5, cells := 1, slots := 1000, locals := 122 } : Room) 1 1000 [.ref a0, .ref a1] σ o τ := by
  refine j_start l hst (own := RJ4) (by decide) rfl (Nat.le_of_ble_eq_true rfl) ?_
  intro p e s m args below meth c C hE hin
  unfold J_J4_append_15ec4 at h
  show jW p l e ({ frames := 5, cells := 1, slots := 1000, locals := 122 } : Room) s m args below meth c g (jQ below g o τ args s 1 1000) 0 0 0 [(0, .ref a0), (1, .ref a1)] [] σ
  refine r_aload_n C (x := some a0) 1 rfl 0 dJ4_append_15ec4_0 rfl ?_
  refine r_aload_n C (x := some a1) 2 rfl 1 dJ4_append_15ec4_1 rfl ?_
  refine r_callSU C (ci := 6) ms_J4_29 rfl 5 1 1000 rfl rfl rfl dJ4_append_15ec4_2 rfl rfl (As := [.ref a1]) rfl rfl (Nat.le_of_ble_eq_true rfl) ⟨Nat.le_of_ble_eq_true rfl, Nat.le_of_ble_eq_true rfl⟩ ⟨(Nat.le_of_ble_eq_true rfl), (Nat.le_of_ble_eq_true rfl)⟩ (fun o t h => k_J5_append_cf1ce l hst g _ _ _ o t h) h (fun w2 t1 h => ?_) (fun E t h => r_out C (fun x hx => (hE x hx).elim) (Nat.le_refl _) (Nat.le_refl _) h)
  replace h := jvA_some h
  obtain ⟨b3, rfl, h⟩ := h
  refine r_pop C 6 rfl dJ4_append_15ec4_5 rfl ?_
  refine r_aload_n C (x := some a0) 7 rfl 0 dJ4_append_15ec4_6 rfl ?_
  exact r_aret C (Or.inl ⟨_, rfl⟩) dJ4_append_15ec4_7 (Nat.le_refl _) (Nat.le_refl _) h

noncomputable def J_J4_append_cf468  (a0 : Nat) (v1 : Int32) (σ : Hp) : jR := jcv σ a0 6 (J_J5_append_3fe6f a0 v1 σ) (fun w2 t1 => jvA w2 (fun b3 => some (.inl (some (.ref a0)), t1))) (fun E t => some (.inr E, t))
set_option maxHeartbeats 4000000 in
set_option maxRecDepth 100000 in
theorem k_J4_append_cf468 (l : Launch) (hst : l.stackTraces = false) (g : jG)   (a0 : Nat) (v1 : Int32) (σ : Hp) (o : jO) (τ : Hp) (h : J_J4_append_cf468 a0 v1 σ = some (o, τ)) : jMet l g yJ4_append_cf468 (Cond.code yJ4_append_cf468 cJ4_append_cf468 2 (some (FieldType.object "java/lang/StringBuilder")) :: gT) ({ frames := 5, cells := 1, slots := 1000, locals := 121 } : Room) 1 1000 [.ref a0, .int v1] σ o τ := by
  refine j_start l hst (own := RJ4) (by decide) rfl (Nat.le_of_ble_eq_true rfl) ?_
  intro p e s m args below meth c C hE hin
  unfold J_J4_append_cf468 at h
  show jW p l e ({ frames := 5, cells := 1, slots := 1000, locals := 121 } : Room) s m args below meth c g (jQ below g o τ args s 1 1000) 0 0 0 [(0, .ref a0), (1, .int v1)] [] σ
  refine r_aload_n C (x := some a0) 1 rfl 0 dJ4_append_cf468_0 rfl ?_
  refine r_iload_n C 2 rfl 1 dJ4_append_cf468_1 rfl ?_
  refine r_callSU C (ci := 6) ms_J4_50 rfl 5 1 1000 rfl rfl rfl dJ4_append_cf468_2 rfl rfl (As := [.int v1]) rfl rfl (Nat.le_of_ble_eq_true rfl) ⟨Nat.le_of_ble_eq_true rfl, Nat.le_of_ble_eq_true rfl⟩ ⟨(Nat.le_of_ble_eq_true rfl), (Nat.le_of_ble_eq_true rfl)⟩ (fun o t h => k_J5_append_3fe6f l hst g _ _ _ o t h) h (fun w2 t1 h => ?_) (fun E t h => r_out C (fun x hx => (hE x hx).elim) (Nat.le_refl _) (Nat.le_refl _) h)
  replace h := jvA_some h
  obtain ⟨b3, rfl, h⟩ := h
  refine r_pop C 6 rfl dJ4_append_cf468_5 rfl ?_
  refine r_aload_n C (x := some a0) 7 rfl 0 dJ4_append_cf468_6 rfl ?_
  exact r_aret C (Or.inl ⟨_, rfl⟩) dJ4_append_cf468_7 (Nat.le_refl _) (Nat.le_refl _) h

noncomputable def J_J4_toString_0e30d  (a0 : Nat) (σ : Hp) : jR := jnw σ 7 (fun b1 t2 => jcv t2 b1 7 (J_J0_init_81219 b1 a0 t2) (fun w4 t3 => jvV w4 (some (.inl (some (.ref b1)), t3))) (fun E t => some (.inr E, t)))
set_option maxHeartbeats 4000000 in
set_option maxRecDepth 100000 in
theorem k_J4_toString_0e30d (l : Launch) (hst : l.stackTraces = false) (g : jG)   (a0 : Nat) (σ : Hp) (o : jO) (τ : Hp) (h : J_J4_toString_0e30d a0 σ = some (o, τ)) : jMet l g yJ4_toString_0e30d (Cond.code yJ4_toString_0e30d cJ4_toString_0e30d 1 (some (FieldType.object "java/lang/String")) :: gT) ({ frames := 6, cells := 2, slots := 1004, locals := 131 } : Room) 2 1004 [.ref a0] σ o τ := by
  refine j_start l hst (own := RJ4) (by decide) rfl (Nat.le_of_ble_eq_true rfl) ?_
  intro p e s m args below meth c C hE hin
  unfold J_J4_toString_0e30d at h
  show jW p l e ({ frames := 6, cells := 2, slots := 1004, locals := 131 } : Room) s m args below meth c g (jQ below g o τ args s 2 1004) 0 0 0 [(0, .ref a0)] [] σ
  refine r_new C 3 rfl tyJ0 (ci := 7) rfl tyJ0_ok nw_J0 lay_J0 cl_J4_18 ins_J0 ini_J0 dJ4_toString_0e30d_0 (Nat.le_of_ble_eq_true rfl) (Nat.le_of_ble_eq_true rfl) h (fun b1 t2 h => ?_)
  refine r_dup C 4 rfl dJ4_toString_0e30d_3 rfl ?_
  refine r_aload_n C (x := some a0) 5 rfl 0 dJ4_toString_0e30d_4 rfl ?_
  refine r_callI C (ci := 7) mm_J4_137 im_yJ0_init_81219 rfl 8 2 1004 rfl rfl rfl dJ4_toString_0e30d_5 rfl rfl (As := [.ref a0]) rfl rfl (Nat.le_of_ble_eq_true rfl) ⟨Nat.le_of_ble_eq_true rfl, Nat.le_of_ble_eq_true rfl⟩ ⟨(Nat.le_of_ble_eq_true rfl), (Nat.le_of_ble_eq_true rfl)⟩ (fun o t h => k_J0_init_81219 l hst g _ _ _ o t h) h (fun w4 t3 h => ?_) (fun E t h => r_out C (fun x hx => (hE x hx).elim) (Nat.le_refl _) (Nat.le_refl _) h)
  replace h := jvV_some h
  obtain ⟨rfl, h⟩ := h
  exact r_aret C (Or.inl ⟨_, rfl⟩) dJ4_toString_0e30d_8 (Nat.le_refl _) (Nat.le_refl _) h
