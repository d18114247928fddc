noncomputable def J_L_cell (g : jG)  (v1 : Int32) (σ : Hp) : jR := (if (nI (gSn g)) ≤ v1 then some (.inl (some (.int ((((40503 : Int32)) * v1) + ((5779 : Int32))))), σ) else jzI g v1 (fun x1 => some (.inl (some (.int x1)), σ)))
set_option maxHeartbeats 4000000 in
set_option maxRecDepth 100000 in
theorem k_L_cell (l : Launch) (hst : l.stackTraces = false) (g : jG)   (v1 : Int32) (σ : Hp) (o : jO) (τ : Hp) (h : J_L_cell g v1 σ = some (o, τ)) : jMet l g yL_cell (Cond.code yL_cell cL_cell 2 (some FieldType.int) :: gT) ({ frames := 1, cells := 0, slots := 0, locals := 12 } : Room) 0 0 [.ref (gSa g), .int v1] σ o τ := by
  refine j_start l hst (own := RL) (by decide) rfl (Nat.le_of_ble_eq_true rfl) ?_
  intro p e s m args below meth c C hE hin
  unfold J_L_cell at h
  show jW p l e ({ frames := 1, cells := 0, slots := 0, locals := 12 } : Room) s m args below meth c g (jQ below g o τ args s 0 0) 0 0 0 [(0, .ref (gSa g)), (1, .int v1)] [] σ
  refine r_iload_n C 1 rfl 1 dL_cell_0 rfl ?_
  refine r_aload_n C (x := some (gSa g)) 2 rfl 0 dL_cell_1 rfl ?_
  refine r_zlen C 3 rfl dL_cell_2 ?_
  refine r_icmp_ge C 12 6 rfl dL_cell_3 (by decide) h (fun h => ?_) (fun h => ?_)
  · refine r_ldcI C (v := 40503) 14 rfl dL_cell_12 kc_L_7 ?_
    refine r_iload_n C 15 rfl 1 dL_cell_14 rfl ?_
    refine r_imul C 16 rfl dL_cell_15 ?_
    refine r_sipush C (v := (5779 : Int32)) 19 rfl dL_cell_16 (by decide) ?_
    refine r_iadd C 20 rfl dL_cell_19 ?_
    exact r_iret C dL_cell_20 (Nat.le_refl _) (Nat.le_refl _) h
  · refine r_aload_n C (x := some (gSa g)) 7 rfl 0 dL_cell_6 rfl ?_
    refine r_iload_n C 8 rfl 1 dL_cell_7 rfl ?_
    refine r_zald C 9 rfl dL_cell_8 h (fun x1 h => ?_)
    refine r_goto C 20 dL_cell_9 (by decide) ?_
    exact r_iret C dL_cell_20 (Nat.le_refl _) (Nat.le_refl _) h

noncomputable def J_L_low (g : jG)  (v0 : Int32) (v1 : Int32) (σ : Hp) : jR := jnz v1 (some (.inl (some (.int ((v0 &&& ((2147483647 : Int32))) - (v0 &&& ((2147483647 : Int32))) / v1 * v1))), σ))
set_option maxHeartbeats 4000000 in
set_option maxRecDepth 100000 in
theorem k_L_low (l : Launch) (hst : l.stackTraces = false) (g : jG)   (v0 : Int32) (v1 : Int32) (σ : Hp) (o : jO) (τ : Hp) (h : J_L_low g v0 v1 σ = some (o, τ)) : jMet l g yL_low (Cond.code yL_low cL_low 2 (some FieldType.int) :: gT) ({ frames := 1, cells := 0, slots := 0, locals := 12 } : Room) 0 0 [.int v0, .int v1] σ o τ := by
  refine j_start l hst (own := RL) (by decide) rfl (Nat.le_of_ble_eq_true rfl) ?_
  intro p e s m args below meth c C hE hin
  unfold J_L_low at h
  show jW p l e ({ frames := 1, cells := 0, slots := 0, locals := 12 } : Room) s m args below meth c g (jQ below g o τ args s 0 0) 0 0 0 [(0, .int v0), (1, .int v1)] [] σ
  refine r_iload_n C 1 rfl 0 dL_low_0 rfl ?_
  refine r_ldcI C (v := 2147483647) 3 rfl dL_low_1 kc_L_8 ?_
  refine r_iand C 4 rfl dL_low_3 ?_
  refine r_iload_n C 5 rfl 1 dL_low_4 rfl ?_
  refine r_iremz C 6 rfl dL_low_5 h (fun h => ?_)
  exact r_iret C dL_low_6 (Nat.le_refl _) (Nat.le_refl _) h

noncomputable def J_L_types_L18b (g : jG)  (k85 : Hp → jR) (rc : Nat → Int32 → Int32 → Int32 → Int32 → Hp → jR) (a0 : Nat) (v1 : Int32) (v3 : Int32) (v5 : Int32) (v6 : Int32) (t0 : Hp) : jR := (if v5 ≤ v6 then k85 t0 else jj (fun (x7 : Int32) (t8 : Hp) => jcv t8 a0 5 (J_X5_type a0 x7 t8) (fun w10 t9 => jvI w10 (fun x11 => rc a0 v1 v3 v5 (v6 + 1) t9)) (fun E t => some (.inr E, t))) (fun j74 => jj (fun (t12 : Hp) => jcs (J_L_low g ((((((40503 : Int32)) * (v1 >>> (((5 : Int32)) &&& 31))) + (((2749 : Int32)) * v6)) >>> (((3 : Int32)) &&& 31)) >>> (((2 : Int32)) &&& 31)) ((4 : Int32)) t12) (fun w14 t13 => jvI w14 (fun x15 => jcvS t13 (gKa g 1) (J_J0_charAt_5068e (gKa g 1) x15 t13) (fun w17 t16 => jvI w17 (fun x18 => j74 x18 t16)) (fun E t => some (.inr E, t)))) (fun E t => some (.inr E, t))) (fun j61 => (if v3 = 0 then j61 t0 else jcs (J_L_low g (((((40503 : Int32)) * (v1 >>> (((5 : Int32)) &&& 31))) + (((2749 : Int32)) * v6)) >>> (((3 : Int32)) &&& 31)) ((4 : Int32)) t0) (fun w20 t19 => jvI w20 (fun x21 => (if x21 = 0 then j74 ((32 : Int32)) t19 else j61 t19))) (fun E t => some (.inr E, t))))))
noncomputable def J_L_types_L18 (g : jG)  (k85 : Hp → jR) : Nat → Nat → Int32 → Int32 → Int32 → Int32 → Hp → jR
  | 0 => fun _ _ _ _ _ _ => none
  | n + 1 => J_L_types_L18b g  k85 (J_L_types_L18 g  k85 n)
noncomputable def J_L_types (g : jG)  (a0 : Nat) (v1 : Int32) (v2 : Int32) (v3 : Int32) (σ : Hp) : jR := jcv σ a0 5 (J_X5_clear a0 σ) (fun w2 t1 => jvI w2 (fun x3 => jcs (J_L_low g v1 v2 t1) (fun w5 t4 => jvI w5 (fun x6 => J_L_types_L18 g  (fun (t22 : Hp) => some (.inl none, t22)) jN a0 v1 v3 (((1 : Int32)) + x6) ((0 : Int32)) t4)) (fun E t => some (.inr E, t)))) (fun E t => some (.inr E, t))
set_option maxHeartbeats 4000000 in
set_option maxRecDepth 100000 in
theorem w_L_types_L18 (l : Launch) (hst : l.stackTraces = false) {p : Program} {e : Env} {s : State} {m : MethodId} {args : Array Value} {below : List Frame} {meth : Method} {c : Code} {g : jG} {o : jO} {τ : Hp}  (C : jC p l s m args meth c g RL cL_types 9 none) (hE : ∀ x ∈ c.exceptionTable.toList, False) {KE NE : Nat} (hKE : KE ≤ 100000) (hNE : NE ≤ 600000) (k85 : Hp → jR) (hk85 : ∀ (tx : Hp), k85 tx = some (o, τ) → jW p l e ({ frames := 7, cells := 100000, slots := 600000, locals := 121 } : Room) s m args below meth c g (jQ below g o τ args s 100000 600000) KE NE 85 [] [] tx) : ∀ (n : Nat) (a0 : Nat) (v1 : Int32) (v3 : Int32) (v5 : Int32) (v6 : Int32) (t0 : Hp) (kq nq : Nat), kq + Kc 1 n ≤ KE → nq + Kc 6 n ≤ NE → J_L_types_L18 g  k85 n a0 v1 v3 v5 v6 t0 = some (o, τ) → jW p l e ({ frames := 7, cells := 100000, slots := 600000, locals := 121 } : Room) s m args below meth c g (jQ below g o τ args s 100000 600000) kq nq 18 [(0, .ref a0), (1, .int v1), (3, .int v3), (5, .int v5), (6, .int v6)] [] t0 := by
  intro n
  induction n with
  | zero => intro a0 v1 v3 v5 v6 t0 kq nq _ _ h; cases h
  | succ n ih =>
    intro a0 v1 v3 v5 v6 t0 kq nq hkq hnq h
    rw [Kc_t] at hkq hnq
    have h : J_L_types_L18b g  k85 (J_L_types_L18 g  k85 n) a0 v1 v3 v5 v6 t0 = some (o, τ) := h
    unfold J_L_types_L18b at h
    refine r_iload C 20 rfl 4 dL_types_18 rfl ?_
    refine r_iload C 22 rfl 3 dL_types_20 rfl ?_
    refine r_icmp_ge C 85 25 rfl dL_types_22 (by decide) h (fun h => ?_) (fun h => ?_)
    · refine r_lv [] rfl ?_
      refine r_widen (k' := KE) (n' := NE) (by omega) (by omega) ?_
      exact hk85 t0 h
    · refine r_ldcI C (v := 40503) 27 rfl dL_types_25 kc_L_7 ?_
      refine r_iload_n C 28 rfl 1 dL_types_27 rfl ?_
      refine r_iconst C (v := (5 : Int32)) 29 rfl dL_types_28 (by decide) ?_
      refine r_ishr C 30 rfl dL_types_29 ?_
      refine r_imul C 31 rfl dL_types_30 ?_
      refine r_sipush C (v := (2749 : Int32)) 34 rfl dL_types_31 (by decide) ?_
      refine r_iload C 36 rfl 4 dL_types_34 rfl ?_
      refine r_imul C 37 rfl dL_types_36 ?_
      refine r_iadd C 38 rfl dL_types_37 ?_
      refine r_iconst C (v := (3 : Int32)) 39 rfl dL_types_38 (by decide) ?_
      refine r_ishr C 40 rfl dL_types_39 ?_
      refine r_istore C 42 rfl [(7, .int (((((40503 : Int32)) * (v1 >>> (((5 : Int32)) &&& 31))) + (((2749 : Int32)) * v6)) >>> (((3 : Int32)) &&& 31))), (0, .ref a0), (1, .int v1), (3, .int v3), (5, .int v5), (6, .int v6)] dL_types_40 (by decide) rfl ?_
      refine r_aload_n C (x := some a0) 43 rfl 1 dL_types_42 rfl ?_
      refine r_iload_n C 44 rfl 3 dL_types_43 rfl ?_
      obtain ⟨j74, hj74E, h⟩ := jj_some h
      have hj74 : ∀ (x7 : Int32) (t8 : Hp), j74 x7 t8 = some (o, τ) → jW p l e ({ frames := 7, cells := 100000, slots := 600000, locals := 121 } : Room) s m args below meth c g (jQ below g o τ args s 100000 600000) kq nq 74 [(0, .ref a0), (1, .int v1), (3, .int v3), (5, .int v5), (6, .int v6)] [.int x7, .ref a0] t8 := by
        subst hj74E
        intro x7 t8 h
        refine r_callV C (ci := 5) mm_L_29 im_yX5_type se_yX5_type rfl 77 (kq + 1) (nq + 6) rfl rfl rfl dL_types_74 rfl rfl (As := [.int x7]) rfl rfl (Nat.le_of_ble_eq_true rfl) ⟨Nat.le_of_ble_eq_true rfl, Nat.le_of_ble_eq_true rfl⟩ ⟨(by show kq + 1 ≤ 100000; omega), (by show nq + 6 ≤ 600000; omega)⟩ (fun o t h => k_X5_type l hst g _ _ _ o t h) h (fun w10 t9 h => ?_) (fun E t h => r_out C (fun x hx => (hE x hx).elim) (by omega) (by omega) h)
        replace h := jvI_some h
        obtain ⟨x11, rfl, h⟩ := h
        refine r_istore C 79 rfl [(8, .int x11), (0, .ref a0), (1, .int v1), (3, .int v3), (5, .int v5), (6, .int v6)] dL_types_77 (by decide) rfl ?_
        refine r_iinc C (v := v6 + 1) 82 rfl 5 [(6, .int (v6 + 1)), (8, .int x11), (0, .ref a0), (1, .int v1), (3, .int v3), (5, .int v5)] dL_types_79 rfl rfl (by decide) rfl ?_
        refine r_goto C 18 dL_types_82 (by decide) ?_
        refine r_lv [2, 3, 4, 5, 0] rfl ?_
        exact ih a0 v1 v3 v5 (v6 + 1) t9 (kq + 1) (nq + 6) (by omega) (by omega) h
      clear hj74E
      obtain ⟨j61, hj61E, h⟩ := jj_some h
      have hj61 : ∀ (t12 : Hp), j61 t12 = some (o, τ) → jW p l e ({ frames := 7, cells := 100000, slots := 600000, locals := 121 } : Room) s m args below meth c g (jQ below g o τ args s 100000 600000) kq nq 61 [(0, .ref a0), (1, .int v1), (3, .int v3), (5, .int v5), (6, .int v6), (7, .int (((((40503 : Int32)) * (v1 >>> (((5 : Int32)) &&& 31))) + (((2749 : Int32)) * v6)) >>> (((3 : Int32)) &&& 31)))] [.ref a0] t12 := by
        subst hj61E
        intro t12 h
        refine r_ldcA C 63 rfl dL_types_61 ?_
        refine r_iload C 65 rfl 5 dL_types_63 rfl ?_
        refine r_iconst C (v := (2 : Int32)) 66 rfl dL_types_65 (by decide) ?_
        refine r_ishr C 67 rfl dL_types_66 ?_
        refine r_iconst C (v := (4 : Int32)) 68 rfl dL_types_67 (by decide) ?_
        refine r_callS C mm_L_15 st_yL_low 71 kq nq rfl rfl rfl dL_types_68 rfl rfl (As := [.int ((((((40503 : Int32)) * (v1 >>> (((5 : Int32)) &&& 31))) + (((2749 : Int32)) * v6)) >>> (((3 : Int32)) &&& 31)) >>> (((2 : Int32)) &&& 31)), .int ((4 : Int32))]) rfl rfl (Nat.le_of_ble_eq_true rfl) ⟨Nat.le_of_ble_eq_true rfl, Nat.le_of_ble_eq_true rfl⟩ ⟨(by show kq ≤ 100000; omega), (by show nq ≤ 600000; omega)⟩ (fun o t h => k_L_low l hst g _ _ _ o t h) h (fun w14 t13 h => ?_) (fun E t h => r_out C (fun x hx => (hE x hx).elim) (by omega) (by omega) h)
        replace h := jvI_some h
        obtain ⟨x15, rfl, h⟩ := h
        refine r_callVS C mm_L_23 im_yJ0_charAt_5068e se_yJ0_charAt_5068e 74 kq nq rfl rfl rfl dL_types_71 rfl rfl (As := [.int x15]) rfl rfl (Nat.le_of_ble_eq_true rfl) ⟨Nat.le_of_ble_eq_true rfl, Nat.le_of_ble_eq_true rfl⟩ ⟨(by show kq ≤ 100000; omega), (by show nq ≤ 600000; omega)⟩ (fun o t h => k_J0_charAt_5068e l hst g _ _ _ o t h) h (fun w17 t16 h => ?_) (fun E t h => r_out C (fun x hx => (hE x hx).elim) (by omega) (by omega) h)
        replace h := jvI_some h
        obtain ⟨x18, rfl, h⟩ := h
        refine r_lv [0, 1, 2, 3, 4] rfl ?_
        exact hj74 x18 t16 h
      clear hj61E
      refine r_if_eq C 61 47 rfl dL_types_44 (by decide) h (fun h => ?_) (fun h => ?_)
      · refine r_lv [1, 2, 3, 4, 5, 0] rfl ?_
        exact hj61 t0 h
      · refine r_iload C 49 rfl 0 dL_types_47 rfl ?_
        refine r_iconst C (v := (4 : Int32)) 50 rfl dL_types_49 (by decide) ?_
        refine r_callS C mm_L_15 st_yL_low 53 kq nq rfl rfl rfl dL_types_50 rfl rfl (As := [.int (((((40503 : Int32)) * (v1 >>> (((5 : Int32)) &&& 31))) + (((2749 : Int32)) * v6)) >>> (((3 : Int32)) &&& 31)), .int ((4 : Int32))]) rfl rfl (Nat.le_of_ble_eq_true rfl) ⟨Nat.le_of_ble_eq_true rfl, Nat.le_of_ble_eq_true rfl⟩ ⟨(by show kq ≤ 100000; omega), (by show nq ≤ 600000; omega)⟩ (fun o t h => k_L_low l hst g _ _ _ o t h) h (fun w20 t19 h => ?_) (fun E t h => r_out C (fun x hx => (hE x hx).elim) (by omega) (by omega) h)
        replace h := jvI_some h
        obtain ⟨x21, rfl, h⟩ := h
        refine r_if_ne C 61 56 rfl dL_types_53 (by decide) h (fun h => ?_) (fun h => ?_)
        · refine r_lv [1, 2, 3, 4, 5, 0] rfl ?_
          exact hj61 t19 h
        · refine r_bipush C (v := (32 : Int32)) 58 rfl dL_types_56 (by decide) ?_
          refine r_goto C 74 dL_types_58 (by decide) ?_
          refine r_lv [1, 2, 3, 4, 5] rfl ?_
          exact hj74 ((32 : Int32)) t19 h
set_option maxHeartbeats 4000000 in
set_option maxRecDepth 100000 in
theorem k_L_types (l : Launch) (hst : l.stackTraces = false) (g : jG)   (a0 : Nat) (v1 : Int32) (v2 : Int32) (v3 : Int32) (σ : Hp) (o : jO) (τ : Hp) (h : J_L_types g a0 v1 v2 v3 σ = some (o, τ)) : jMet l g yL_types (Cond.code yL_types cL_types 9 none :: gT) ({ frames := 7, cells := 100000, slots := 600000, locals := 121 } : Room) 100000 600000 [.ref a0, .int v1, .int v2, .int v3] σ o τ := by
  refine j_start l hst (own := RL) (by decide) rfl (Nat.le_of_ble_eq_true rfl) ?_
  intro p e s m args below meth c C hE hin
  unfold J_L_types at h
  show jW p l e ({ frames := 7, cells := 100000, slots := 600000, locals := 121 } : Room) s m args below meth c g (jQ below g o τ args s 100000 600000) 0 0 0 [(0, .ref a0), (1, .int v1), (2, .int v2), (3, .int v3)] [] σ
  refine r_aload_n C (x := some a0) 1 rfl 0 dL_types_0 rfl ?_
  refine r_callV C (ci := 5) mm_L_9 im_yX5_clear se_yX5_clear rfl 4 0 0 rfl rfl rfl dL_types_1 rfl rfl (As := []) rfl rfl (Nat.le_of_ble_eq_true rfl) ⟨Nat.le_of_ble_eq_true rfl, Nat.le_of_ble_eq_true rfl⟩ ⟨(Nat.le_of_ble_eq_true rfl), (Nat.le_of_ble_eq_true rfl)⟩ (fun o t h => k_X5_clear l hst g _ _ o t h) h (fun w2 t1 h => ?_) (fun E t h => r_out C (fun x hx => (hE x hx).elim) (Nat.le_of_ble_eq_true rfl) (Nat.le_of_ble_eq_true rfl) h)
  replace h := jvI_some h
  obtain ⟨x3, rfl, h⟩ := h
  refine r_istore C 6 rfl [(4, .int x3), (0, .ref a0), (1, .int v1), (2, .int v2), (3, .int v3)] dL_types_4 (by decide) rfl ?_
  refine r_iconst C (v := (1 : Int32)) 7 rfl dL_types_6 (by decide) ?_
  refine r_iload_n C 8 rfl 2 dL_types_7 rfl ?_
  refine r_iload_n C 9 rfl 3 dL_types_8 rfl ?_
  refine r_callS C mm_L_15 st_yL_low 12 0 0 rfl rfl rfl dL_types_9 rfl rfl (As := [.int v1, .int v2]) rfl rfl (Nat.le_of_ble_eq_true rfl) ⟨Nat.le_of_ble_eq_true rfl, Nat.le_of_ble_eq_true rfl⟩ ⟨(Nat.le_of_ble_eq_true rfl), (Nat.le_of_ble_eq_true rfl)⟩ (fun o t h => k_L_low l hst g _ _ _ o t h) h (fun w5 t4 h => ?_) (fun E t h => r_out C (fun x hx => (hE x hx).elim) (Nat.le_of_ble_eq_true rfl) (Nat.le_of_ble_eq_true rfl) h)
  replace h := jvI_some h
  obtain ⟨x6, rfl, h⟩ := h
  refine r_iadd C 13 rfl dL_types_12 ?_
  refine r_istore C 15 rfl [(5, .int (((1 : Int32)) + x6)), (4, .int x3), (0, .ref a0), (1, .int v1), (2, .int v2), (3, .int v3)] dL_types_13 (by decide) rfl ?_
  refine r_iconst C (v := (0 : Int32)) 16 rfl dL_types_15 (by decide) ?_
  refine r_istore C 18 rfl [(6, .int ((0 : Int32))), (5, .int (((1 : Int32)) + x6)), (4, .int x3), (0, .ref a0), (1, .int v1), (2, .int v2), (3, .int v3)] dL_types_16 (by decide) rfl ?_
  refine r_lv [3, 4, 6, 1, 0] rfl ?_
  refine w_L_types_L18 l hst  C hE (KE := 100000) (NE := 600000) (Nat.le_of_ble_eq_true rfl) (Nat.le_of_ble_eq_true rfl) _ (fun t22 h => ?_) jN a0 v1 v3 (((1 : Int32)) + x6) ((0 : Int32)) t4 0 0 (by rw [show Kc 1 jN = 100000 from by decide +kernel]; exact Nat.le_of_ble_eq_true rfl) (by rw [show Kc 6 jN = 600000 from by decide +kernel]; exact Nat.le_of_ble_eq_true rfl) h
  exact r_vret C dL_types_85 (Nat.le_refl _) (Nat.le_refl _) h
