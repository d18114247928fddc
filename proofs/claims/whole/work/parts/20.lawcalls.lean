def J_L_type  (a0 : Nat) (v1 : Int32) (a2 : Nat) (σ : Hp) : jR := jcv σ a0 5 (J_X5_type a0 v1 σ) (fun w2 t1 => jvI w2 (fun x3 => jsJ t1 a2 0 x3.toInt64 (fun t4 => some (.inl (some (.int 0)), t4)))) (fun E t => (if E = "java/lang/IllegalArgumentException" then some (.inl (some (.int 1)), t) else if E = "java/lang/IllegalStateException" then some (.inl (some (.int 2)), t) else none))
set_option maxHeartbeats 4000000 in
set_option maxRecDepth 100000 in
theorem k_L_type (l : Launch) (hst : l.stackTraces = false) (g : jG)   (a0 : Nat) (v1 : Int32) (a2 : Nat) (σ : Hp) (o : jO) (τ : Hp) (h : J_L_type a0 v1 a2 σ = some (o, τ)) : jMet l g yL_type (Cond.codeWith yL_type cL_type 4 (some FieldType.int) [(0, 9, 12, 13), (0, 9, 15, 15)] :: gT) ({ frames := 7, cells := 1, slots := 6, locals := 121 } : Room) 1 6 [.ref a0, .int v1, .ref a2] σ o τ := by
  refine j_startH l hst (own := RL) (by decide) rfl (Nat.le_of_ble_eq_true rfl) ?_
  intro p e s m args below meth c C hT
  unfold J_L_type at h
  show jW p l e ({ frames := 7, cells := 1, slots := 6, locals := 121 } : Room) s m args below meth c g (jQ below g o τ args s 1 6) 0 0 0 [(0, .ref a0), (1, .int v1), (2, .ref a2)] [] σ
  refine r_aload_n C (x := some a2) 1 rfl 2 dL_type_0 rfl ?_
  refine r_iconst C (v := 0) 2 rfl dL_type_1 (by decide) ?_
  refine r_aload_n C (x := some a0) 3 rfl 0 dL_type_2 rfl ?_
  refine r_iload_n C 4 rfl 1 dL_type_3 rfl ?_
  refine r_callV C (ci := 5) mm_L_7 im_yX5_type se_yX5_type rfl 7 1 6 rfl rfl rfl dL_type_4 rfl rfl (As := [.int v1]) rfl rfl (Nat.le_of_ble_eq_true rfl) ⟨Nat.le_of_ble_eq_true rfl, Nat.le_of_ble_eq_true rfl⟩ ⟨(Nat.le_of_ble_eq_true rfl), (Nat.le_of_ble_eq_true rfl)⟩ (fun o t h => k_X5_type l hst g _ _ _ o t h) h (fun w2 t1 h => ?_) (fun E t h => ?_)
  · replace h := jvI_some h
    obtain ⟨x3, rfl, h⟩ := h
    refine r_i2l C 8 rfl dL_type_7 ?_
    refine r_last C 9 rfl dL_type_8 h (fun t4 h => ?_)
    refine r_goto C 18 dL_type_9 (by decide) ?_
    refine r_iconst C (v := 0) 19 rfl dL_type_18 (by decide) ?_
    exact r_iret C dL_type_19 (Nat.le_refl _) (Nat.le_refl _) h
  · by_cases hq : E = "java/lang/IllegalArgumentException"
    · rw [if_pos hq] at h
      subst hq
      refine r_catch C hT [] ⟨0, 9, 12, 13⟩ [⟨0, 9, 15, 15⟩] rfl (fun _ h => absurd h List.not_mem_nil) (by decide) (by decide) cl_L_13 (by decide +kernel) 12 rfl (fun q9 => ?_)
      refine r_astore_n C (x := some q9) 13 rfl [(3, .ref q9), (0, .ref a0), (1, .int v1), (2, .ref a2)] dL_type_12 (by decide) rfl ?_
      refine r_iconst C (v := 1) 14 rfl dL_type_13 (by decide) ?_
      exact r_iret C dL_type_14 (Nat.le_refl _) (Nat.le_refl _) h
    · rw [if_neg hq] at h
      by_cases hq : E = "java/lang/IllegalStateException"
      · rw [if_pos hq] at h
        subst hq
        refine r_catch C hT [⟨0, 9, 12, 13⟩] ⟨0, 9, 15, 15⟩ [] rfl (List.forall_mem_cons.mpr ⟨⟨by decide, _, cl_L_13, by decide +kernel⟩, (fun _ h => absurd h List.not_mem_nil)⟩) (by decide) (by decide) cl_L_15 (by decide +kernel) 15 rfl (fun q9 => ?_)
        refine r_astore_n C (x := some q9) 16 rfl [(3, .ref q9), (0, .ref a0), (1, .int v1), (2, .ref a2)] dL_type_15 (by decide) rfl ?_
        refine r_iconst C (v := 2) 17 rfl dL_type_16 (by decide) ?_
        exact r_iret C dL_type_17 (Nat.le_refl _) (Nat.le_refl _) h
      · rw [if_neg hq] at h
        cases h

def J_L_addRule  (a0 : Nat) (v1 : Int32) (v2 : Int32) (v3 : Int32) (a4 : Nat) (σ : Hp) : jR := jcv σ a0 5 (J_X5_addRule a0 v1 v2 v3 σ) (fun w2 t1 => jvI w2 (fun x3 => jsJ t1 a4 0 x3.toInt64 (fun t4 => some (.inl (some (.int 0)), t4)))) (fun E t => (if E = "java/lang/IllegalArgumentException" then some (.inl (some (.int 1)), t) else if E = "java/lang/IllegalStateException" then some (.inl (some (.int 2)), t) else if E = "java/lang/UnsupportedOperationException" then some (.inl (some (.int 3)), t) else none))
set_option maxHeartbeats 4000000 in
set_option maxRecDepth 100000 in
theorem k_L_addRule (l : Launch) (hst : l.stackTraces = false) (g : jG)   (a0 : Nat) (v1 : Int32) (v2 : Int32) (v3 : Int32) (a4 : Nat) (σ : Hp) (o : jO) (τ : Hp) (h : J_L_addRule a0 v1 v2 v3 a4 σ = some (o, τ)) : jMet l g yL_addRule (Cond.codeWith yL_addRule cL_addRule 6 (some FieldType.int) [(0, 12, 15, 13), (0, 12, 19, 15), (0, 12, 23, 21)] :: gT) ({ frames := 9, cells := 1, slots := 6, locals := 208 } : Room) 1 6 [.ref a0, .int v1, .int v2, .int v3, .ref a4] σ o τ := by
  refine j_startH l hst (own := RL) (by decide) rfl (Nat.le_of_ble_eq_true rfl) ?_
  intro p e s m args below meth c C hT
  unfold J_L_addRule at h
  show jW p l e ({ frames := 9, cells := 1, slots := 6, locals := 208 } : Room) s m args below meth c g (jQ below g o τ args s 1 6) 0 0 0 [(0, .ref a0), (1, .int v1), (2, .int v2), (3, .int v3), (4, .ref a4)] [] σ
  refine r_aload C (x := some a4) 2 rfl 4 dL_addRule_0 rfl ?_
  refine r_iconst C (v := 0) 3 rfl dL_addRule_2 (by decide) ?_
  refine r_aload_n C (x := some a0) 4 rfl 0 dL_addRule_3 rfl ?_
  refine r_iload_n C 5 rfl 1 dL_addRule_4 rfl ?_
  refine r_iload_n C 6 rfl 2 dL_addRule_5 rfl ?_
  refine r_iload_n C 7 rfl 3 dL_addRule_6 rfl ?_
  refine r_callV C (ci := 5) mm_L_17 im_yX5_addRule se_yX5_addRule rfl 10 1 6 rfl rfl rfl dL_addRule_7 rfl rfl (As := [.int v1, .int v2, .int v3]) rfl rfl (Nat.le_of_ble_eq_true rfl) ⟨Nat.le_of_ble_eq_true rfl, Nat.le_of_ble_eq_true rfl⟩ ⟨(Nat.le_of_ble_eq_true rfl), (Nat.le_of_ble_eq_true rfl)⟩ (fun o t h => k_X5_addRule l hst g _ _ _ _ _ o t h) h (fun w2 t1 h => ?_) (fun E t h => ?_)
  · replace h := jvI_some h
    obtain ⟨x3, rfl, h⟩ := h
    refine r_i2l C 11 rfl dL_addRule_10 ?_
    refine r_last C 12 rfl dL_addRule_11 h (fun t4 h => ?_)
    refine r_goto C 27 dL_addRule_12 (by decide) ?_
    refine r_iconst C (v := 0) 28 rfl dL_addRule_27 (by decide) ?_
    exact r_iret C dL_addRule_28 (Nat.le_refl _) (Nat.le_refl _) h
  · by_cases hq : E = "java/lang/IllegalArgumentException"
    · rw [if_pos hq] at h
      subst hq
      refine r_catch C hT [] ⟨0, 12, 15, 13⟩ [⟨0, 12, 19, 15⟩, ⟨0, 12, 23, 21⟩] rfl (fun _ h => absurd h List.not_mem_nil) (by decide) (by decide) cl_L_13 (by decide +kernel) 15 rfl (fun q9 => ?_)
      refine r_astore C (x := some q9) 17 rfl [(5, .ref q9), (0, .ref a0), (1, .int v1), (2, .int v2), (3, .int v3), (4, .ref a4)] dL_addRule_15 (by decide) rfl ?_
      refine r_iconst C (v := 1) 18 rfl dL_addRule_17 (by decide) ?_
      exact r_iret C dL_addRule_18 (Nat.le_refl _) (Nat.le_refl _) h
    · rw [if_neg hq] at h
      by_cases hq : E = "java/lang/IllegalStateException"
      · rw [if_pos hq] at h
        subst hq
        refine r_catch C hT [⟨0, 12, 15, 13⟩] ⟨0, 12, 19, 15⟩ [⟨0, 12, 23, 21⟩] rfl (List.forall_mem_cons.mpr ⟨⟨by decide, _, cl_L_13, by decide +kernel⟩, (fun _ h => absurd h List.not_mem_nil)⟩) (by decide) (by decide) cl_L_15 (by decide +kernel) 19 rfl (fun q9 => ?_)
        refine r_astore C (x := some q9) 21 rfl [(5, .ref q9), (0, .ref a0), (1, .int v1), (2, .int v2), (3, .int v3), (4, .ref a4)] dL_addRule_19 (by decide) rfl ?_
        refine r_iconst C (v := 2) 22 rfl dL_addRule_21 (by decide) ?_
        exact r_iret C dL_addRule_22 (Nat.le_refl _) (Nat.le_refl _) h
      · rw [if_neg hq] at h
        by_cases hq : E = "java/lang/UnsupportedOperationException"
        · rw [if_pos hq] at h
          subst hq
          refine r_catch C hT [⟨0, 12, 15, 13⟩, ⟨0, 12, 19, 15⟩] ⟨0, 12, 23, 21⟩ [] rfl (List.forall_mem_cons.mpr ⟨⟨by decide, _, cl_L_13, by decide +kernel⟩, (List.forall_mem_cons.mpr ⟨⟨by decide, _, cl_L_15, by decide +kernel⟩, (fun _ h => absurd h List.not_mem_nil)⟩)⟩) (by decide) (by decide) cl_L_21 (by decide +kernel) 23 rfl (fun q9 => ?_)
          refine r_astore C (x := some q9) 25 rfl [(5, .ref q9), (0, .ref a0), (1, .int v1), (2, .int v2), (3, .int v3), (4, .ref a4)] dL_addRule_23 (by decide) rfl ?_
          refine r_iconst C (v := 3) 26 rfl dL_addRule_25 (by decide) ?_
          exact r_iret C dL_addRule_26 (Nat.le_refl _) (Nat.le_refl _) h
        · rw [if_neg hq] at h
          cases h

def J_L_mend  (a0 : Nat) (v1 : Int32) (v2 : Int32) (v3 : Int32) (a4 : Nat) (σ : Hp) : jR := jcv σ a0 5 (J_X5_mend a0 v1 v2 v3 σ) (fun w2 t1 => jvI w2 (fun x3 => jsJ t1 a4 0 x3.toInt64 (fun t4 => some (.inl (some (.int 0)), t4)))) (fun E t => (if E = "java/lang/IllegalArgumentException" then some (.inl (some (.int 1)), t) else if E = "java/util/NoSuchElementException" then some (.inl (some (.int 2)), t) else none))
set_option maxHeartbeats 4000000 in
set_option maxRecDepth 100000 in
theorem k_L_mend (l : Launch) (hst : l.stackTraces = false) (g : jG)   (a0 : Nat) (v1 : Int32) (v2 : Int32) (v3 : Int32) (a4 : Nat) (σ : Hp) (o : jO) (τ : Hp) (h : J_L_mend a0 v1 v2 v3 a4 σ = some (o, τ)) : jMet l g yL_mend (Cond.codeWith yL_mend cL_mend 6 (some FieldType.int) [(0, 12, 15, 13), (0, 12, 19, 26)] :: gT) ({ frames := 9, cells := 1, slots := 6, locals := 207 } : Room) 1 6 [.ref a0, .int v1, .int v2, .int v3, .ref a4] σ o τ := by
  refine j_startH l hst (own := RL) (by decide) rfl (Nat.le_of_ble_eq_true rfl) ?_
  intro p e s m args below meth c C hT
  unfold J_L_mend at h
  show jW p l e ({ frames := 9, cells := 1, slots := 6, locals := 207 } : Room) s m args below meth c g (jQ below g o τ args s 1 6) 0 0 0 [(0, .ref a0), (1, .int v1), (2, .int v2), (3, .int v3), (4, .ref a4)] [] σ
  refine r_aload C (x := some a4) 2 rfl 4 dL_mend_0 rfl ?_
  refine r_iconst C (v := 0) 3 rfl dL_mend_2 (by decide) ?_
  refine r_aload_n C (x := some a0) 4 rfl 0 dL_mend_3 rfl ?_
  refine r_iload_n C 5 rfl 1 dL_mend_4 rfl ?_
  refine r_iload_n C 6 rfl 2 dL_mend_5 rfl ?_
  refine r_iload_n C 7 rfl 3 dL_mend_6 rfl ?_
  refine r_callV C (ci := 5) mm_L_23 im_yX5_mend se_yX5_mend rfl 10 1 6 rfl rfl rfl dL_mend_7 rfl rfl (As := [.int v1, .int v2, .int v3]) rfl rfl (Nat.le_of_ble_eq_true rfl) ⟨Nat.le_of_ble_eq_true rfl, Nat.le_of_ble_eq_true rfl⟩ ⟨(Nat.le_of_ble_eq_true rfl), (Nat.le_of_ble_eq_true rfl)⟩ (fun o t h => k_X5_mend l hst g _ _ _ _ _ o t h) h (fun w2 t1 h => ?_) (fun E t h => ?_)
  · replace h := jvI_some h
    obtain ⟨x3, rfl, h⟩ := h
    refine r_i2l C 11 rfl dL_mend_10 ?_
    refine r_last C 12 rfl dL_mend_11 h (fun t4 h => ?_)
    refine r_goto C 23 dL_mend_12 (by decide) ?_
    refine r_iconst C (v := 0) 24 rfl dL_mend_23 (by decide) ?_
    exact r_iret C dL_mend_24 (Nat.le_refl _) (Nat.le_refl _) h
  · by_cases hq : E = "java/lang/IllegalArgumentException"
    · rw [if_pos hq] at h
      subst hq
      refine r_catch C hT [] ⟨0, 12, 15, 13⟩ [⟨0, 12, 19, 26⟩] rfl (fun _ h => absurd h List.not_mem_nil) (by decide) (by decide) cl_L_13 (by decide +kernel) 15 rfl (fun q9 => ?_)
      refine r_astore C (x := some q9) 17 rfl [(5, .ref q9), (0, .ref a0), (1, .int v1), (2, .int v2), (3, .int v3), (4, .ref a4)] dL_mend_15 (by decide) rfl ?_
      refine r_iconst C (v := 1) 18 rfl dL_mend_17 (by decide) ?_
      exact r_iret C dL_mend_18 (Nat.le_refl _) (Nat.le_refl _) h
    · rw [if_neg hq] at h
      by_cases hq : E = "java/util/NoSuchElementException"
      · rw [if_pos hq] at h
        subst hq
        refine r_catch C hT [⟨0, 12, 15, 13⟩] ⟨0, 12, 19, 26⟩ [] rfl (List.forall_mem_cons.mpr ⟨⟨by decide, _, cl_L_13, by decide +kernel⟩, (fun _ h => absurd h List.not_mem_nil)⟩) (by decide) (by decide) cl_L_26 (by decide +kernel) 19 rfl (fun q9 => ?_)
        refine r_astore C (x := some q9) 21 rfl [(5, .ref q9), (0, .ref a0), (1, .int v1), (2, .int v2), (3, .int v3), (4, .ref a4)] dL_mend_19 (by decide) rfl ?_
        refine r_iconst C (v := 2) 22 rfl dL_mend_21 (by decide) ?_
        exact r_iret C dL_mend_22 (Nat.le_refl _) (Nat.le_refl _) h
      · rw [if_neg hq] at h
        cases h

def J_L_removeRule  (a0 : Nat) (v1 : Int32) (a2 : Nat) (σ : Hp) : jR := jcv σ a0 5 (J_X5_removeRule a0 v1 σ) (fun w2 t1 => jvI w2 (fun x3 => jsJ t1 a2 0 x3.toInt64 (fun t4 => some (.inl (some (.int 0)), t4)))) (fun E t => (if E = "java/lang/IndexOutOfBoundsException" then some (.inl (some (.int 1)), t) else none))
set_option maxHeartbeats 4000000 in
set_option maxRecDepth 100000 in
theorem k_L_removeRule (l : Launch) (hst : l.stackTraces = false) (g : jG)   (a0 : Nat) (v1 : Int32) (a2 : Nat) (σ : Hp) (o : jO) (τ : Hp) (h : J_L_removeRule a0 v1 a2 σ = some (o, τ)) : jMet l g yL_removeRule (Cond.codeWith yL_removeRule cL_removeRule 4 (some FieldType.int) [(0, 9, 12, 32)] :: gT) ({ frames := 9, cells := 1, slots := 6, locals := 204 } : Room) 1 6 [.ref a0, .int v1, .ref a2] σ o τ := by
  refine j_startH l hst (own := RL) (by decide) rfl (Nat.le_of_ble_eq_true rfl) ?_
  intro p e s m args below meth c C hT
  unfold J_L_removeRule at h
  show jW p l e ({ frames := 9, cells := 1, slots := 6, locals := 204 } : Room) s m args below meth c g (jQ below g o τ args s 1 6) 0 0 0 [(0, .ref a0), (1, .int v1), (2, .ref a2)] [] σ
  refine r_aload_n C (x := some a2) 1 rfl 2 dL_removeRule_0 rfl ?_
  refine r_iconst C (v := 0) 2 rfl dL_removeRule_1 (by decide) ?_
  refine r_aload_n C (x := some a0) 3 rfl 0 dL_removeRule_2 rfl ?_
  refine r_iload_n C 4 rfl 1 dL_removeRule_3 rfl ?_
  refine r_callV C (ci := 5) mm_L_28 im_yX5_removeRule se_yX5_removeRule rfl 7 1 6 rfl rfl rfl dL_removeRule_4 rfl rfl (As := [.int v1]) rfl rfl (Nat.le_of_ble_eq_true rfl) ⟨Nat.le_of_ble_eq_true rfl, Nat.le_of_ble_eq_true rfl⟩ ⟨(Nat.le_of_ble_eq_true rfl), (Nat.le_of_ble_eq_true rfl)⟩ (fun o t h => k_X5_removeRule l hst g _ _ _ o t h) h (fun w2 t1 h => ?_) (fun E t h => ?_)
  · replace h := jvI_some h
    obtain ⟨x3, rfl, h⟩ := h
    refine r_i2l C 8 rfl dL_removeRule_7 ?_
    refine r_last C 9 rfl dL_removeRule_8 h (fun t4 h => ?_)
    refine r_goto C 15 dL_removeRule_9 (by decide) ?_
    refine r_iconst C (v := 0) 16 rfl dL_removeRule_15 (by decide) ?_
    exact r_iret C dL_removeRule_16 (Nat.le_refl _) (Nat.le_refl _) h
  · by_cases hq : E = "java/lang/IndexOutOfBoundsException"
    · rw [if_pos hq] at h
      subst hq
      refine r_catch C hT [] ⟨0, 9, 12, 32⟩ [] rfl (fun _ h => absurd h List.not_mem_nil) (by decide) (by decide) cl_L_32 (by decide +kernel) 12 rfl (fun q9 => ?_)
      refine r_astore_n C (x := some q9) 13 rfl [(3, .ref q9), (0, .ref a0), (1, .int v1), (2, .ref a2)] dL_removeRule_12 (by decide) rfl ?_
      refine r_iconst C (v := 1) 14 rfl dL_removeRule_13 (by decide) ?_
      exact r_iret C dL_removeRule_14 (Nat.le_refl _) (Nat.le_refl _) h
    · rw [if_neg hq] at h
      cases h

def J_L_ruleAt  (a0 : Nat) (v1 : Int32) (v2 : Int32) (a3 : Nat) (σ : Hp) : jR := jcv σ a0 5 (J_X5_ruleAt a0 v1 v2 σ) (fun w2 t1 => jvI w2 (fun x3 => jsJ t1 a3 0 x3.toInt64 (fun t4 => some (.inl (some (.int 0)), t4)))) (fun E t => (if E = "java/lang/IndexOutOfBoundsException" then some (.inl (some (.int 1)), t) else if E = "java/util/NoSuchElementException" then some (.inl (some (.int 2)), t) else none))
set_option maxHeartbeats 4000000 in
set_option maxRecDepth 100000 in
theorem k_L_ruleAt (l : Launch) (hst : l.stackTraces = false) (g : jG)   (a0 : Nat) (v1 : Int32) (v2 : Int32) (a3 : Nat) (σ : Hp) (o : jO) (τ : Hp) (h : J_L_ruleAt a0 v1 v2 a3 σ = some (o, τ)) : jMet l g yL_ruleAt (Cond.codeWith yL_ruleAt cL_ruleAt 5 (some FieldType.int) [(0, 10, 13, 32), (0, 10, 17, 26)] :: gT) ({ frames := 7, cells := 1, slots := 6, locals := 123 } : Room) 1 6 [.ref a0, .int v1, .int v2, .ref a3] σ o τ := by
  refine j_startH l hst (own := RL) (by decide) rfl (Nat.le_of_ble_eq_true rfl) ?_
  intro p e s m args below meth c C hT
  unfold J_L_ruleAt at h
  show jW p l e ({ frames := 7, cells := 1, slots := 6, locals := 123 } : Room) s m args below meth c g (jQ below g o τ args s 1 6) 0 0 0 [(0, .ref a0), (1, .int v1), (2, .int v2), (3, .ref a3)] [] σ
  refine r_aload_n C (x := some a3) 1 rfl 3 dL_ruleAt_0 rfl ?_
  refine r_iconst C (v := 0) 2 rfl dL_ruleAt_1 (by decide) ?_
  refine r_aload_n C (x := some a0) 3 rfl 0 dL_ruleAt_2 rfl ?_
  refine r_iload_n C 4 rfl 1 dL_ruleAt_3 rfl ?_
  refine r_iload_n C 5 rfl 2 dL_ruleAt_4 rfl ?_
  refine r_callV C (ci := 5) mm_L_34 im_yX5_ruleAt se_yX5_ruleAt rfl 8 1 6 rfl rfl rfl dL_ruleAt_5 rfl rfl (As := [.int v1, .int v2]) rfl rfl (Nat.le_of_ble_eq_true rfl) ⟨Nat.le_of_ble_eq_true rfl, Nat.le_of_ble_eq_true rfl⟩ ⟨(Nat.le_of_ble_eq_true rfl), (Nat.le_of_ble_eq_true rfl)⟩ (fun o t h => k_X5_ruleAt l hst g _ _ _ _ o t h) h (fun w2 t1 h => ?_) (fun E t h => ?_)
  · replace h := jvI_some h
    obtain ⟨x3, rfl, h⟩ := h
    refine r_i2l C 9 rfl dL_ruleAt_8 ?_
    refine r_last C 10 rfl dL_ruleAt_9 h (fun t4 h => ?_)
    refine r_goto C 21 dL_ruleAt_10 (by decide) ?_
    refine r_iconst C (v := 0) 22 rfl dL_ruleAt_21 (by decide) ?_
    exact r_iret C dL_ruleAt_22 (Nat.le_refl _) (Nat.le_refl _) h
  · by_cases hq : E = "java/lang/IndexOutOfBoundsException"
    · rw [if_pos hq] at h
      subst hq
      refine r_catch C hT [] ⟨0, 10, 13, 32⟩ [⟨0, 10, 17, 26⟩] rfl (fun _ h => absurd h List.not_mem_nil) (by decide) (by decide) cl_L_32 (by decide +kernel) 13 rfl (fun q9 => ?_)
      refine r_astore C (x := some q9) 15 rfl [(4, .ref q9), (0, .ref a0), (1, .int v1), (2, .int v2), (3, .ref a3)] dL_ruleAt_13 (by decide) rfl ?_
      refine r_iconst C (v := 1) 16 rfl dL_ruleAt_15 (by decide) ?_
      exact r_iret C dL_ruleAt_16 (Nat.le_refl _) (Nat.le_refl _) h
    · rw [if_neg hq] at h
      by_cases hq : E = "java/util/NoSuchElementException"
      · rw [if_pos hq] at h
        subst hq
        refine r_catch C hT [⟨0, 10, 13, 32⟩] ⟨0, 10, 17, 26⟩ [] rfl (List.forall_mem_cons.mpr ⟨⟨by decide, _, cl_L_32, by decide +kernel⟩, (fun _ h => absurd h List.not_mem_nil)⟩) (by decide) (by decide) cl_L_26 (by decide +kernel) 17 rfl (fun q9 => ?_)
        refine r_astore C (x := some q9) 19 rfl [(4, .ref q9), (0, .ref a0), (1, .int v1), (2, .int v2), (3, .ref a3)] dL_ruleAt_17 (by decide) rfl ?_
        refine r_iconst C (v := 2) 20 rfl dL_ruleAt_19 (by decide) ?_
        exact r_iret C dL_ruleAt_20 (Nat.le_refl _) (Nat.le_refl _) h
      · rw [if_neg hq] at h
        cases h

def J_L_turnException  (a0 : Nat) (a1 : Nat) (σ : Hp) : jR := jcv σ a0 5 (J_X5_turnException a0 σ) (fun w2 t1 => jvI w2 (fun x3 => (if x3 = 0 then jsJ t1 a1 0 0 (fun t4 => some (.inl (some (.int 0)), t4)) else jsJ t1 a1 0 1 (fun t5 => some (.inl (some (.int 0)), t5))))) (fun E t => (if E = "java/lang/IllegalArgumentException" then some (.inl (some (.int 1)), t) else if E = "java/lang/IllegalStateException" then some (.inl (some (.int 2)), t) else none))
set_option maxHeartbeats 4000000 in
set_option maxRecDepth 100000 in
theorem k_L_turnException (l : Launch) (hst : l.stackTraces = false) (g : jG)   (a0 : Nat) (a1 : Nat) (σ : Hp) (o : jO) (τ : Hp) (h : J_L_turnException a0 a1 σ = some (o, τ)) : jMet l g yL_turnException (Cond.codeWith yL_turnException cL_turnException 3 (some FieldType.int) [(0, 15, 18, 13), (0, 15, 21, 15)] :: gT) ({ frames := 9, cells := 1, slots := 6, locals := 204 } : Room) 1 6 [.ref a0, .ref a1] σ o τ := by
  refine j_startH l hst (own := RL) (by decide) rfl (Nat.le_of_ble_eq_true rfl) ?_
  intro p e s m args below meth c C hT
  unfold J_L_turnException at h
  show jW p l e ({ frames := 9, cells := 1, slots := 6, locals := 204 } : Room) s m args below meth c g (jQ below g o τ args s 1 6) 0 0 0 [(0, .ref a0), (1, .ref a1)] [] σ
  refine r_aload_n C (x := some a1) 1 rfl 1 dL_turnException_0 rfl ?_
  refine r_iconst C (v := 0) 2 rfl dL_turnException_1 (by decide) ?_
  refine r_aload_n C (x := some a0) 3 rfl 0 dL_turnException_2 rfl ?_
  refine r_callV C (ci := 5) mm_L_38 im_yX5_turnException se_yX5_turnException rfl 6 1 6 rfl rfl rfl dL_turnException_3 rfl rfl (As := []) rfl rfl (Nat.le_of_ble_eq_true rfl) ⟨Nat.le_of_ble_eq_true rfl, Nat.le_of_ble_eq_true rfl⟩ ⟨(Nat.le_of_ble_eq_true rfl), (Nat.le_of_ble_eq_true rfl)⟩ (fun o t h => k_X5_turnException l hst g _ _ o t h) h (fun w2 t1 h => ?_) (fun E t h => ?_)
  · replace h := jvI_some h
    obtain ⟨x3, rfl, h⟩ := h
    refine r_if_eq C 13 9 rfl dL_turnException_6 (by decide) h (fun h => ?_) (fun h => ?_)
    · refine r_lconst C (v := 0) 14 rfl dL_turnException_13 (by decide) ?_
      refine r_last C 15 rfl dL_turnException_14 h (fun t4 h => ?_)
      refine r_goto C 24 dL_turnException_15 (by decide) ?_
      refine r_iconst C (v := 0) 25 rfl dL_turnException_24 (by decide) ?_
      exact r_iret C dL_turnException_25 (Nat.le_refl _) (Nat.le_refl _) h
    · refine r_lconst C (v := 1) 10 rfl dL_turnException_9 (by decide) ?_
      refine r_goto C 14 dL_turnException_10 (by decide) ?_
      refine r_last C 15 rfl dL_turnException_14 h (fun t5 h => ?_)
      refine r_goto C 24 dL_turnException_15 (by decide) ?_
      refine r_iconst C (v := 0) 25 rfl dL_turnException_24 (by decide) ?_
      exact r_iret C dL_turnException_25 (Nat.le_refl _) (Nat.le_refl _) h
  · by_cases hq : E = "java/lang/IllegalArgumentException"
    · rw [if_pos hq] at h
      subst hq
      refine r_catch C hT [] ⟨0, 15, 18, 13⟩ [⟨0, 15, 21, 15⟩] rfl (fun _ h => absurd h List.not_mem_nil) (by decide) (by decide) cl_L_13 (by decide +kernel) 18 rfl (fun q9 => ?_)
      refine r_astore_n C (x := some q9) 19 rfl [(2, .ref q9), (0, .ref a0), (1, .ref a1)] dL_turnException_18 (by decide) rfl ?_
      refine r_iconst C (v := 1) 20 rfl dL_turnException_19 (by decide) ?_
      exact r_iret C dL_turnException_20 (Nat.le_refl _) (Nat.le_refl _) h
    · rw [if_neg hq] at h
      by_cases hq : E = "java/lang/IllegalStateException"
      · rw [if_pos hq] at h
        subst hq
        refine r_catch C hT [⟨0, 15, 18, 13⟩] ⟨0, 15, 21, 15⟩ [] rfl (List.forall_mem_cons.mpr ⟨⟨by decide, _, cl_L_13, by decide +kernel⟩, (fun _ h => absurd h List.not_mem_nil)⟩) (by decide) (by decide) cl_L_15 (by decide +kernel) 21 rfl (fun q9 => ?_)
        refine r_astore_n C (x := some q9) 22 rfl [(2, .ref q9), (0, .ref a0), (1, .ref a1)] dL_turnException_21 (by decide) rfl ?_
        refine r_iconst C (v := 2) 23 rfl dL_turnException_22 (by decide) ?_
        exact r_iret C dL_turnException_23 (Nat.le_refl _) (Nat.le_refl _) h
      · rw [if_neg hq] at h
        cases h

def J_L_setText  (a0 : Nat) (v1 : Int32) (v2 : Int32) (a3 : Nat) (σ : Hp) : jR := jcv σ a0 5 (J_X5_setText a0 v1 v2 σ) (fun w2 t1 => jvI w2 (fun x3 => jsJ t1 a3 0 x3.toInt64 (fun t4 => some (.inl (some (.int 0)), t4)))) (fun E t => (if E = "java/lang/IndexOutOfBoundsException" then some (.inl (some (.int 1)), t) else if E = "java/lang/IllegalArgumentException" then some (.inl (some (.int 2)), t) else none))
set_option maxHeartbeats 4000000 in
set_option maxRecDepth 100000 in
theorem k_L_setText (l : Launch) (hst : l.stackTraces = false) (g : jG)   (a0 : Nat) (v1 : Int32) (v2 : Int32) (a3 : Nat) (σ : Hp) (o : jO) (τ : Hp) (h : J_L_setText a0 v1 v2 a3 σ = some (o, τ)) : jMet l g yL_setText (Cond.codeWith yL_setText cL_setText 5 (some FieldType.int) [(0, 10, 13, 32), (0, 10, 17, 13)] :: gT) ({ frames := 8, cells := 25, slots := 915, locals := 181 } : Room) 25 915 [.ref a0, .int v1, .int v2, .ref a3] σ o τ := by
  refine j_startH l hst (own := RL) (by decide) rfl (Nat.le_of_ble_eq_true rfl) ?_
  intro p e s m args below meth c C hT
  unfold J_L_setText at h
  show jW p l e ({ frames := 8, cells := 25, slots := 915, locals := 181 } : Room) s m args below meth c g (jQ below g o τ args s 25 915) 0 0 0 [(0, .ref a0), (1, .int v1), (2, .int v2), (3, .ref a3)] [] σ
  refine r_aload_n C (x := some a3) 1 rfl 3 dL_setText_0 rfl ?_
  refine r_iconst C (v := 0) 2 rfl dL_setText_1 (by decide) ?_
  refine r_aload_n C (x := some a0) 3 rfl 0 dL_setText_2 rfl ?_
  refine r_iload_n C 4 rfl 1 dL_setText_3 rfl ?_
  refine r_iload_n C 5 rfl 2 dL_setText_4 rfl ?_
  refine r_callV C (ci := 5) mm_L_42 im_yX5_setText se_yX5_setText rfl 8 25 915 rfl rfl rfl dL_setText_5 rfl rfl (As := [.int v1, .int v2]) rfl rfl (Nat.le_of_ble_eq_true rfl) ⟨Nat.le_of_ble_eq_true rfl, Nat.le_of_ble_eq_true rfl⟩ ⟨(Nat.le_of_ble_eq_true rfl), (Nat.le_of_ble_eq_true rfl)⟩ (fun o t h => k_X5_setText l hst g _ _ _ _ o t h) h (fun w2 t1 h => ?_) (fun E t h => ?_)
  · replace h := jvI_some h
    obtain ⟨x3, rfl, h⟩ := h
    refine r_i2l C 9 rfl dL_setText_8 ?_
    refine r_last C 10 rfl dL_setText_9 h (fun t4 h => ?_)
    refine r_goto C 21 dL_setText_10 (by decide) ?_
    refine r_iconst C (v := 0) 22 rfl dL_setText_21 (by decide) ?_
    exact r_iret C dL_setText_22 (Nat.le_refl _) (Nat.le_refl _) h
  · by_cases hq : E = "java/lang/IndexOutOfBoundsException"
    · rw [if_pos hq] at h
      subst hq
      refine r_catch C hT [] ⟨0, 10, 13, 32⟩ [⟨0, 10, 17, 13⟩] rfl (fun _ h => absurd h List.not_mem_nil) (by decide) (by decide) cl_L_32 (by decide +kernel) 13 rfl (fun q9 => ?_)
      refine r_astore C (x := some q9) 15 rfl [(4, .ref q9), (0, .ref a0), (1, .int v1), (2, .int v2), (3, .ref a3)] dL_setText_13 (by decide) rfl ?_
      refine r_iconst C (v := 1) 16 rfl dL_setText_15 (by decide) ?_
      exact r_iret C dL_setText_16 (Nat.le_refl _) (Nat.le_refl _) h
    · rw [if_neg hq] at h
      by_cases hq : E = "java/lang/IllegalArgumentException"
      · rw [if_pos hq] at h
        subst hq
        refine r_catch C hT [⟨0, 10, 13, 32⟩] ⟨0, 10, 17, 13⟩ [] rfl (List.forall_mem_cons.mpr ⟨⟨by decide, _, cl_L_32, by decide +kernel⟩, (fun _ h => absurd h List.not_mem_nil)⟩) (by decide) (by decide) cl_L_13 (by decide +kernel) 17 rfl (fun q9 => ?_)
        refine r_astore C (x := some q9) 19 rfl [(4, .ref q9), (0, .ref a0), (1, .int v1), (2, .int v2), (3, .ref a3)] dL_setText_17 (by decide) rfl ?_
        refine r_iconst C (v := 2) 20 rfl dL_setText_19 (by decide) ?_
        exact r_iret C dL_setText_20 (Nat.le_refl _) (Nat.le_refl _) h
      · rw [if_neg hq] at h
        cases h

def J_L_setWidth  (a0 : Nat) (v1 : Int32) (a2 : Nat) (σ : Hp) : jR := jcv σ a0 5 (J_X5_setWidth a0 v1 σ) (fun w2 t1 => jvI w2 (fun x3 => jsJ t1 a2 0 x3.toInt64 (fun t4 => some (.inl (some (.int 0)), t4)))) (fun E t => (if E = "java/lang/IllegalArgumentException" then some (.inl (some (.int 1)), t) else none))
set_option maxHeartbeats 4000000 in
set_option maxRecDepth 100000 in
theorem k_L_setWidth (l : Launch) (hst : l.stackTraces = false) (g : jG)   (a0 : Nat) (v1 : Int32) (a2 : Nat) (σ : Hp) (o : jO) (τ : Hp) (h : J_L_setWidth a0 v1 a2 σ = some (o, τ)) : jMet l g yL_setWidth (Cond.codeWith yL_setWidth cL_setWidth 4 (some FieldType.int) [(0, 9, 12, 13)] :: gT) ({ frames := 8, cells := 1, slots := 6, locals := 166 } : Room) 1 6 [.ref a0, .int v1, .ref a2] σ o τ := by
  refine j_startH l hst (own := RL) (by decide) rfl (Nat.le_of_ble_eq_true rfl) ?_
  intro p e s m args below meth c C hT
  unfold J_L_setWidth at h
  show jW p l e ({ frames := 8, cells := 1, slots := 6, locals := 166 } : Room) s m args below meth c g (jQ below g o τ args s 1 6) 0 0 0 [(0, .ref a0), (1, .int v1), (2, .ref a2)] [] σ
  refine r_aload_n C (x := some a2) 1 rfl 2 dL_setWidth_0 rfl ?_
  refine r_iconst C (v := 0) 2 rfl dL_setWidth_1 (by decide) ?_
  refine r_aload_n C (x := some a0) 3 rfl 0 dL_setWidth_2 rfl ?_
  refine r_iload_n C 4 rfl 1 dL_setWidth_3 rfl ?_
  refine r_callV C (ci := 5) mm_L_46 im_yX5_setWidth se_yX5_setWidth rfl 7 1 6 rfl rfl rfl dL_setWidth_4 rfl rfl (As := [.int v1]) rfl rfl (Nat.le_of_ble_eq_true rfl) ⟨Nat.le_of_ble_eq_true rfl, Nat.le_of_ble_eq_true rfl⟩ ⟨(Nat.le_of_ble_eq_true rfl), (Nat.le_of_ble_eq_true rfl)⟩ (fun o t h => k_X5_setWidth l hst g _ _ _ o t h) h (fun w2 t1 h => ?_) (fun E t h => ?_)
  · replace h := jvI_some h
    obtain ⟨x3, rfl, h⟩ := h
    refine r_i2l C 8 rfl dL_setWidth_7 ?_
    refine r_last C 9 rfl dL_setWidth_8 h (fun t4 h => ?_)
    refine r_goto C 15 dL_setWidth_9 (by decide) ?_
    refine r_iconst C (v := 0) 16 rfl dL_setWidth_15 (by decide) ?_
    exact r_iret C dL_setWidth_16 (Nat.le_refl _) (Nat.le_refl _) h
  · by_cases hq : E = "java/lang/IllegalArgumentException"
    · rw [if_pos hq] at h
      subst hq
      refine r_catch C hT [] ⟨0, 9, 12, 13⟩ [] rfl (fun _ h => absurd h List.not_mem_nil) (by decide) (by decide) cl_L_13 (by decide +kernel) 12 rfl (fun q9 => ?_)
      refine r_astore_n C (x := some q9) 13 rfl [(3, .ref q9), (0, .ref a0), (1, .int v1), (2, .ref a2)] dL_setWidth_12 (by decide) rfl ?_
      refine r_iconst C (v := 1) 14 rfl dL_setWidth_13 (by decide) ?_
      exact r_iret C dL_setWidth_14 (Nat.le_refl _) (Nat.le_refl _) h
    · rw [if_neg hq] at h
      cases h

def J_L_words  (a0 : Nat) (v1 : Int32) (a2 : Nat) (σ : Hp) : jR := jcv σ a0 5 (J_X5_words a0 v1 σ) (fun w2 t1 => jvI w2 (fun x3 => jsJ t1 a2 0 x3.toInt64 (fun t4 => some (.inl (some (.int 0)), t4)))) (fun E t => (if E = "java/lang/IndexOutOfBoundsException" then some (.inl (some (.int 1)), t) else none))
set_option maxHeartbeats 4000000 in
set_option maxRecDepth 100000 in
theorem k_L_words (l : Launch) (hst : l.stackTraces = false) (g : jG)   (a0 : Nat) (v1 : Int32) (a2 : Nat) (σ : Hp) (o : jO) (τ : Hp) (h : J_L_words a0 v1 a2 σ = some (o, τ)) : jMet l g yL_words (Cond.codeWith yL_words cL_words 4 (some FieldType.int) [(0, 9, 12, 32)] :: gT) ({ frames := 8, cells := 1, slots := 6, locals := 143 } : Room) 1 6 [.ref a0, .int v1, .ref a2] σ o τ := by
  refine j_startH l hst (own := RL) (by decide) rfl (Nat.le_of_ble_eq_true rfl) ?_
  intro p e s m args below meth c C hT
  unfold J_L_words at h
  show jW p l e ({ frames := 8, cells := 1, slots := 6, locals := 143 } : Room) s m args below meth c g (jQ below g o τ args s 1 6) 0 0 0 [(0, .ref a0), (1, .int v1), (2, .ref a2)] [] σ
  refine r_aload_n C (x := some a2) 1 rfl 2 dL_words_0 rfl ?_
  refine r_iconst C (v := 0) 2 rfl dL_words_1 (by decide) ?_
  refine r_aload_n C (x := some a0) 3 rfl 0 dL_words_2 rfl ?_
  refine r_iload_n C 4 rfl 1 dL_words_3 rfl ?_
  refine r_callV C (ci := 5) mm_L_49 im_yX5_words se_yX5_words rfl 7 1 6 rfl rfl rfl dL_words_4 rfl rfl (As := [.int v1]) rfl rfl (Nat.le_of_ble_eq_true rfl) ⟨Nat.le_of_ble_eq_true rfl, Nat.le_of_ble_eq_true rfl⟩ ⟨(Nat.le_of_ble_eq_true rfl), (Nat.le_of_ble_eq_true rfl)⟩ (fun o t h => k_X5_words l hst g _ _ _ o t h) h (fun w2 t1 h => ?_) (fun E t h => ?_)
  · replace h := jvI_some h
    obtain ⟨x3, rfl, h⟩ := h
    refine r_i2l C 8 rfl dL_words_7 ?_
    refine r_last C 9 rfl dL_words_8 h (fun t4 h => ?_)
    refine r_goto C 15 dL_words_9 (by decide) ?_
    refine r_iconst C (v := 0) 16 rfl dL_words_15 (by decide) ?_
    exact r_iret C dL_words_16 (Nat.le_refl _) (Nat.le_refl _) h
  · by_cases hq : E = "java/lang/IndexOutOfBoundsException"
    · rw [if_pos hq] at h
      subst hq
      refine r_catch C hT [] ⟨0, 9, 12, 32⟩ [] rfl (fun _ h => absurd h List.not_mem_nil) (by decide) (by decide) cl_L_32 (by decide +kernel) 12 rfl (fun q9 => ?_)
      refine r_astore_n C (x := some q9) 13 rfl [(3, .ref q9), (0, .ref a0), (1, .int v1), (2, .ref a2)] dL_words_12 (by decide) rfl ?_
      refine r_iconst C (v := 1) 14 rfl dL_words_13 (by decide) ?_
      exact r_iret C dL_words_14 (Nat.le_refl _) (Nat.le_refl _) h
    · rw [if_neg hq] at h
      cases h

def J_L_length  (a0 : Nat) (v1 : Int32) (v2 : Int32) (a3 : Nat) (σ : Hp) : jR := jcv σ a0 5 (J_X5_length a0 v1 v2 σ) (fun w2 t1 => jvI w2 (fun x3 => jsJ t1 a3 0 x3.toInt64 (fun t4 => some (.inl (some (.int 0)), t4)))) (fun E t => (if E = "java/lang/IndexOutOfBoundsException" then some (.inl (some (.int 1)), t) else none))
set_option maxHeartbeats 4000000 in
set_option maxRecDepth 100000 in
theorem k_L_length (l : Launch) (hst : l.stackTraces = false) (g : jG)   (a0 : Nat) (v1 : Int32) (v2 : Int32) (a3 : Nat) (σ : Hp) (o : jO) (τ : Hp) (h : J_L_length a0 v1 v2 a3 σ = some (o, τ)) : jMet l g yL_length (Cond.codeWith yL_length cL_length 5 (some FieldType.int) [(0, 10, 13, 32)] :: gT) ({ frames := 9, cells := 2, slots := 12, locals := 167 } : Room) 2 12 [.ref a0, .int v1, .int v2, .ref a3] σ o τ := by
  refine j_startH l hst (own := RL) (by decide) rfl (Nat.le_of_ble_eq_true rfl) ?_
  intro p e s m args below meth c C hT
  unfold J_L_length at h
  show jW p l e ({ frames := 9, cells := 2, slots := 12, locals := 167 } : Room) s m args below meth c g (jQ below g o τ args s 2 12) 0 0 0 [(0, .ref a0), (1, .int v1), (2, .int v2), (3, .ref a3)] [] σ
  refine r_aload_n C (x := some a3) 1 rfl 3 dL_length_0 rfl ?_
  refine r_iconst C (v := 0) 2 rfl dL_length_1 (by decide) ?_
  refine r_aload_n C (x := some a0) 3 rfl 0 dL_length_2 rfl ?_
  refine r_iload_n C 4 rfl 1 dL_length_3 rfl ?_
  refine r_iload_n C 5 rfl 2 dL_length_4 rfl ?_
  refine r_callV C (ci := 5) mm_L_52 im_yX5_length se_yX5_length rfl 8 2 12 rfl rfl rfl dL_length_5 rfl rfl (As := [.int v1, .int v2]) rfl rfl (Nat.le_of_ble_eq_true rfl) ⟨Nat.le_of_ble_eq_true rfl, Nat.le_of_ble_eq_true rfl⟩ ⟨(Nat.le_of_ble_eq_true rfl), (Nat.le_of_ble_eq_true rfl)⟩ (fun o t h => k_X5_length l hst g _ _ _ _ o t h) h (fun w2 t1 h => ?_) (fun E t h => ?_)
  · replace h := jvI_some h
    obtain ⟨x3, rfl, h⟩ := h
    refine r_i2l C 9 rfl dL_length_8 ?_
    refine r_last C 10 rfl dL_length_9 h (fun t4 h => ?_)
    refine r_goto C 17 dL_length_10 (by decide) ?_
    refine r_iconst C (v := 0) 18 rfl dL_length_17 (by decide) ?_
    exact r_iret C dL_length_18 (Nat.le_refl _) (Nat.le_refl _) h
  · by_cases hq : E = "java/lang/IndexOutOfBoundsException"
    · rw [if_pos hq] at h
      subst hq
      refine r_catch C hT [] ⟨0, 10, 13, 32⟩ [] rfl (fun _ h => absurd h List.not_mem_nil) (by decide) (by decide) cl_L_32 (by decide +kernel) 13 rfl (fun q9 => ?_)
      refine r_astore C (x := some q9) 15 rfl [(4, .ref q9), (0, .ref a0), (1, .int v1), (2, .int v2), (3, .ref a3)] dL_length_13 (by decide) rfl ?_
      refine r_iconst C (v := 1) 16 rfl dL_length_15 (by decide) ?_
      exact r_iret C dL_length_16 (Nat.le_refl _) (Nat.le_refl _) h
    · rw [if_neg hq] at h
      cases h

def J_L_cellOf  (a0 : Nat) (v1 : Int32) (v2 : Int32) (v3 : Int32) (a4 : Nat) (σ : Hp) : jR := jcv σ a0 5 (J_X5_cellOf a0 v1 v2 v3 σ) (fun w2 t1 => jvI w2 (fun x3 => jsJ t1 a4 0 x3.toInt64 (fun t4 => some (.inl (some (.int 0)), t4)))) (fun E t => (if E = "java/lang/IndexOutOfBoundsException" then some (.inl (some (.int 1)), t) else if E = "java/util/NoSuchElementException" then some (.inl (some (.int 2)), t) else none))
set_option maxHeartbeats 4000000 in
set_option maxRecDepth 100000 in
theorem k_L_cellOf (l : Launch) (hst : l.stackTraces = false) (g : jG)   (a0 : Nat) (v1 : Int32) (v2 : Int32) (v3 : Int32) (a4 : Nat) (σ : Hp) (o : jO) (τ : Hp) (h : J_L_cellOf a0 v1 v2 v3 a4 σ = some (o, τ)) : jMet l g yL_cellOf (Cond.codeWith yL_cellOf cL_cellOf 6 (some FieldType.int) [(0, 12, 15, 32), (0, 12, 19, 26)] :: gT) ({ frames := 9, cells := 3, slots := 18, locals := 169 } : Room) 3 18 [.ref a0, .int v1, .int v2, .int v3, .ref a4] σ o τ := by
  refine j_startH l hst (own := RL) (by decide) rfl (Nat.le_of_ble_eq_true rfl) ?_
  intro p e s m args below meth c C hT
  unfold J_L_cellOf at h
  show jW p l e ({ frames := 9, cells := 3, slots := 18, locals := 169 } : Room) s m args below meth c g (jQ below g o τ args s 3 18) 0 0 0 [(0, .ref a0), (1, .int v1), (2, .int v2), (3, .int v3), (4, .ref a4)] [] σ
  refine r_aload C (x := some a4) 2 rfl 4 dL_cellOf_0 rfl ?_
  refine r_iconst C (v := 0) 3 rfl dL_cellOf_2 (by decide) ?_
  refine r_aload_n C (x := some a0) 4 rfl 0 dL_cellOf_3 rfl ?_
  refine r_iload_n C 5 rfl 1 dL_cellOf_4 rfl ?_
  refine r_iload_n C 6 rfl 2 dL_cellOf_5 rfl ?_
  refine r_iload_n C 7 rfl 3 dL_cellOf_6 rfl ?_
  refine r_callV C (ci := 5) mm_L_55 im_yX5_cellOf se_yX5_cellOf rfl 10 3 18 rfl rfl rfl dL_cellOf_7 rfl rfl (As := [.int v1, .int v2, .int v3]) rfl rfl (Nat.le_of_ble_eq_true rfl) ⟨Nat.le_of_ble_eq_true rfl, Nat.le_of_ble_eq_true rfl⟩ ⟨(Nat.le_of_ble_eq_true rfl), (Nat.le_of_ble_eq_true rfl)⟩ (fun o t h => k_X5_cellOf l hst g _ _ _ _ _ o t h) h (fun w2 t1 h => ?_) (fun E t h => ?_)
  · replace h := jvI_some h
    obtain ⟨x3, rfl, h⟩ := h
    refine r_i2l C 11 rfl dL_cellOf_10 ?_
    refine r_last C 12 rfl dL_cellOf_11 h (fun t4 h => ?_)
    refine r_goto C 23 dL_cellOf_12 (by decide) ?_
    refine r_iconst C (v := 0) 24 rfl dL_cellOf_23 (by decide) ?_
    exact r_iret C dL_cellOf_24 (Nat.le_refl _) (Nat.le_refl _) h
  · by_cases hq : E = "java/lang/IndexOutOfBoundsException"
    · rw [if_pos hq] at h
      subst hq
      refine r_catch C hT [] ⟨0, 12, 15, 32⟩ [⟨0, 12, 19, 26⟩] rfl (fun _ h => absurd h List.not_mem_nil) (by decide) (by decide) cl_L_32 (by decide +kernel) 15 rfl (fun q9 => ?_)
      refine r_astore C (x := some q9) 17 rfl [(5, .ref q9), (0, .ref a0), (1, .int v1), (2, .int v2), (3, .int v3), (4, .ref a4)] dL_cellOf_15 (by decide) rfl ?_
      refine r_iconst C (v := 1) 18 rfl dL_cellOf_17 (by decide) ?_
      exact r_iret C dL_cellOf_18 (Nat.le_refl _) (Nat.le_refl _) h
    · rw [if_neg hq] at h
      by_cases hq : E = "java/util/NoSuchElementException"
      · rw [if_pos hq] at h
        subst hq
        refine r_catch C hT [⟨0, 12, 15, 32⟩] ⟨0, 12, 19, 26⟩ [] rfl (List.forall_mem_cons.mpr ⟨⟨by decide, _, cl_L_32, by decide +kernel⟩, (fun _ h => absurd h List.not_mem_nil)⟩) (by decide) (by decide) cl_L_26 (by decide +kernel) 19 rfl (fun q9 => ?_)
        refine r_astore C (x := some q9) 21 rfl [(5, .ref q9), (0, .ref a0), (1, .int v1), (2, .int v2), (3, .int v3), (4, .ref a4)] dL_cellOf_19 (by decide) rfl ?_
        refine r_iconst C (v := 2) 22 rfl dL_cellOf_21 (by decide) ?_
        exact r_iret C dL_cellOf_22 (Nat.le_refl _) (Nat.le_refl _) h
      · rw [if_neg hq] at h
        cases h

def J_L_lines  (a0 : Nat) (v1 : Int32) (a2 : Nat) (σ : Hp) : jR := jcv σ a0 5 (J_X5_lines a0 v1 σ) (fun w2 t1 => jvI w2 (fun x3 => jsJ t1 a2 0 x3.toInt64 (fun t4 => some (.inl (some (.int 0)), t4)))) (fun E t => (if E = "java/lang/IndexOutOfBoundsException" then some (.inl (some (.int 1)), t) else none))
set_option maxHeartbeats 4000000 in
set_option maxRecDepth 100000 in
theorem k_L_lines (l : Launch) (hst : l.stackTraces = false) (g : jG)   (a0 : Nat) (v1 : Int32) (a2 : Nat) (σ : Hp) (o : jO) (τ : Hp) (h : J_L_lines a0 v1 a2 σ = some (o, τ)) : jMet l g yL_lines (Cond.codeWith yL_lines cL_lines 4 (some FieldType.int) [(0, 9, 12, 32)] :: gT) ({ frames := 8, cells := 1, slots := 6, locals := 143 } : Room) 1 6 [.ref a0, .int v1, .ref a2] σ o τ := by
  refine j_startH l hst (own := RL) (by decide) rfl (Nat.le_of_ble_eq_true rfl) ?_
  intro p e s m args below meth c C hT
  unfold J_L_lines at h
  show jW p l e ({ frames := 8, cells := 1, slots := 6, locals := 143 } : Room) s m args below meth c g (jQ below g o τ args s 1 6) 0 0 0 [(0, .ref a0), (1, .int v1), (2, .ref a2)] [] σ
  refine r_aload_n C (x := some a2) 1 rfl 2 dL_lines_0 rfl ?_
  refine r_iconst C (v := 0) 2 rfl dL_lines_1 (by decide) ?_
  refine r_aload_n C (x := some a0) 3 rfl 0 dL_lines_2 rfl ?_
  refine r_iload_n C 4 rfl 1 dL_lines_3 rfl ?_
  refine r_callV C (ci := 5) mm_L_58 im_yX5_lines se_yX5_lines rfl 7 1 6 rfl rfl rfl dL_lines_4 rfl rfl (As := [.int v1]) rfl rfl (Nat.le_of_ble_eq_true rfl) ⟨Nat.le_of_ble_eq_true rfl, Nat.le_of_ble_eq_true rfl⟩ ⟨(Nat.le_of_ble_eq_true rfl), (Nat.le_of_ble_eq_true rfl)⟩ (fun o t h => k_X5_lines l hst g _ _ _ o t h) h (fun w2 t1 h => ?_) (fun E t h => ?_)
  · replace h := jvI_some h
    obtain ⟨x3, rfl, h⟩ := h
    refine r_i2l C 8 rfl dL_lines_7 ?_
    refine r_last C 9 rfl dL_lines_8 h (fun t4 h => ?_)
    refine r_goto C 15 dL_lines_9 (by decide) ?_
    refine r_iconst C (v := 0) 16 rfl dL_lines_15 (by decide) ?_
    exact r_iret C dL_lines_16 (Nat.le_refl _) (Nat.le_refl _) h
  · by_cases hq : E = "java/lang/IndexOutOfBoundsException"
    · rw [if_pos hq] at h
      subst hq
      refine r_catch C hT [] ⟨0, 9, 12, 32⟩ [] rfl (fun _ h => absurd h List.not_mem_nil) (by decide) (by decide) cl_L_32 (by decide +kernel) 12 rfl (fun q9 => ?_)
      refine r_astore_n C (x := some q9) 13 rfl [(3, .ref q9), (0, .ref a0), (1, .int v1), (2, .ref a2)] dL_lines_12 (by decide) rfl ?_
      refine r_iconst C (v := 1) 14 rfl dL_lines_13 (by decide) ?_
      exact r_iret C dL_lines_14 (Nat.le_refl _) (Nat.le_refl _) h
    · rw [if_neg hq] at h
      cases h

def J_L_lineAt  (a0 : Nat) (v1 : Int32) (v2 : Int32) (v3 : Int32) (a4 : Nat) (σ : Hp) : jR := jcv σ a0 5 (J_X5_lineAt a0 v1 v2 v3 σ) (fun w2 t1 => jvI w2 (fun x3 => jsJ t1 a4 0 x3.toInt64 (fun t4 => some (.inl (some (.int 0)), t4)))) (fun E t => (if E = "java/lang/IndexOutOfBoundsException" then some (.inl (some (.int 1)), t) else if E = "java/util/NoSuchElementException" then some (.inl (some (.int 2)), t) else none))
set_option maxHeartbeats 4000000 in
set_option maxRecDepth 100000 in
theorem k_L_lineAt (l : Launch) (hst : l.stackTraces = false) (g : jG)   (a0 : Nat) (v1 : Int32) (v2 : Int32) (v3 : Int32) (a4 : Nat) (σ : Hp) (o : jO) (τ : Hp) (h : J_L_lineAt a0 v1 v2 v3 a4 σ = some (o, τ)) : jMet l g yL_lineAt (Cond.codeWith yL_lineAt cL_lineAt 6 (some FieldType.int) [(0, 12, 15, 32), (0, 12, 19, 26)] :: gT) ({ frames := 8, cells := 2, slots := 12, locals := 146 } : Room) 2 12 [.ref a0, .int v1, .int v2, .int v3, .ref a4] σ o τ := by
  refine j_startH l hst (own := RL) (by decide) rfl (Nat.le_of_ble_eq_true rfl) ?_
  intro p e s m args below meth c C hT
  unfold J_L_lineAt at h
  show jW p l e ({ frames := 8, cells := 2, slots := 12, locals := 146 } : Room) s m args below meth c g (jQ below g o τ args s 2 12) 0 0 0 [(0, .ref a0), (1, .int v1), (2, .int v2), (3, .int v3), (4, .ref a4)] [] σ
  refine r_aload C (x := some a4) 2 rfl 4 dL_lineAt_0 rfl ?_
  refine r_iconst C (v := 0) 3 rfl dL_lineAt_2 (by decide) ?_
  refine r_aload_n C (x := some a0) 4 rfl 0 dL_lineAt_3 rfl ?_
  refine r_iload_n C 5 rfl 1 dL_lineAt_4 rfl ?_
  refine r_iload_n C 6 rfl 2 dL_lineAt_5 rfl ?_
  refine r_iload_n C 7 rfl 3 dL_lineAt_6 rfl ?_
  refine r_callV C (ci := 5) mm_L_61 im_yX5_lineAt se_yX5_lineAt rfl 10 2 12 rfl rfl rfl dL_lineAt_7 rfl rfl (As := [.int v1, .int v2, .int v3]) rfl rfl (Nat.le_of_ble_eq_true rfl) ⟨Nat.le_of_ble_eq_true rfl, Nat.le_of_ble_eq_true rfl⟩ ⟨(Nat.le_of_ble_eq_true rfl), (Nat.le_of_ble_eq_true rfl)⟩ (fun o t h => k_X5_lineAt l hst g _ _ _ _ _ o t h) h (fun w2 t1 h => ?_) (fun E t h => ?_)
  · replace h := jvI_some h
    obtain ⟨x3, rfl, h⟩ := h
    refine r_i2l C 11 rfl dL_lineAt_10 ?_
    refine r_last C 12 rfl dL_lineAt_11 h (fun t4 h => ?_)
    refine r_goto C 23 dL_lineAt_12 (by decide) ?_
    refine r_iconst C (v := 0) 24 rfl dL_lineAt_23 (by decide) ?_
    exact r_iret C dL_lineAt_24 (Nat.le_refl _) (Nat.le_refl _) h
  · by_cases hq : E = "java/lang/IndexOutOfBoundsException"
    · rw [if_pos hq] at h
      subst hq
      refine r_catch C hT [] ⟨0, 12, 15, 32⟩ [⟨0, 12, 19, 26⟩] rfl (fun _ h => absurd h List.not_mem_nil) (by decide) (by decide) cl_L_32 (by decide +kernel) 15 rfl (fun q9 => ?_)
      refine r_astore C (x := some q9) 17 rfl [(5, .ref q9), (0, .ref a0), (1, .int v1), (2, .int v2), (3, .int v3), (4, .ref a4)] dL_lineAt_15 (by decide) rfl ?_
      refine r_iconst C (v := 1) 18 rfl dL_lineAt_17 (by decide) ?_
      exact r_iret C dL_lineAt_18 (Nat.le_refl _) (Nat.le_refl _) h
    · rw [if_neg hq] at h
      by_cases hq : E = "java/util/NoSuchElementException"
      · rw [if_pos hq] at h
        subst hq
        refine r_catch C hT [⟨0, 12, 15, 32⟩] ⟨0, 12, 19, 26⟩ [] rfl (List.forall_mem_cons.mpr ⟨⟨by decide, _, cl_L_32, by decide +kernel⟩, (fun _ h => absurd h List.not_mem_nil)⟩) (by decide) (by decide) cl_L_26 (by decide +kernel) 19 rfl (fun q9 => ?_)
        refine r_astore C (x := some q9) 21 rfl [(5, .ref q9), (0, .ref a0), (1, .int v1), (2, .int v2), (3, .int v3), (4, .ref a4)] dL_lineAt_19 (by decide) rfl ?_
        refine r_iconst C (v := 2) 22 rfl dL_lineAt_21 (by decide) ?_
        exact r_iret C dL_lineAt_22 (Nat.le_refl _) (Nat.le_refl _) h
      · rw [if_neg hq] at h
        cases h

def J_L_lineOf  (a0 : Nat) (v1 : Int32) (v2 : Int32) (a3 : Nat) (σ : Hp) : jR := jcv σ a0 5 (J_X5_lineOf a0 v1 v2 σ) (fun w2 t1 => jvI w2 (fun x3 => jsJ t1 a3 0 x3.toInt64 (fun t4 => some (.inl (some (.int 0)), t4)))) (fun E t => (if E = "java/lang/IndexOutOfBoundsException" then some (.inl (some (.int 1)), t) else none))
set_option maxHeartbeats 4000000 in
set_option maxRecDepth 100000 in
theorem k_L_lineOf (l : Launch) (hst : l.stackTraces = false) (g : jG)   (a0 : Nat) (v1 : Int32) (v2 : Int32) (a3 : Nat) (σ : Hp) (o : jO) (τ : Hp) (h : J_L_lineOf a0 v1 v2 a3 σ = some (o, τ)) : jMet l g yL_lineOf (Cond.codeWith yL_lineOf cL_lineOf 5 (some FieldType.int) [(0, 10, 13, 32)] :: gT) ({ frames := 9, cells := 2, slots := 12, locals := 167 } : Room) 2 12 [.ref a0, .int v1, .int v2, .ref a3] σ o τ := by
  refine j_startH l hst (own := RL) (by decide) rfl (Nat.le_of_ble_eq_true rfl) ?_
  intro p e s m args below meth c C hT
  unfold J_L_lineOf at h
  show jW p l e ({ frames := 9, cells := 2, slots := 12, locals := 167 } : Room) s m args below meth c g (jQ below g o τ args s 2 12) 0 0 0 [(0, .ref a0), (1, .int v1), (2, .int v2), (3, .ref a3)] [] σ
  refine r_aload_n C (x := some a3) 1 rfl 3 dL_lineOf_0 rfl ?_
  refine r_iconst C (v := 0) 2 rfl dL_lineOf_1 (by decide) ?_
  refine r_aload_n C (x := some a0) 3 rfl 0 dL_lineOf_2 rfl ?_
  refine r_iload_n C 4 rfl 1 dL_lineOf_3 rfl ?_
  refine r_iload_n C 5 rfl 2 dL_lineOf_4 rfl ?_
  refine r_callV C (ci := 5) mm_L_64 im_yX5_lineOf se_yX5_lineOf rfl 8 2 12 rfl rfl rfl dL_lineOf_5 rfl rfl (As := [.int v1, .int v2]) rfl rfl (Nat.le_of_ble_eq_true rfl) ⟨Nat.le_of_ble_eq_true rfl, Nat.le_of_ble_eq_true rfl⟩ ⟨(Nat.le_of_ble_eq_true rfl), (Nat.le_of_ble_eq_true rfl)⟩ (fun o t h => k_X5_lineOf l hst g _ _ _ _ o t h) h (fun w2 t1 h => ?_) (fun E t h => ?_)
  · replace h := jvI_some h
    obtain ⟨x3, rfl, h⟩ := h
    refine r_i2l C 9 rfl dL_lineOf_8 ?_
    refine r_last C 10 rfl dL_lineOf_9 h (fun t4 h => ?_)
    refine r_goto C 17 dL_lineOf_10 (by decide) ?_
    refine r_iconst C (v := 0) 18 rfl dL_lineOf_17 (by decide) ?_
    exact r_iret C dL_lineOf_18 (Nat.le_refl _) (Nat.le_refl _) h
  · by_cases hq : E = "java/lang/IndexOutOfBoundsException"
    · rw [if_pos hq] at h
      subst hq
      refine r_catch C hT [] ⟨0, 10, 13, 32⟩ [] rfl (fun _ h => absurd h List.not_mem_nil) (by decide) (by decide) cl_L_32 (by decide +kernel) 13 rfl (fun q9 => ?_)
      refine r_astore C (x := some q9) 15 rfl [(4, .ref q9), (0, .ref a0), (1, .int v1), (2, .int v2), (3, .ref a3)] dL_lineOf_13 (by decide) rfl ?_
      refine r_iconst C (v := 1) 16 rfl dL_lineOf_15 (by decide) ?_
      exact r_iret C dL_lineOf_16 (Nat.le_refl _) (Nat.le_refl _) h
    · rw [if_neg hq] at h
      cases h

def J_L_emboss  (a0 : Nat) (v1 : Int32) (a2 : Nat) (σ : Hp) : jR := jcv σ a0 5 (J_X5_emboss a0 v1 σ) (fun w2 t1 => jvI w2 (fun x3 => jsJ t1 a2 0 x3.toInt64 (fun t4 => some (.inl (some (.int 0)), t4)))) (fun E t => (if E = "java/lang/IndexOutOfBoundsException" then some (.inl (some (.int 1)), t) else if E = "java/lang/IllegalStateException" then some (.inl (some (.int 2)), t) else none))
set_option maxHeartbeats 4000000 in
set_option maxRecDepth 100000 in
theorem k_L_emboss (l : Launch) (hst : l.stackTraces = false) (g : jG)   (a0 : Nat) (v1 : Int32) (a2 : Nat) (σ : Hp) (o : jO) (τ : Hp) (h : J_L_emboss a0 v1 a2 σ = some (o, τ)) : jMet l g yL_emboss (Cond.codeWith yL_emboss cL_emboss 4 (some FieldType.int) [(0, 9, 12, 32), (0, 9, 15, 15)] :: gT) ({ frames := 8, cells := 2, slots := 12, locals := 150 } : Room) 2 12 [.ref a0, .int v1, .ref a2] σ o τ := by
  refine j_startH l hst (own := RL) (by decide) rfl (Nat.le_of_ble_eq_true rfl) ?_
  intro p e s m args below meth c C hT
  unfold J_L_emboss at h
  show jW p l e ({ frames := 8, cells := 2, slots := 12, locals := 150 } : Room) s m args below meth c g (jQ below g o τ args s 2 12) 0 0 0 [(0, .ref a0), (1, .int v1), (2, .ref a2)] [] σ
  refine r_aload_n C (x := some a2) 1 rfl 2 dL_emboss_0 rfl ?_
  refine r_iconst C (v := 0) 2 rfl dL_emboss_1 (by decide) ?_
  refine r_aload_n C (x := some a0) 3 rfl 0 dL_emboss_2 rfl ?_
  refine r_iload_n C 4 rfl 1 dL_emboss_3 rfl ?_
  refine r_callV C (ci := 5) mm_L_67 im_yX5_emboss se_yX5_emboss rfl 7 2 12 rfl rfl rfl dL_emboss_4 rfl rfl (As := [.int v1]) rfl rfl (Nat.le_of_ble_eq_true rfl) ⟨Nat.le_of_ble_eq_true rfl, Nat.le_of_ble_eq_true rfl⟩ ⟨(Nat.le_of_ble_eq_true rfl), (Nat.le_of_ble_eq_true rfl)⟩ (fun o t h => k_X5_emboss l hst g _ _ _ o t h) h (fun w2 t1 h => ?_) (fun E t h => ?_)
  · replace h := jvI_some h
    obtain ⟨x3, rfl, h⟩ := h
    refine r_i2l C 8 rfl dL_emboss_7 ?_
    refine r_last C 9 rfl dL_emboss_8 h (fun t4 h => ?_)
    refine r_goto C 18 dL_emboss_9 (by decide) ?_
    refine r_iconst C (v := 0) 19 rfl dL_emboss_18 (by decide) ?_
    exact r_iret C dL_emboss_19 (Nat.le_refl _) (Nat.le_refl _) h
  · by_cases hq : E = "java/lang/IndexOutOfBoundsException"
    · rw [if_pos hq] at h
      subst hq
      refine r_catch C hT [] ⟨0, 9, 12, 32⟩ [⟨0, 9, 15, 15⟩] rfl (fun _ h => absurd h List.not_mem_nil) (by decide) (by decide) cl_L_32 (by decide +kernel) 12 rfl (fun q9 => ?_)
      refine r_astore_n C (x := some q9) 13 rfl [(3, .ref q9), (0, .ref a0), (1, .int v1), (2, .ref a2)] dL_emboss_12 (by decide) rfl ?_
      refine r_iconst C (v := 1) 14 rfl dL_emboss_13 (by decide) ?_
      exact r_iret C dL_emboss_14 (Nat.le_refl _) (Nat.le_refl _) h
    · rw [if_neg hq] at h
      by_cases hq : E = "java/lang/IllegalStateException"
      · rw [if_pos hq] at h
        subst hq
        refine r_catch C hT [⟨0, 9, 12, 32⟩] ⟨0, 9, 15, 15⟩ [] rfl (List.forall_mem_cons.mpr ⟨⟨by decide, _, cl_L_32, by decide +kernel⟩, (fun _ h => absurd h List.not_mem_nil)⟩) (by decide) (by decide) cl_L_15 (by decide +kernel) 15 rfl (fun q9 => ?_)
        refine r_astore_n C (x := some q9) 16 rfl [(3, .ref q9), (0, .ref a0), (1, .int v1), (2, .ref a2)] dL_emboss_15 (by decide) rfl ?_
        refine r_iconst C (v := 2) 17 rfl dL_emboss_16 (by decide) ?_
        exact r_iret C dL_emboss_17 (Nat.le_refl _) (Nat.le_refl _) h
      · rw [if_neg hq] at h
        cases h

def J_L_changed  (a0 : Nat) (v1 : Int32) (a2 : Nat) (σ : Hp) : jR := jcv σ a0 5 (J_X5_changed a0 v1 σ) (fun w2 t1 => jvI w2 (fun x3 => jsJ t1 a2 0 x3.toInt64 (fun t4 => some (.inl (some (.int 0)), t4)))) (fun E t => (if E = "java/lang/IndexOutOfBoundsException" then some (.inl (some (.int 1)), t) else none))
set_option maxHeartbeats 4000000 in
set_option maxRecDepth 100000 in
theorem k_L_changed (l : Launch) (hst : l.stackTraces = false) (g : jG)   (a0 : Nat) (v1 : Int32) (a2 : Nat) (σ : Hp) (o : jO) (τ : Hp) (h : J_L_changed a0 v1 a2 σ = some (o, τ)) : jMet l g yL_changed (Cond.codeWith yL_changed cL_changed 4 (some FieldType.int) [(0, 9, 12, 32)] :: gT) ({ frames := 8, cells := 1, slots := 6, locals := 166 } : Room) 1 6 [.ref a0, .int v1, .ref a2] σ o τ := by
  refine j_startH l hst (own := RL) (by decide) rfl (Nat.le_of_ble_eq_true rfl) ?_
  intro p e s m args below meth c C hT
  unfold J_L_changed at h
  show jW p l e ({ frames := 8, cells := 1, slots := 6, locals := 166 } : Room) s m args below meth c g (jQ below g o τ args s 1 6) 0 0 0 [(0, .ref a0), (1, .int v1), (2, .ref a2)] [] σ
  refine r_aload_n C (x := some a2) 1 rfl 2 dL_changed_0 rfl ?_
  refine r_iconst C (v := 0) 2 rfl dL_changed_1 (by decide) ?_
  refine r_aload_n C (x := some a0) 3 rfl 0 dL_changed_2 rfl ?_
  refine r_iload_n C 4 rfl 1 dL_changed_3 rfl ?_
  refine r_callV C (ci := 5) mm_L_70 im_yX5_changed se_yX5_changed rfl 7 1 6 rfl rfl rfl dL_changed_4 rfl rfl (As := [.int v1]) rfl rfl (Nat.le_of_ble_eq_true rfl) ⟨Nat.le_of_ble_eq_true rfl, Nat.le_of_ble_eq_true rfl⟩ ⟨(Nat.le_of_ble_eq_true rfl), (Nat.le_of_ble_eq_true rfl)⟩ (fun o t h => k_X5_changed l hst g _ _ _ o t h) h (fun w2 t1 h => ?_) (fun E t h => ?_)
  · replace h := jvI_some h
    obtain ⟨x3, rfl, h⟩ := h
    refine r_i2l C 8 rfl dL_changed_7 ?_
    refine r_last C 9 rfl dL_changed_8 h (fun t4 h => ?_)
    refine r_goto C 15 dL_changed_9 (by decide) ?_
    refine r_iconst C (v := 0) 16 rfl dL_changed_15 (by decide) ?_
    exact r_iret C dL_changed_16 (Nat.le_refl _) (Nat.le_refl _) h
  · by_cases hq : E = "java/lang/IndexOutOfBoundsException"
    · rw [if_pos hq] at h
      subst hq
      refine r_catch C hT [] ⟨0, 9, 12, 32⟩ [] rfl (fun _ h => absurd h List.not_mem_nil) (by decide) (by decide) cl_L_32 (by decide +kernel) 12 rfl (fun q9 => ?_)
      refine r_astore_n C (x := some q9) 13 rfl [(3, .ref q9), (0, .ref a0), (1, .int v1), (2, .ref a2)] dL_changed_12 (by decide) rfl ?_
      refine r_iconst C (v := 1) 14 rfl dL_changed_13 (by decide) ?_
      exact r_iret C dL_changed_14 (Nat.le_refl _) (Nat.le_refl _) h
    · rw [if_neg hq] at h
      cases h

def J_L_setBearing  (a0 : Nat) (v1 : Int32) (a2 : Nat) (σ : Hp) : jR := jcv σ a0 5 (J_X5_setBearing a0 v1 σ) (fun w2 t1 => jvI w2 (fun x3 => jsJ t1 a2 0 x3.toInt64 (fun t4 => some (.inl (some (.int 0)), t4)))) (fun E t => (if E = "java/lang/IllegalArgumentException" then some (.inl (some (.int 1)), t) else none))
set_option maxHeartbeats 4000000 in
set_option maxRecDepth 100000 in
theorem k_L_setBearing (l : Launch) (hst : l.stackTraces = false) (g : jG)   (a0 : Nat) (v1 : Int32) (a2 : Nat) (σ : Hp) (o : jO) (τ : Hp) (h : J_L_setBearing a0 v1 a2 σ = some (o, τ)) : jMet l g yL_setBearing (Cond.codeWith yL_setBearing cL_setBearing 4 (some FieldType.int) [(0, 9, 12, 13)] :: gT) ({ frames := 7, cells := 1, slots := 6, locals := 121 } : Room) 1 6 [.ref a0, .int v1, .ref a2] σ o τ := by
  refine j_startH l hst (own := RL) (by decide) rfl (Nat.le_of_ble_eq_true rfl) ?_
  intro p e s m args below meth c C hT
  unfold J_L_setBearing at h
  show jW p l e ({ frames := 7, cells := 1, slots := 6, locals := 121 } : Room) s m args below meth c g (jQ below g o τ args s 1 6) 0 0 0 [(0, .ref a0), (1, .int v1), (2, .ref a2)] [] σ
  refine r_aload_n C (x := some a2) 1 rfl 2 dL_setBearing_0 rfl ?_
  refine r_iconst C (v := 0) 2 rfl dL_setBearing_1 (by decide) ?_
  refine r_aload_n C (x := some a0) 3 rfl 0 dL_setBearing_2 rfl ?_
  refine r_iload_n C 4 rfl 1 dL_setBearing_3 rfl ?_
  refine r_callV C (ci := 5) mm_L_73 im_yX5_setBearing se_yX5_setBearing rfl 7 1 6 rfl rfl rfl dL_setBearing_4 rfl rfl (As := [.int v1]) rfl rfl (Nat.le_of_ble_eq_true rfl) ⟨Nat.le_of_ble_eq_true rfl, Nat.le_of_ble_eq_true rfl⟩ ⟨(Nat.le_of_ble_eq_true rfl), (Nat.le_of_ble_eq_true rfl)⟩ (fun o t h => k_X5_setBearing l hst g _ _ _ o t h) h (fun w2 t1 h => ?_) (fun E t h => ?_)
  · replace h := jvI_some h
    obtain ⟨x3, rfl, h⟩ := h
    refine r_i2l C 8 rfl dL_setBearing_7 ?_
    refine r_last C 9 rfl dL_setBearing_8 h (fun t4 h => ?_)
    refine r_goto C 15 dL_setBearing_9 (by decide) ?_
    refine r_iconst C (v := 0) 16 rfl dL_setBearing_15 (by decide) ?_
    exact r_iret C dL_setBearing_16 (Nat.le_refl _) (Nat.le_refl _) h
  · by_cases hq : E = "java/lang/IllegalArgumentException"
    · rw [if_pos hq] at h
      subst hq
      refine r_catch C hT [] ⟨0, 9, 12, 13⟩ [] rfl (fun _ h => absurd h List.not_mem_nil) (by decide) (by decide) cl_L_13 (by decide +kernel) 12 rfl (fun q9 => ?_)
      refine r_astore_n C (x := some q9) 13 rfl [(3, .ref q9), (0, .ref a0), (1, .int v1), (2, .ref a2)] dL_setBearing_12 (by decide) rfl ?_
      refine r_iconst C (v := 1) 14 rfl dL_setBearing_13 (by decide) ?_
      exact r_iret C dL_setBearing_14 (Nat.le_refl _) (Nat.le_refl _) h
    · rw [if_neg hq] at h
      cases h

def J_L_replace  (a0 : Nat) (v1 : Int32) (a2 : Nat) (σ : Hp) : jR := jcv σ a0 5 (J_X5_replace a0 v1 σ) (fun w2 t1 => jvI w2 (fun x3 => jsJ t1 a2 0 x3.toInt64 (fun t4 => some (.inl (some (.int 0)), t4)))) (fun E t => (if E = "java/lang/IndexOutOfBoundsException" then some (.inl (some (.int 1)), t) else none))
set_option maxHeartbeats 4000000 in
set_option maxRecDepth 100000 in
theorem k_L_replace (l : Launch) (hst : l.stackTraces = false) (g : jG)   (a0 : Nat) (v1 : Int32) (a2 : Nat) (σ : Hp) (o : jO) (τ : Hp) (h : J_L_replace a0 v1 a2 σ = some (o, τ)) : jMet l g yL_replace (Cond.codeWith yL_replace cL_replace 4 (some FieldType.int) [(0, 9, 12, 32)] :: gT) ({ frames := 7, cells := 1, slots := 6, locals := 121 } : Room) 1 6 [.ref a0, .int v1, .ref a2] σ o τ := by
  refine j_startH l hst (own := RL) (by decide) rfl (Nat.le_of_ble_eq_true rfl) ?_
  intro p e s m args below meth c C hT
  unfold J_L_replace at h
  show jW p l e ({ frames := 7, cells := 1, slots := 6, locals := 121 } : Room) s m args below meth c g (jQ below g o τ args s 1 6) 0 0 0 [(0, .ref a0), (1, .int v1), (2, .ref a2)] [] σ
  refine r_aload_n C (x := some a2) 1 rfl 2 dL_replace_0 rfl ?_
  refine r_iconst C (v := 0) 2 rfl dL_replace_1 (by decide) ?_
  refine r_aload_n C (x := some a0) 3 rfl 0 dL_replace_2 rfl ?_
  refine r_iload_n C 4 rfl 1 dL_replace_3 rfl ?_
  refine r_callV C (ci := 5) mm_L_76 im_yX5_replace se_yX5_replace rfl 7 1 6 rfl rfl rfl dL_replace_4 rfl rfl (As := [.int v1]) rfl rfl (Nat.le_of_ble_eq_true rfl) ⟨Nat.le_of_ble_eq_true rfl, Nat.le_of_ble_eq_true rfl⟩ ⟨(Nat.le_of_ble_eq_true rfl), (Nat.le_of_ble_eq_true rfl)⟩ (fun o t h => k_X5_replace l hst g _ _ _ o t h) h (fun w2 t1 h => ?_) (fun E t h => ?_)
  · replace h := jvI_some h
    obtain ⟨x3, rfl, h⟩ := h
    refine r_i2l C 8 rfl dL_replace_7 ?_
    refine r_last C 9 rfl dL_replace_8 h (fun t4 h => ?_)
    refine r_goto C 15 dL_replace_9 (by decide) ?_
    refine r_iconst C (v := 0) 16 rfl dL_replace_15 (by decide) ?_
    exact r_iret C dL_replace_16 (Nat.le_refl _) (Nat.le_refl _) h
  · by_cases hq : E = "java/lang/IndexOutOfBoundsException"
    · rw [if_pos hq] at h
      subst hq
      refine r_catch C hT [] ⟨0, 9, 12, 32⟩ [] rfl (fun _ h => absurd h List.not_mem_nil) (by decide) (by decide) cl_L_32 (by decide +kernel) 12 rfl (fun q9 => ?_)
      refine r_astore_n C (x := some q9) 13 rfl [(3, .ref q9), (0, .ref a0), (1, .int v1), (2, .ref a2)] dL_replace_12 (by decide) rfl ?_
      refine r_iconst C (v := 1) 14 rfl dL_replace_13 (by decide) ?_
      exact r_iret C dL_replace_14 (Nat.le_refl _) (Nat.le_refl _) h
    · rw [if_neg hq] at h
      cases h

def J_L_strikes  (a0 : Nat) (v1 : Int32) (a2 : Nat) (σ : Hp) : jR := jcv σ a0 5 (J_X5_strikes a0 v1 σ) (fun w2 t1 => jvI w2 (fun x3 => jsJ t1 a2 0 x3.toInt64 (fun t4 => some (.inl (some (.int 0)), t4)))) (fun E t => (if E = "java/lang/IndexOutOfBoundsException" then some (.inl (some (.int 1)), t) else none))
set_option maxHeartbeats 4000000 in
set_option maxRecDepth 100000 in
theorem k_L_strikes (l : Launch) (hst : l.stackTraces = false) (g : jG)   (a0 : Nat) (v1 : Int32) (a2 : Nat) (σ : Hp) (o : jO) (τ : Hp) (h : J_L_strikes a0 v1 a2 σ = some (o, τ)) : jMet l g yL_strikes (Cond.codeWith yL_strikes cL_strikes 4 (some FieldType.int) [(0, 9, 12, 32)] :: gT) ({ frames := 7, cells := 1, slots := 6, locals := 121 } : Room) 1 6 [.ref a0, .int v1, .ref a2] σ o τ := by
  refine j_startH l hst (own := RL) (by decide) rfl (Nat.le_of_ble_eq_true rfl) ?_
  intro p e s m args below meth c C hT
  unfold J_L_strikes at h
  show jW p l e ({ frames := 7, cells := 1, slots := 6, locals := 121 } : Room) s m args below meth c g (jQ below g o τ args s 1 6) 0 0 0 [(0, .ref a0), (1, .int v1), (2, .ref a2)] [] σ
  refine r_aload_n C (x := some a2) 1 rfl 2 dL_strikes_0 rfl ?_
  refine r_iconst C (v := 0) 2 rfl dL_strikes_1 (by decide) ?_
  refine r_aload_n C (x := some a0) 3 rfl 0 dL_strikes_2 rfl ?_
  refine r_iload_n C 4 rfl 1 dL_strikes_3 rfl ?_
  refine r_callV C (ci := 5) mm_L_79 im_yX5_strikes se_yX5_strikes rfl 7 1 6 rfl rfl rfl dL_strikes_4 rfl rfl (As := [.int v1]) rfl rfl (Nat.le_of_ble_eq_true rfl) ⟨Nat.le_of_ble_eq_true rfl, Nat.le_of_ble_eq_true rfl⟩ ⟨(Nat.le_of_ble_eq_true rfl), (Nat.le_of_ble_eq_true rfl)⟩ (fun o t h => k_X5_strikes l hst g _ _ _ o t h) h (fun w2 t1 h => ?_) (fun E t h => ?_)
  · replace h := jvI_some h
    obtain ⟨x3, rfl, h⟩ := h
    refine r_i2l C 8 rfl dL_strikes_7 ?_
    refine r_last C 9 rfl dL_strikes_8 h (fun t4 h => ?_)
    refine r_goto C 15 dL_strikes_9 (by decide) ?_
    refine r_iconst C (v := 0) 16 rfl dL_strikes_15 (by decide) ?_
    exact r_iret C dL_strikes_16 (Nat.le_refl _) (Nat.le_refl _) h
  · by_cases hq : E = "java/lang/IndexOutOfBoundsException"
    · rw [if_pos hq] at h
      subst hq
      refine r_catch C hT [] ⟨0, 9, 12, 32⟩ [] rfl (fun _ h => absurd h List.not_mem_nil) (by decide) (by decide) cl_L_32 (by decide +kernel) 12 rfl (fun q9 => ?_)
      refine r_astore_n C (x := some q9) 13 rfl [(3, .ref q9), (0, .ref a0), (1, .int v1), (2, .ref a2)] dL_strikes_12 (by decide) rfl ?_
      refine r_iconst C (v := 1) 14 rfl dL_strikes_13 (by decide) ?_
      exact r_iret C dL_strikes_14 (Nat.le_refl _) (Nat.le_refl _) h
    · rw [if_neg hq] at h
      cases h

def J_L_mark  (a0 : Nat) (v1 : Int32) (v2 : Int32) (v3 : Int32) (v4 : Int32) (a5 : Nat) (σ : Hp) : jR := jcv σ a0 5 (J_X5_mark a0 v1 v2 v3 v4 σ) (fun w2 t1 => jvI w2 (fun x3 => (if x3 = 0 then jsJ t1 a5 0 0 (fun t4 => some (.inl (some (.int 0)), t4)) else jsJ t1 a5 0 1 (fun t5 => some (.inl (some (.int 0)), t5))))) (fun E t => (if E = "java/lang/IndexOutOfBoundsException" then some (.inl (some (.int 1)), t) else none))
set_option maxHeartbeats 4000000 in
set_option maxRecDepth 100000 in
theorem k_L_mark (l : Launch) (hst : l.stackTraces = false) (g : jG)   (a0 : Nat) (v1 : Int32) (v2 : Int32) (v3 : Int32) (v4 : Int32) (a5 : Nat) (σ : Hp) (o : jO) (τ : Hp) (h : J_L_mark a0 v1 v2 v3 v4 a5 σ = some (o, τ)) : jMet l g yL_mark (Cond.codeWith yL_mark cL_mark 7 (some FieldType.int) [(0, 21, 24, 32)] :: gT) ({ frames := 9, cells := 2, slots := 12, locals := 171 } : Room) 2 12 [.ref a0, .int v1, .int v2, .int v3, .int v4, .ref a5] σ o τ := by
  refine j_startH l hst (own := RL) (by decide) rfl (Nat.le_of_ble_eq_true rfl) ?_
  intro p e s m args below meth c C hT
  unfold J_L_mark at h
  show jW p l e ({ frames := 9, cells := 2, slots := 12, locals := 171 } : Room) s m args below meth c g (jQ below g o τ args s 2 12) 0 0 0 [(0, .ref a0), (1, .int v1), (2, .int v2), (3, .int v3), (4, .int v4), (5, .ref a5)] [] σ
  refine r_aload C (x := some a5) 2 rfl 5 dL_mark_0 rfl ?_
  refine r_iconst C (v := 0) 3 rfl dL_mark_2 (by decide) ?_
  refine r_aload_n C (x := some a0) 4 rfl 0 dL_mark_3 rfl ?_
  refine r_iload_n C 5 rfl 1 dL_mark_4 rfl ?_
  refine r_iload_n C 6 rfl 2 dL_mark_5 rfl ?_
  refine r_iload_n C 7 rfl 3 dL_mark_6 rfl ?_
  refine r_iload C 9 rfl 4 dL_mark_7 rfl ?_
  refine r_callV C (ci := 5) mm_L_82 im_yX5_mark se_yX5_mark rfl 12 2 12 rfl rfl rfl dL_mark_9 rfl rfl (As := [.int v1, .int v2, .int v3, .int v4]) rfl rfl (Nat.le_of_ble_eq_true rfl) ⟨Nat.le_of_ble_eq_true rfl, Nat.le_of_ble_eq_true rfl⟩ ⟨(Nat.le_of_ble_eq_true rfl), (Nat.le_of_ble_eq_true rfl)⟩ (fun o t h => k_X5_mark l hst g _ _ _ _ _ _ o t h) h (fun w2 t1 h => ?_) (fun E t h => ?_)
  · replace h := jvI_some h
    obtain ⟨x3, rfl, h⟩ := h
    refine r_if_eq C 19 15 rfl dL_mark_12 (by decide) h (fun h => ?_) (fun h => ?_)
    · refine r_lconst C (v := 0) 20 rfl dL_mark_19 (by decide) ?_
      refine r_last C 21 rfl dL_mark_20 h (fun t4 h => ?_)
      refine r_goto C 28 dL_mark_21 (by decide) ?_
      refine r_iconst C (v := 0) 29 rfl dL_mark_28 (by decide) ?_
      exact r_iret C dL_mark_29 (Nat.le_refl _) (Nat.le_refl _) h
    · refine r_lconst C (v := 1) 16 rfl dL_mark_15 (by decide) ?_
      refine r_goto C 20 dL_mark_16 (by decide) ?_
      refine r_last C 21 rfl dL_mark_20 h (fun t5 h => ?_)
      refine r_goto C 28 dL_mark_21 (by decide) ?_
      refine r_iconst C (v := 0) 29 rfl dL_mark_28 (by decide) ?_
      exact r_iret C dL_mark_29 (Nat.le_refl _) (Nat.le_refl _) h
  · by_cases hq : E = "java/lang/IndexOutOfBoundsException"
    · rw [if_pos hq] at h
      subst hq
      refine r_catch C hT [] ⟨0, 21, 24, 32⟩ [] rfl (fun _ h => absurd h List.not_mem_nil) (by decide) (by decide) cl_L_32 (by decide +kernel) 24 rfl (fun q9 => ?_)
      refine r_astore C (x := some q9) 26 rfl [(6, .ref q9), (0, .ref a0), (1, .int v1), (2, .int v2), (3, .int v3), (4, .int v4), (5, .ref a5)] dL_mark_24 (by decide) rfl ?_
      refine r_iconst C (v := 1) 27 rfl dL_mark_26 (by decide) ?_
      exact r_iret C dL_mark_27 (Nat.le_refl _) (Nat.le_refl _) h
    · rw [if_neg hq] at h
      cases h

def J_L_markOf  (a0 : Nat) (v1 : Int32) (v2 : Int32) (v3 : Int32) (a4 : Nat) (σ : Hp) : jR := jcv σ a0 5 (J_X5_markOf a0 v1 v2 v3 σ) (fun w2 t1 => jvI w2 (fun x3 => jsJ t1 a4 0 x3.toInt64 (fun t4 => some (.inl (some (.int 0)), t4)))) (fun E t => (if E = "java/lang/IndexOutOfBoundsException" then some (.inl (some (.int 1)), t) else none))
set_option maxHeartbeats 4000000 in
set_option maxRecDepth 100000 in
theorem k_L_markOf (l : Launch) (hst : l.stackTraces = false) (g : jG)   (a0 : Nat) (v1 : Int32) (v2 : Int32) (v3 : Int32) (a4 : Nat) (σ : Hp) (o : jO) (τ : Hp) (h : J_L_markOf a0 v1 v2 v3 a4 σ = some (o, τ)) : jMet l g yL_markOf (Cond.codeWith yL_markOf cL_markOf 6 (some FieldType.int) [(0, 12, 15, 32)] :: gT) ({ frames := 9, cells := 2, slots := 12, locals := 168 } : Room) 2 12 [.ref a0, .int v1, .int v2, .int v3, .ref a4] σ o τ := by
  refine j_startH l hst (own := RL) (by decide) rfl (Nat.le_of_ble_eq_true rfl) ?_
  intro p e s m args below meth c C hT
  unfold J_L_markOf at h
  show jW p l e ({ frames := 9, cells := 2, slots := 12, locals := 168 } : Room) s m args below meth c g (jQ below g o τ args s 2 12) 0 0 0 [(0, .ref a0), (1, .int v1), (2, .int v2), (3, .int v3), (4, .ref a4)] [] σ
  refine r_aload C (x := some a4) 2 rfl 4 dL_markOf_0 rfl ?_
  refine r_iconst C (v := 0) 3 rfl dL_markOf_2 (by decide) ?_
  refine r_aload_n C (x := some a0) 4 rfl 0 dL_markOf_3 rfl ?_
  refine r_iload_n C 5 rfl 1 dL_markOf_4 rfl ?_
  refine r_iload_n C 6 rfl 2 dL_markOf_5 rfl ?_
  refine r_iload_n C 7 rfl 3 dL_markOf_6 rfl ?_
  refine r_callV C (ci := 5) mm_L_86 im_yX5_markOf se_yX5_markOf rfl 10 2 12 rfl rfl rfl dL_markOf_7 rfl rfl (As := [.int v1, .int v2, .int v3]) rfl rfl (Nat.le_of_ble_eq_true rfl) ⟨Nat.le_of_ble_eq_true rfl, Nat.le_of_ble_eq_true rfl⟩ ⟨(Nat.le_of_ble_eq_true rfl), (Nat.le_of_ble_eq_true rfl)⟩ (fun o t h => k_X5_markOf l hst g _ _ _ _ _ o t h) h (fun w2 t1 h => ?_) (fun E t h => ?_)
  · replace h := jvI_some h
    obtain ⟨x3, rfl, h⟩ := h
    refine r_i2l C 11 rfl dL_markOf_10 ?_
    refine r_last C 12 rfl dL_markOf_11 h (fun t4 h => ?_)
    refine r_goto C 19 dL_markOf_12 (by decide) ?_
    refine r_iconst C (v := 0) 20 rfl dL_markOf_19 (by decide) ?_
    exact r_iret C dL_markOf_20 (Nat.le_refl _) (Nat.le_refl _) h
  · by_cases hq : E = "java/lang/IndexOutOfBoundsException"
    · rw [if_pos hq] at h
      subst hq
      refine r_catch C hT [] ⟨0, 12, 15, 32⟩ [] rfl (fun _ h => absurd h List.not_mem_nil) (by decide) (by decide) cl_L_32 (by decide +kernel) 15 rfl (fun q9 => ?_)
      refine r_astore C (x := some q9) 17 rfl [(5, .ref q9), (0, .ref a0), (1, .int v1), (2, .int v2), (3, .int v3), (4, .ref a4)] dL_markOf_15 (by decide) rfl ?_
      refine r_iconst C (v := 1) 18 rfl dL_markOf_17 (by decide) ?_
      exact r_iret C dL_markOf_18 (Nat.le_refl _) (Nat.le_refl _) h
    · rw [if_neg hq] at h
      cases h

def J_L_provedShare  (a0 : Nat) (a1 : Nat) (σ : Hp) : jR := jcv σ a0 5 (J_X5_provedShare a0 σ) (fun w2 t1 => jvF w2 (fun x3 => jn64 (FP.f2d x3) (jsD t1 a1 0 (FP.f2d x3) (fun t4 => some (.inl (some (.int 0)), t4))))) (fun E t => (if E = "java/lang/ArithmeticException" then some (.inl (some (.int 1)), t) else none))
set_option maxHeartbeats 4000000 in
set_option maxRecDepth 100000 in
theorem k_L_provedShare (l : Launch) (hst : l.stackTraces = false) (g : jG)   (a0 : Nat) (a1 : Nat) (σ : Hp) (o : jO) (τ : Hp) (h : J_L_provedShare a0 a1 σ = some (o, τ)) : jMet l g yL_provedShare (Cond.codeWith yL_provedShare cL_provedShare 3 (some FieldType.int) [(0, 8, 11, 94)] :: gT) ({ frames := 7, cells := 1, slots := 6, locals := 126 } : Room) 1 6 [.ref a0, .ref a1] σ o τ := by
  refine j_startH l hst (own := RL) (by decide) rfl (Nat.le_of_ble_eq_true rfl) ?_
  intro p e s m args below meth c C hT
  unfold J_L_provedShare at h
  show jW p l e ({ frames := 7, cells := 1, slots := 6, locals := 126 } : Room) s m args below meth c g (jQ below g o τ args s 1 6) 0 0 0 [(0, .ref a0), (1, .ref a1)] [] σ
  refine r_aload_n C (x := some a1) 1 rfl 1 dL_provedShare_0 rfl ?_
  refine r_iconst C (v := 0) 2 rfl dL_provedShare_1 (by decide) ?_
  refine r_aload_n C (x := some a0) 3 rfl 0 dL_provedShare_2 rfl ?_
  refine r_callV C (ci := 5) mm_L_90 im_yX5_provedShare se_yX5_provedShare rfl 6 1 6 rfl rfl rfl dL_provedShare_3 rfl rfl (As := []) rfl rfl (Nat.le_of_ble_eq_true rfl) ⟨Nat.le_of_ble_eq_true rfl, Nat.le_of_ble_eq_true rfl⟩ ⟨(Nat.le_of_ble_eq_true rfl), (Nat.le_of_ble_eq_true rfl)⟩ (fun o t h => k_X5_provedShare l hst g _ _ o t h) h (fun w2 t1 h => ?_) (fun E t h => ?_)
  · replace h := jvF_some h
    obtain ⟨x3, rfl, h⟩ := h
    refine r_f2d C 7 rfl dL_provedShare_6 h (fun h => ?_)
    refine r_dast C 8 rfl dL_provedShare_7 h (fun t4 h => ?_)
    refine r_goto C 14 dL_provedShare_8 (by decide) ?_
    refine r_iconst C (v := 0) 15 rfl dL_provedShare_14 (by decide) ?_
    exact r_iret C dL_provedShare_15 (Nat.le_refl _) (Nat.le_refl _) h
  · by_cases hq : E = "java/lang/ArithmeticException"
    · rw [if_pos hq] at h
      subst hq
      refine r_catch C hT [] ⟨0, 8, 11, 94⟩ [] rfl (fun _ h => absurd h List.not_mem_nil) (by decide) (by decide) cl_L_94 (by decide +kernel) 11 rfl (fun q9 => ?_)
      refine r_astore_n C (x := some q9) 12 rfl [(2, .ref q9), (0, .ref a0), (1, .ref a1)] dL_provedShare_11 (by decide) rfl ?_
      refine r_iconst C (v := 1) 13 rfl dL_provedShare_12 (by decide) ?_
      exact r_iret C dL_provedShare_13 (Nat.le_refl _) (Nat.le_refl _) h
    · rw [if_neg hq] at h
      cases h
