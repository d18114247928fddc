def J_X1_init (c1 : Nat) (c2 : Nat) (a0 : Nat) (v1 : Int32) (v2 : Int32) (σ : Hp) : jR := jnw σ 2 (fun b1 t2 => jcv t2 b1 2 (J_X2_init c2 b1 v2 t2) (fun w4 t3 => jvV w4 (jpR t3 a0 1 0 (some b1) (fun t5 => jnw t5 2 (fun b6 t7 => jcv t7 b6 2 (J_X2_init c1 b6 v1 t7) (fun w9 t8 => jvV w9 (jpR t8 a0 1 1 (some b6) (fun t10 => some (.inl none, t10)))) (fun E t => some (.inr E, t)))))) (fun E t => some (.inr E, t)))
set_option maxHeartbeats 4000000 in
set_option maxRecDepth 100000 in
theorem k_X1_init (l : Launch) (hst : l.stackTraces = false) (g : jG) (c1 : Nat) (c2 : Nat) (hc_c1 : c1 ≤ 100000) (hc_c2 : c2 ≤ 100000) (a0 : Nat) (v1 : Int32) (v2 : Int32) (σ : Hp) (o : jO) (τ : Hp) (h : J_X1_init c1 c2 a0 v1 v2 σ = some (o, τ)) : jMet l g yX1_init (Cond.code yX1_init cX1_init 3 none :: gT) ({ frames := 2, cells := 4, slots := 2 + c2 + 2 + c1, locals := 47 } : Room) 4 (2 + c2 + 2 + c1) [.ref a0, .int v1, .int v2] σ o τ := by
  refine j_start l hst (own := RX1) (by decide) rfl (Nat.le_of_ble_eq_true rfl) ?_
  intro p e s m args below meth c C hE hin
  unfold J_X1_init at h
  show jW p l e ({ frames := 2, cells := 4, slots := 2 + c2 + 2 + c1, locals := 47 } : Room) s m args below meth c g (jQ below g o τ args s 4 (2 + c2 + 2 + c1)) 0 0 0 [(0, .ref a0), (1, .int v1), (2, .int v2)] [] σ
  refine r_aload_n C (x := some a0) 1 rfl 0 dX1_init_0 rfl ?_
  refine r_objInit C 4 rfl ml_X1_1 im_oi cd_oi dX1_init_1 (Nat.le_of_ble_eq_true rfl) (Nat.le_of_ble_eq_true rfl) ?_
  refine r_aload_n C (x := some a0) 5 rfl 0 dX1_init_4 rfl ?_
  refine r_new C 8 rfl tyX2 (ci := 2) rfl tyX2_ok nw_X2 lay_X2 cl_X1_7 ins_X2 ini_X2 dX1_init_5 (Nat.le_of_ble_eq_true rfl) (by show 2 ≤ 2 + c2 + 2 + c1; omega) h (fun b1 t2 h => ?_)
  refine r_dup C 9 rfl dX1_init_8 rfl ?_
  refine r_iload_n C 10 rfl 2 dX1_init_9 rfl ?_
  refine r_callI C (ci := 2) mm_X1_9 im_yX2_init rfl 13 2 (2 + c2) rfl rfl rfl dX1_init_10 rfl rfl (As := [.int v2]) rfl rfl (Nat.le_of_ble_eq_true rfl) ⟨Nat.le_of_ble_eq_true rfl, Nat.le_of_ble_eq_true rfl⟩ ⟨(Nat.le_of_ble_eq_true rfl), (by show 2 + c2 ≤ 2 + c2 + 2 + c1; omega)⟩ (fun o t h => k_X2_init l hst g c2 hc_c2 _ _ _ o t h) h (fun w4 t3 h => ?_) (fun E t h => r_out C (fun x hx => (hE x hx).elim) (Nat.le_of_ble_eq_true rfl) (by omega) h)
  replace h := jvV_some h
  obtain ⟨rfl, h⟩ := h
  refine r_putRF C hin (v := (some b1)) 16 rfl fp_X1_12 dX1_init_13 h (fun t5 h => ?_)
  refine r_aload_n C (x := some a0) 17 rfl 0 dX1_init_16 rfl ?_
  refine r_new C 20 rfl tyX2 (ci := 2) rfl tyX2_ok nw_X2 lay_X2 cl_X1_7 ins_X2 ini_X2 dX1_init_17 (Nat.le_of_ble_eq_true rfl) (by show 2 + c2 + 2 ≤ 2 + c2 + 2 + c1; omega) h (fun b6 t7 h => ?_)
  refine r_dup C 21 rfl dX1_init_20 rfl ?_
  refine r_iload_n C 22 rfl 1 dX1_init_21 rfl ?_
  refine r_callI C (ci := 2) mm_X1_9 im_yX2_init rfl 25 4 (2 + c2 + 2 + c1) rfl rfl rfl dX1_init_22 rfl rfl (As := [.int v1]) rfl rfl (Nat.le_of_ble_eq_true rfl) ⟨Nat.le_of_ble_eq_true rfl, Nat.le_of_ble_eq_true rfl⟩ ⟨(Nat.le_of_ble_eq_true rfl), (by show 2 + c2 + 2 + c1 ≤ 2 + c2 + 2 + c1; omega)⟩ (fun o t h => k_X2_init l hst g c1 hc_c1 _ _ _ o t h) h (fun w9 t8 h => ?_) (fun E t h => r_out C (fun x hx => (hE x hx).elim) (Nat.le_refl _) (Nat.le_refl _) h)
  replace h := jvV_some h
  obtain ⟨rfl, h⟩ := h
  refine r_putRF C hin (v := (some b6)) 28 rfl fp_X1_18 dX1_init_25 h (fun t10 h => ?_)
  exact r_vret C dX1_init_28 (Nat.le_refl _) (Nat.le_refl _) h

def J_X1_uncut  (a0 : Nat) (σ : Hp) : jR := jgR σ a0 1 0 (fun r1 => jdr r1 (fun b2 => some (.inl (some (.ref b2)), σ)))
set_option maxHeartbeats 4000000 in
set_option maxRecDepth 100000 in
theorem k_X1_uncut (l : Launch) (hst : l.stackTraces = false) (g : jG)   (a0 : Nat) (σ : Hp) (o : jO) (τ : Hp) (h : J_X1_uncut a0 σ = some (o, τ)) : jMet l g yX1_uncut (Cond.code yX1_uncut cX1_uncut 1 (some (FieldType.object "Dotpress$Row")) :: gT) ({ frames := 1, cells := 0, slots := 0, locals := 12 } : Room) 0 0 [.ref a0] σ o τ := by
  refine j_start l hst (own := RX1) (by decide) rfl (Nat.le_of_ble_eq_true rfl) ?_
  intro p e s m args below meth c C hE hin
  unfold J_X1_uncut at h
  show jW p l e ({ frames := 1, cells := 0, slots := 0, locals := 12 } : Room) s m args below meth c g (jQ below g o τ args s 0 0) 0 0 0 [(0, .ref a0)] [] σ
  refine r_aload_n C (x := some a0) 1 rfl 0 dX1_uncut_0 rfl ?_
  refine r_getR C 4 rfl ff_X1_12 dX1_uncut_1 h (fun r1 h => ?_)
  replace h := jdr_some h
  obtain ⟨b2, hr, h⟩ := h
  rw [hr]
  exact r_aret C (Or.inl ⟨_, rfl⟩) dX1_uncut_4 (Nat.le_refl _) (Nat.le_refl _) h

def J_X1_count  (a0 : Nat) (σ : Hp) : jR := jgR σ a0 1 1 (fun r1 => jdr r1 (fun b2 => jcv σ b2 2 (J_X2_count b2 σ) (fun w4 t3 => jvI w4 (fun x5 => some (.inl (some (.int x5)), t3))) (fun E t => some (.inr E, t))))
set_option maxHeartbeats 4000000 in
set_option maxRecDepth 100000 in
theorem k_X1_count (l : Launch) (hst : l.stackTraces = false) (g : jG)   (a0 : Nat) (σ : Hp) (o : jO) (τ : Hp) (h : J_X1_count a0 σ = some (o, τ)) : jMet l g yX1_count (Cond.code yX1_count cX1_count 1 (some FieldType.int) :: gT) ({ frames := 2, cells := 0, slots := 0, locals := 32 } : Room) 0 0 [.ref a0] σ o τ := by
  refine j_start l hst (own := RX1) (by decide) rfl (Nat.le_of_ble_eq_true rfl) ?_
  intro p e s m args below meth c C hE hin
  unfold J_X1_count at h
  show jW p l e ({ frames := 2, cells := 0, slots := 0, locals := 32 } : Room) s m args below meth c g (jQ below g o τ args s 0 0) 0 0 0 [(0, .ref a0)] [] σ
  refine r_aload_n C (x := some a0) 1 rfl 0 dX1_count_0 rfl ?_
  refine r_getR C 4 rfl ff_X1_18 dX1_count_1 h (fun r1 h => ?_)
  replace h := jdr_some h
  obtain ⟨b2, hr, h⟩ := h
  rw [hr]
  refine r_callV C (ci := 2) mm_X1_21 im_yX2_count se_yX2_count rfl 7 0 0 rfl rfl rfl dX1_count_4 rfl rfl (As := []) rfl rfl (Nat.le_of_ble_eq_true rfl) ⟨Nat.le_of_ble_eq_true rfl, Nat.le_of_ble_eq_true rfl⟩ ⟨(Nat.le_of_ble_eq_true rfl), (Nat.le_of_ble_eq_true rfl)⟩ (fun o t h => k_X2_count l hst g _ _ o t h) h (fun w4 t3 h => ?_) (fun E t h => r_out C (fun x hx => (hE x hx).elim) (Nat.le_refl _) (Nat.le_refl _) h)
  replace h := jvI_some h
  obtain ⟨x5, rfl, h⟩ := h
  exact r_iret C dX1_count_7 (Nat.le_refl _) (Nat.le_refl _) h

def J_X1_startOf  (a0 : Nat) (v1 : Int32) (σ : Hp) : jR := (if v1 = 0 then some (.inl (some (.int 0)), σ) else jgR σ a0 1 1 (fun r1 => jdr r1 (fun b2 => jcv σ b2 2 (J_X2_get b2 (v1 - 1) σ) (fun w4 t3 => jvI w4 (fun x5 => some (.inl (some (.int x5)), t3))) (fun E t => some (.inr E, t)))))
set_option maxHeartbeats 4000000 in
set_option maxRecDepth 100000 in
theorem k_X1_startOf (l : Launch) (hst : l.stackTraces = false) (g : jG)   (a0 : Nat) (v1 : Int32) (σ : Hp) (o : jO) (τ : Hp) (h : J_X1_startOf a0 v1 σ = some (o, τ)) : jMet l g yX1_startOf (Cond.code yX1_startOf cX1_startOf 2 (some FieldType.int) :: gT) ({ frames := 2, cells := 0, slots := 0, locals := 33 } : Room) 0 0 [.ref a0, .int v1] σ o τ := by
  refine j_start l hst (own := RX1) (by decide) rfl (Nat.le_of_ble_eq_true rfl) ?_
  intro p e s m args below meth c C hE hin
  unfold J_X1_startOf at h
  show jW p l e ({ frames := 2, cells := 0, slots := 0, locals := 33 } : Room) s m args below meth c g (jQ below g o τ args s 0 0) 0 0 0 [(0, .ref a0), (1, .int v1)] [] σ
  refine r_iload_n C 1 rfl 1 dX1_startOf_0 rfl ?_
  refine r_if_ne C 8 4 rfl dX1_startOf_1 (by decide) h (fun h => ?_) (fun h => ?_)
  · refine r_aload_n C (x := some a0) 9 rfl 0 dX1_startOf_8 rfl ?_
    refine r_getR C 12 rfl ff_X1_18 dX1_startOf_9 h (fun r1 h => ?_)
    refine r_iload_n C 13 rfl 1 dX1_startOf_12 rfl ?_
    refine r_iconst C (v := 1) 14 rfl dX1_startOf_13 (by decide) ?_
    refine r_isub C 15 rfl dX1_startOf_14 ?_
    replace h := jdr_some h
    obtain ⟨b2, hr, h⟩ := h
    rw [hr]
    refine r_callV C (ci := 2) mm_X1_25 im_yX2_get se_yX2_get rfl 18 0 0 rfl rfl rfl dX1_startOf_15 rfl rfl (As := [.int (v1 - 1)]) rfl rfl (Nat.le_of_ble_eq_true rfl) ⟨Nat.le_of_ble_eq_true rfl, Nat.le_of_ble_eq_true rfl⟩ ⟨(Nat.le_of_ble_eq_true rfl), (Nat.le_of_ble_eq_true rfl)⟩ (fun o t h => k_X2_get l hst g _ _ _ o t h) h (fun w4 t3 h => ?_) (fun E t h => r_out C (fun x hx => (hE x hx).elim) (Nat.le_refl _) (Nat.le_refl _) h)
    replace h := jvI_some h
    obtain ⟨x5, rfl, h⟩ := h
    exact r_iret C dX1_startOf_18 (Nat.le_refl _) (Nat.le_refl _) h
  · refine r_iconst C (v := 0) 5 rfl dX1_startOf_4 (by decide) ?_
    refine r_goto C 18 dX1_startOf_5 (by decide) ?_
    exact r_iret C dX1_startOf_18 (Nat.le_refl _) (Nat.le_refl _) h

def J_X1_endOf  (a0 : Nat) (v1 : Int32) (σ : Hp) : jR := jgR σ a0 1 1 (fun r1 => jdr r1 (fun b2 => jcv σ b2 2 (J_X2_get b2 v1 σ) (fun w4 t3 => jvI w4 (fun x5 => some (.inl (some (.int x5)), t3))) (fun E t => some (.inr E, t))))
set_option maxHeartbeats 4000000 in
set_option maxRecDepth 100000 in
theorem k_X1_endOf (l : Launch) (hst : l.stackTraces = false) (g : jG)   (a0 : Nat) (v1 : Int32) (σ : Hp) (o : jO) (τ : Hp) (h : J_X1_endOf a0 v1 σ = some (o, τ)) : jMet l g yX1_endOf (Cond.code yX1_endOf cX1_endOf 2 (some FieldType.int) :: gT) ({ frames := 2, cells := 0, slots := 0, locals := 33 } : Room) 0 0 [.ref a0, .int v1] σ o τ := by
  refine j_start l hst (own := RX1) (by decide) rfl (Nat.le_of_ble_eq_true rfl) ?_
  intro p e s m args below meth c C hE hin
  unfold J_X1_endOf at h
  show jW p l e ({ frames := 2, cells := 0, slots := 0, locals := 33 } : Room) s m args below meth c g (jQ below g o τ args s 0 0) 0 0 0 [(0, .ref a0), (1, .int v1)] [] σ
  refine r_aload_n C (x := some a0) 1 rfl 0 dX1_endOf_0 rfl ?_
  refine r_getR C 4 rfl ff_X1_18 dX1_endOf_1 h (fun r1 h => ?_)
  refine r_iload_n C 5 rfl 1 dX1_endOf_4 rfl ?_
  replace h := jdr_some h
  obtain ⟨b2, hr, h⟩ := h
  rw [hr]
  refine r_callV C (ci := 2) mm_X1_25 im_yX2_get se_yX2_get rfl 8 0 0 rfl rfl rfl dX1_endOf_5 rfl rfl (As := [.int v1]) rfl rfl (Nat.le_of_ble_eq_true rfl) ⟨Nat.le_of_ble_eq_true rfl, Nat.le_of_ble_eq_true rfl⟩ ⟨(Nat.le_of_ble_eq_true rfl), (Nat.le_of_ble_eq_true rfl)⟩ (fun o t h => k_X2_get l hst g _ _ _ o t h) h (fun w4 t3 h => ?_) (fun E t h => r_out C (fun x hx => (hE x hx).elim) (Nat.le_refl _) (Nat.le_refl _) h)
  replace h := jvI_some h
  obtain ⟨x5, rfl, h⟩ := h
  exact r_iret C dX1_endOf_8 (Nat.le_refl _) (Nat.le_refl _) h

def J_X1_sizeOf  (a0 : Nat) (v1 : Int32) (σ : Hp) : jR := jcv σ a0 1 (J_X1_endOf a0 v1 σ) (fun w2 t1 => jvI w2 (fun x3 => jcv t1 a0 1 (J_X1_startOf a0 v1 t1) (fun w5 t4 => jvI w5 (fun x6 => some (.inl (some (.int (x3 - x6))), t4))) (fun E t => some (.inr E, t)))) (fun E t => some (.inr E, t))
set_option maxHeartbeats 4000000 in
set_option maxRecDepth 100000 in
theorem k_X1_sizeOf (l : Launch) (hst : l.stackTraces = false) (g : jG)   (a0 : Nat) (v1 : Int32) (σ : Hp) (o : jO) (τ : Hp) (h : J_X1_sizeOf a0 v1 σ = some (o, τ)) : jMet l g yX1_sizeOf (Cond.code yX1_sizeOf cX1_sizeOf 2 (some FieldType.int) :: gT) ({ frames := 3, cells := 0, slots := 0, locals := 54 } : Room) 0 0 [.ref a0, .int v1] σ o τ := by
  refine j_start l hst (own := RX1) (by decide) rfl (Nat.le_of_ble_eq_true rfl) ?_
  intro p e s m args below meth c C hE hin
  unfold J_X1_sizeOf at h
  show jW p l e ({ frames := 3, cells := 0, slots := 0, locals := 54 } : Room) s m args below meth c g (jQ below g o τ args s 0 0) 0 0 0 [(0, .ref a0), (1, .int v1)] [] σ
  refine r_aload_n C (x := some a0) 1 rfl 0 dX1_sizeOf_0 rfl ?_
  refine r_iload_n C 2 rfl 1 dX1_sizeOf_1 rfl ?_
  refine r_callV C (ci := 1) mm_X1_29 im_yX1_endOf se_yX1_endOf rfl 5 0 0 rfl rfl rfl dX1_sizeOf_2 rfl rfl (As := [.int v1]) rfl rfl (Nat.le_of_ble_eq_true rfl) ⟨Nat.le_of_ble_eq_true rfl, Nat.le_of_ble_eq_true rfl⟩ ⟨(Nat.le_of_ble_eq_true rfl), (Nat.le_of_ble_eq_true rfl)⟩ (fun o t h => k_X1_endOf l hst g _ _ _ o t h) h (fun w2 t1 h => ?_) (fun E t h => r_out C (fun x hx => (hE x hx).elim) (Nat.le_refl _) (Nat.le_refl _) h)
  replace h := jvI_some h
  obtain ⟨x3, rfl, h⟩ := h
  refine r_aload_n C (x := some a0) 6 rfl 0 dX1_sizeOf_5 rfl ?_
  refine r_iload_n C 7 rfl 1 dX1_sizeOf_6 rfl ?_
  refine r_callV C (ci := 1) mm_X1_32 im_yX1_startOf se_yX1_startOf rfl 10 0 0 rfl rfl rfl dX1_sizeOf_7 rfl rfl (As := [.int v1]) rfl rfl (Nat.le_of_ble_eq_true rfl) ⟨Nat.le_of_ble_eq_true rfl, Nat.le_of_ble_eq_true rfl⟩ ⟨(Nat.le_of_ble_eq_true rfl), (Nat.le_of_ble_eq_true rfl)⟩ (fun o t h => k_X1_startOf l hst g _ _ _ o t h) h (fun w5 t4 h => ?_) (fun E t h => r_out C (fun x hx => (hE x hx).elim) (Nat.le_refl _) (Nat.le_refl _) h)
  replace h := jvI_some h
  obtain ⟨x6, rfl, h⟩ := h
  refine r_isub C 11 rfl dX1_sizeOf_10 ?_
  exact r_iret C dX1_sizeOf_11 (Nat.le_refl _) (Nat.le_refl _) h

def J_X1_get  (a0 : Nat) (v1 : Int32) (v2 : Int32) (σ : Hp) : jR := jgR σ a0 1 0 (fun r1 => jdr r1 (fun b2 => jcv σ a0 1 (J_X1_startOf a0 v1 σ) (fun w4 t3 => jvI w4 (fun x5 => jcv t3 b2 2 (J_X2_get b2 (x5 + v2) t3) (fun w7 t6 => jvI w7 (fun x8 => some (.inl (some (.int x8)), t6))) (fun E t => some (.inr E, t)))) (fun E t => some (.inr E, t))))
set_option maxHeartbeats 4000000 in
set_option maxRecDepth 100000 in
theorem k_X1_get (l : Launch) (hst : l.stackTraces = false) (g : jG)   (a0 : Nat) (v1 : Int32) (v2 : Int32) (σ : Hp) (o : jO) (τ : Hp) (h : J_X1_get a0 v1 v2 σ = some (o, τ)) : jMet l g yX1_get (Cond.code yX1_get cX1_get 3 (some FieldType.int) :: gT) ({ frames := 3, cells := 0, slots := 0, locals := 54 } : Room) 0 0 [.ref a0, .int v1, .int v2] σ o τ := by
  refine j_start l hst (own := RX1) (by decide) rfl (Nat.le_of_ble_eq_true rfl) ?_
  intro p e s m args below meth c C hE hin
  unfold J_X1_get at h
  show jW p l e ({ frames := 3, cells := 0, slots := 0, locals := 54 } : Room) s m args below meth c g (jQ below g o τ args s 0 0) 0 0 0 [(0, .ref a0), (1, .int v1), (2, .int v2)] [] σ
  refine r_aload_n C (x := some a0) 1 rfl 0 dX1_get_0 rfl ?_
  refine r_getR C 4 rfl ff_X1_12 dX1_get_1 h (fun r1 h => ?_)
  refine r_aload_n C (x := some a0) 5 rfl 0 dX1_get_4 rfl ?_
  refine r_iload_n C 6 rfl 1 dX1_get_5 rfl ?_
  replace h := jdr_some h
  obtain ⟨b2, hr, h⟩ := h
  rw [hr]
  refine r_callV C (ci := 1) mm_X1_32 im_yX1_startOf se_yX1_startOf rfl 9 0 0 rfl rfl rfl dX1_get_6 rfl rfl (As := [.int v1]) rfl rfl (Nat.le_of_ble_eq_true rfl) ⟨Nat.le_of_ble_eq_true rfl, Nat.le_of_ble_eq_true rfl⟩ ⟨(Nat.le_of_ble_eq_true rfl), (Nat.le_of_ble_eq_true rfl)⟩ (fun o t h => k_X1_startOf l hst g _ _ _ o t h) h (fun w4 t3 h => ?_) (fun E t h => r_out C (fun x hx => (hE x hx).elim) (Nat.le_refl _) (Nat.le_refl _) h)
  replace h := jvI_some h
  obtain ⟨x5, rfl, h⟩ := h
  refine r_iload_n C 10 rfl 2 dX1_get_9 rfl ?_
  refine r_iadd C 11 rfl dX1_get_10 ?_
  refine r_callV C (ci := 2) mm_X1_25 im_yX2_get se_yX2_get rfl 14 0 0 rfl rfl rfl dX1_get_11 rfl rfl (As := [.int (x5 + v2)]) rfl rfl (Nat.le_of_ble_eq_true rfl) ⟨Nat.le_of_ble_eq_true rfl, Nat.le_of_ble_eq_true rfl⟩ ⟨(Nat.le_of_ble_eq_true rfl), (Nat.le_of_ble_eq_true rfl)⟩ (fun o t h => k_X2_get l hst g _ _ _ o t h) h (fun w7 t6 h => ?_) (fun E t h => r_out C (fun x hx => (hE x hx).elim) (Nat.le_refl _) (Nat.le_refl _) h)
  replace h := jvI_some h
  obtain ⟨x8, rfl, h⟩ := h
  exact r_iret C dX1_get_14 (Nat.le_refl _) (Nat.le_refl _) h

def J_X1_uncutSize  (a0 : Nat) (σ : Hp) : jR := jgR σ a0 1 0 (fun r1 => jdr r1 (fun b2 => jcv σ b2 2 (J_X2_count b2 σ) (fun w4 t3 => jvI w4 (fun x5 => jcv t3 a0 1 (J_X1_count a0 t3) (fun w7 t6 => jvI w7 (fun x8 => jcv t6 a0 1 (J_X1_startOf a0 x8 t6) (fun w10 t9 => jvI w10 (fun x11 => some (.inl (some (.int (x5 - x11))), t9))) (fun E t => some (.inr E, t)))) (fun E t => some (.inr E, t)))) (fun E t => some (.inr E, t))))
set_option maxHeartbeats 4000000 in
set_option maxRecDepth 100000 in
theorem k_X1_uncutSize (l : Launch) (hst : l.stackTraces = false) (g : jG)   (a0 : Nat) (σ : Hp) (o : jO) (τ : Hp) (h : J_X1_uncutSize a0 σ = some (o, τ)) : jMet l g yX1_uncutSize (Cond.code yX1_uncutSize cX1_uncutSize 1 (some FieldType.int) :: gT) ({ frames := 3, cells := 0, slots := 0, locals := 54 } : Room) 0 0 [.ref a0] σ o τ := by
  refine j_start l hst (own := RX1) (by decide) rfl (Nat.le_of_ble_eq_true rfl) ?_
  intro p e s m args below meth c C hE hin
  unfold J_X1_uncutSize at h
  show jW p l e ({ frames := 3, cells := 0, slots := 0, locals := 54 } : Room) s m args below meth c g (jQ below g o τ args s 0 0) 0 0 0 [(0, .ref a0)] [] σ
  refine r_aload_n C (x := some a0) 1 rfl 0 dX1_uncutSize_0 rfl ?_
  refine r_getR C 4 rfl ff_X1_12 dX1_uncutSize_1 h (fun r1 h => ?_)
  replace h := jdr_some h
  obtain ⟨b2, hr, h⟩ := h
  rw [hr]
  refine r_callV C (ci := 2) mm_X1_21 im_yX2_count se_yX2_count rfl 7 0 0 rfl rfl rfl dX1_uncutSize_4 rfl rfl (As := []) rfl rfl (Nat.le_of_ble_eq_true rfl) ⟨Nat.le_of_ble_eq_true rfl, Nat.le_of_ble_eq_true rfl⟩ ⟨(Nat.le_of_ble_eq_true rfl), (Nat.le_of_ble_eq_true rfl)⟩ (fun o t h => k_X2_count l hst g _ _ o t h) h (fun w4 t3 h => ?_) (fun E t h => r_out C (fun x hx => (hE x hx).elim) (Nat.le_refl _) (Nat.le_refl _) h)
  replace h := jvI_some h
  obtain ⟨x5, rfl, h⟩ := h
  refine r_aload_n C (x := some a0) 8 rfl 0 dX1_uncutSize_7 rfl ?_
  refine r_aload_n C (x := some a0) 9 rfl 0 dX1_uncutSize_8 rfl ?_
  refine r_callV C (ci := 1) mm_X1_35 im_yX1_count se_yX1_count rfl 12 0 0 rfl rfl rfl dX1_uncutSize_9 rfl rfl (As := []) rfl rfl (Nat.le_of_ble_eq_true rfl) ⟨Nat.le_of_ble_eq_true rfl, Nat.le_of_ble_eq_true rfl⟩ ⟨(Nat.le_of_ble_eq_true rfl), (Nat.le_of_ble_eq_true rfl)⟩ (fun o t h => k_X1_count l hst g _ _ o t h) h (fun w7 t6 h => ?_) (fun E t h => r_out C (fun x hx => (hE x hx).elim) (Nat.le_refl _) (Nat.le_refl _) h)
  replace h := jvI_some h
  obtain ⟨x8, rfl, h⟩ := h
  refine r_callV C (ci := 1) mm_X1_32 im_yX1_startOf se_yX1_startOf rfl 15 0 0 rfl rfl rfl dX1_uncutSize_12 rfl rfl (As := [.int x8]) rfl rfl (Nat.le_of_ble_eq_true rfl) ⟨Nat.le_of_ble_eq_true rfl, Nat.le_of_ble_eq_true rfl⟩ ⟨(Nat.le_of_ble_eq_true rfl), (Nat.le_of_ble_eq_true rfl)⟩ (fun o t h => k_X1_startOf l hst g _ _ _ o t h) h (fun w10 t9 h => ?_) (fun E t h => r_out C (fun x hx => (hE x hx).elim) (Nat.le_refl _) (Nat.le_refl _) h)
  replace h := jvI_some h
  obtain ⟨x11, rfl, h⟩ := h
  refine r_isub C 16 rfl dX1_uncutSize_15 ?_
  exact r_iret C dX1_uncutSize_16 (Nat.le_refl _) (Nat.le_refl _) h

def J_X1_add  (a0 : Nat) (v1 : Int32) (σ : Hp) : jR := jgR σ a0 1 0 (fun r1 => jdr r1 (fun b2 => jcv σ b2 2 (J_X2_add b2 v1 σ) (fun w4 t3 => jvV w4 (some (.inl none, t3))) (fun E t => some (.inr E, t))))
set_option maxHeartbeats 4000000 in
set_option maxRecDepth 100000 in
theorem k_X1_add (l : Launch) (hst : l.stackTraces = false) (g : jG)   (a0 : Nat) (v1 : Int32) (σ : Hp) (o : jO) (τ : Hp) (h : J_X1_add a0 v1 σ = some (o, τ)) : jMet l g yX1_add (Cond.code yX1_add cX1_add 2 none :: gT) ({ frames := 2, cells := 0, slots := 0, locals := 33 } : Room) 0 0 [.ref a0, .int v1] σ o τ := by
  refine j_start l hst (own := RX1) (by decide) rfl (Nat.le_of_ble_eq_true rfl) ?_
  intro p e s m args below meth c C hE hin
  unfold J_X1_add at h
  show jW p l e ({ frames := 2, cells := 0, slots := 0, locals := 33 } : Room) s m args below meth c g (jQ below g o τ args s 0 0) 0 0 0 [(0, .ref a0), (1, .int v1)] [] σ
  refine r_aload_n C (x := some a0) 1 rfl 0 dX1_add_0 rfl ?_
  refine r_getR C 4 rfl ff_X1_12 dX1_add_1 h (fun r1 h => ?_)
  refine r_iload_n C 5 rfl 1 dX1_add_4 rfl ?_
  replace h := jdr_some h
  obtain ⟨b2, hr, h⟩ := h
  rw [hr]
  refine r_callV C (ci := 2) mm_X1_36 im_yX2_add se_yX2_add rfl 8 0 0 rfl rfl rfl dX1_add_5 rfl rfl (As := [.int v1]) rfl rfl (Nat.le_of_ble_eq_true rfl) ⟨Nat.le_of_ble_eq_true rfl, Nat.le_of_ble_eq_true rfl⟩ ⟨(Nat.le_of_ble_eq_true rfl), (Nat.le_of_ble_eq_true rfl)⟩ (fun o t h => k_X2_add l hst g _ _ _ o t h) h (fun w4 t3 h => ?_) (fun E t h => r_out C (fun x hx => (hE x hx).elim) (Nat.le_refl _) (Nat.le_refl _) h)
  replace h := jvV_some h
  obtain ⟨rfl, h⟩ := h
  exact r_vret C dX1_add_8 (Nat.le_refl _) (Nat.le_refl _) h

def J_X1_cut  (a0 : Nat) (σ : Hp) : jR := jcv σ a0 1 (J_X1_uncutSize a0 σ) (fun w2 t1 => jvI w2 (fun x3 => (if x3 ≤ 0 then some (.inl none, t1) else jgR t1 a0 1 1 (fun r4 => jgR t1 a0 1 0 (fun r5 => jdr r5 (fun b6 => jdr r4 (fun b7 => jcv t1 b6 2 (J_X2_count b6 t1) (fun w9 t8 => jvI w9 (fun x10 => jcv t8 b7 2 (J_X2_add b7 x10 t8) (fun w12 t11 => jvV w12 (some (.inl none, t11))) (fun E t => some (.inr E, t)))) (fun E t => some (.inr E, t))))))))) (fun E t => some (.inr E, t))
set_option maxHeartbeats 4000000 in
set_option maxRecDepth 100000 in
theorem k_X1_cut (l : Launch) (hst : l.stackTraces = false) (g : jG)   (a0 : Nat) (σ : Hp) (o : jO) (τ : Hp) (h : J_X1_cut a0 σ = some (o, τ)) : jMet l g yX1_cut (Cond.code yX1_cut cX1_cut 1 none :: gT) ({ frames := 4, cells := 0, slots := 0, locals := 74 } : Room) 0 0 [.ref a0] σ o τ := by
  refine j_start l hst (own := RX1) (by decide) rfl (Nat.le_of_ble_eq_true rfl) ?_
  intro p e s m args below meth c C hE hin
  unfold J_X1_cut at h
  show jW p l e ({ frames := 4, cells := 0, slots := 0, locals := 74 } : Room) s m args below meth c g (jQ below g o τ args s 0 0) 0 0 0 [(0, .ref a0)] [] σ
  refine r_aload_n C (x := some a0) 1 rfl 0 dX1_cut_0 rfl ?_
  refine r_callV C (ci := 1) mm_X1_39 im_yX1_uncutSize se_yX1_uncutSize rfl 4 0 0 rfl rfl rfl dX1_cut_1 rfl rfl (As := []) rfl rfl (Nat.le_of_ble_eq_true rfl) ⟨Nat.le_of_ble_eq_true rfl, Nat.le_of_ble_eq_true rfl⟩ ⟨(Nat.le_of_ble_eq_true rfl), (Nat.le_of_ble_eq_true rfl)⟩ (fun o t h => k_X1_uncutSize l hst g _ _ o t h) h (fun w2 t1 h => ?_) (fun E t h => r_out C (fun x hx => (hE x hx).elim) (Nat.le_refl _) (Nat.le_refl _) h)
  replace h := jvI_some h
  obtain ⟨x3, rfl, h⟩ := h
  refine r_if_le C 21 7 rfl dX1_cut_4 (by decide) h (fun h => ?_) (fun h => ?_)
  · exact r_vret C dX1_cut_21 (Nat.le_refl _) (Nat.le_refl _) h
  · refine r_aload_n C (x := some a0) 8 rfl 0 dX1_cut_7 rfl ?_
    refine r_getR C 11 rfl ff_X1_18 dX1_cut_8 h (fun r4 h => ?_)
    refine r_aload_n C (x := some a0) 12 rfl 0 dX1_cut_11 rfl ?_
    refine r_getR C 15 rfl ff_X1_12 dX1_cut_12 h (fun r5 h => ?_)
    replace h := jdr_some h
    obtain ⟨b6, hr, h⟩ := h
    rw [hr]
    replace h := jdr_some h
    obtain ⟨b7, hr, h⟩ := h
    rw [hr]
    refine r_callV C (ci := 2) mm_X1_21 im_yX2_count se_yX2_count rfl 18 0 0 rfl rfl rfl dX1_cut_15 rfl rfl (As := []) rfl rfl (Nat.le_of_ble_eq_true rfl) ⟨Nat.le_of_ble_eq_true rfl, Nat.le_of_ble_eq_true rfl⟩ ⟨(Nat.le_of_ble_eq_true rfl), (Nat.le_of_ble_eq_true rfl)⟩ (fun o t h => k_X2_count l hst g _ _ o t h) h (fun w9 t8 h => ?_) (fun E t h => r_out C (fun x hx => (hE x hx).elim) (Nat.le_refl _) (Nat.le_refl _) h)
    replace h := jvI_some h
    obtain ⟨x10, rfl, h⟩ := h
    refine r_callV C (ci := 2) mm_X1_36 im_yX2_add se_yX2_add rfl 21 0 0 rfl rfl rfl dX1_cut_18 rfl rfl (As := [.int x10]) rfl rfl (Nat.le_of_ble_eq_true rfl) ⟨Nat.le_of_ble_eq_true rfl, Nat.le_of_ble_eq_true rfl⟩ ⟨(Nat.le_of_ble_eq_true rfl), (Nat.le_of_ble_eq_true rfl)⟩ (fun o t h => k_X2_add l hst g _ _ _ o t h) h (fun w12 t11 h => ?_) (fun E t h => r_out C (fun x hx => (hE x hx).elim) (Nat.le_refl _) (Nat.le_refl _) h)
    replace h := jvV_some h
    obtain ⟨rfl, h⟩ := h
    exact r_vret C dX1_cut_21 (Nat.le_refl _) (Nat.le_refl _) h

def J_X1_empty  (a0 : Nat) (σ : Hp) : jR := jgR σ a0 1 0 (fun r1 => jdr r1 (fun b2 => jcv σ b2 2 (J_X2_empty b2 σ) (fun w4 t3 => jvV w4 (jgR t3 a0 1 1 (fun r5 => jdr r5 (fun b6 => jcv t3 b6 2 (J_X2_empty b6 t3) (fun w8 t7 => jvV w8 (some (.inl none, t7))) (fun E t => some (.inr E, t)))))) (fun E t => some (.inr E, t))))
set_option maxHeartbeats 4000000 in
set_option maxRecDepth 100000 in
theorem k_X1_empty (l : Launch) (hst : l.stackTraces = false) (g : jG)   (a0 : Nat) (σ : Hp) (o : jO) (τ : Hp) (h : J_X1_empty a0 σ = some (o, τ)) : jMet l g yX1_empty (Cond.code yX1_empty cX1_empty 1 none :: gT) ({ frames := 2, cells := 0, slots := 0, locals := 32 } : Room) 0 0 [.ref a0] σ o τ := by
  refine j_start l hst (own := RX1) (by decide) rfl (Nat.le_of_ble_eq_true rfl) ?_
  intro p e s m args below meth c C hE hin
  unfold J_X1_empty at h
  show jW p l e ({ frames := 2, cells := 0, slots := 0, locals := 32 } : Room) s m args below meth c g (jQ below g o τ args s 0 0) 0 0 0 [(0, .ref a0)] [] σ
  refine r_aload_n C (x := some a0) 1 rfl 0 dX1_empty_0 rfl ?_
  refine r_getR C 4 rfl ff_X1_12 dX1_empty_1 h (fun r1 h => ?_)
  replace h := jdr_some h
  obtain ⟨b2, hr, h⟩ := h
  rw [hr]
  refine r_callV C (ci := 2) mm_X1_42 im_yX2_empty se_yX2_empty rfl 7 0 0 rfl rfl rfl dX1_empty_4 rfl rfl (As := []) rfl rfl (Nat.le_of_ble_eq_true rfl) ⟨Nat.le_of_ble_eq_true rfl, Nat.le_of_ble_eq_true rfl⟩ ⟨(Nat.le_of_ble_eq_true rfl), (Nat.le_of_ble_eq_true rfl)⟩ (fun o t h => k_X2_empty l hst g _ _ o t h) h (fun w4 t3 h => ?_) (fun E t h => r_out C (fun x hx => (hE x hx).elim) (Nat.le_refl _) (Nat.le_refl _) h)
  replace h := jvV_some h
  obtain ⟨rfl, h⟩ := h
  refine r_aload_n C (x := some a0) 8 rfl 0 dX1_empty_7 rfl ?_
  refine r_getR C 11 rfl ff_X1_18 dX1_empty_8 h (fun r5 h => ?_)
  replace h := jdr_some h
  obtain ⟨b6, hr, h⟩ := h
  rw [hr]
  refine r_callV C (ci := 2) mm_X1_42 im_yX2_empty se_yX2_empty rfl 14 0 0 rfl rfl rfl dX1_empty_11 rfl rfl (As := []) rfl rfl (Nat.le_of_ble_eq_true rfl) ⟨Nat.le_of_ble_eq_true rfl, Nat.le_of_ble_eq_true rfl⟩ ⟨(Nat.le_of_ble_eq_true rfl), (Nat.le_of_ble_eq_true rfl)⟩ (fun o t h => k_X2_empty l hst g _ _ o t h) h (fun w8 t7 h => ?_) (fun E t h => r_out C (fun x hx => (hE x hx).elim) (Nat.le_refl _) (Nat.le_refl _) h)
  replace h := jvV_some h
  obtain ⟨rfl, h⟩ := h
  exact r_vret C dX1_empty_14 (Nat.le_refl _) (Nat.le_refl _) h

def J_X1_drop_L46b   (rc : Nat → Int32 → Int32 → Hp → jR) (a0 : Nat) (v3 : Int32) (v4 : Int32) (t0 : Hp) : jR := jgR t0 a0 1 1 (fun r11 => jdr r11 (fun b12 => jcv t0 b12 2 (J_X2_count b12 t0) (fun w14 t13 => jvI w14 (fun x15 => (if x15 ≤ v4 then some (.inl none, t13) else jgR t13 a0 1 1 (fun r16 => jgR t13 a0 1 1 (fun r17 => jdr r17 (fun b18 => jdr r16 (fun b19 => jcv t13 b18 2 (J_X2_get b18 v4 t13) (fun w21 t20 => jvI w21 (fun x22 => jcv t20 b19 2 (J_X2_set b19 v4 (x22 - v3) t20) (fun w24 t23 => jvV w24 (rc a0 v3 (v4 + 1) t23)) (fun E t => some (.inr E, t)))) (fun E t => some (.inr E, t))))))))) (fun E t => some (.inr E, t))))
def J_X1_drop_L46   : Nat → Nat → Int32 → Int32 → Hp → jR
  | 0 => fun _ _ _ _ => none
  | n + 1 => J_X1_drop_L46b   (J_X1_drop_L46   n)
def J_X1_drop_L15b   (rc : Nat → Int32 → Int32 → Int32 → Int32 → Hp → jR) (a0 : Nat) (v1 : Int32) (v2 : Int32) (v3 : Int32) (v4 : Int32) (t0 : Hp) : jR := (if v3 ≤ v4 then jgR t0 a0 1 1 (fun r7 => jdr r7 (fun b8 => jcv t0 b8 2 (J_X2_remove b8 v1 t0) (fun w10 t9 => jvV w10 (J_X1_drop_L46   jN a0 v3 v1 t9)) (fun E t => some (.inr E, t)))) else jgR t0 a0 1 0 (fun r25 => jdr r25 (fun b26 => jcv t0 b26 2 (J_X2_remove b26 v2 t0) (fun w28 t27 => jvV w28 (rc a0 v1 v2 v3 (v4 + 1) t27)) (fun E t => some (.inr E, t)))))
def J_X1_drop_L15   : Nat → Nat → Int32 → Int32 → Int32 → Int32 → Hp → jR
  | 0 => fun _ _ _ _ _ _ => none
  | n + 1 => J_X1_drop_L15b   (J_X1_drop_L15   n)
def J_X1_drop  (a0 : Nat) (v1 : Int32) (σ : Hp) : jR := jcv σ a0 1 (J_X1_startOf a0 v1 σ) (fun w2 t1 => jvI w2 (fun x3 => jcv t1 a0 1 (J_X1_sizeOf a0 v1 t1) (fun w5 t4 => jvI w5 (fun x6 => J_X1_drop_L15   jN a0 v1 x3 x6 0 t4)) (fun E t => some (.inr E, t)))) (fun E t => some (.inr E, t))
set_option maxHeartbeats 4000000 in
set_option maxRecDepth 100000 in
theorem w_X1_drop_L46 (l : Launch) (hst : l.stackTraces = false) {p : Program} {e : Env} {s : State} {m : MethodId} {args : Array Value} {below : List Frame} {meth : Method} {c : Code} {g : jG} {o : jO} {τ : Hp}  (C : jC p l s m args meth c g RX1 cX1_drop 5 none) (hE : ∀ x ∈ c.exceptionTable.toList, False)  : ∀ (n : Nat) (a0 : Nat) (v3 : Int32) (v4 : Int32) (t0 : Hp), J_X1_drop_L46   n a0 v3 v4 t0 = some (o, τ) → jW p l e ({ frames := 4, cells := 0, slots := 0, locals := 75 } : Room) s m args below meth c g (jQ below g o τ args s 0 0) 0 0 46 [(0, .ref a0), (3, .int v3), (4, .int v4)] [] t0 := by
  intro n
  induction n with
  | zero => intro a0 v3 v4 t0 h; cases h
  | succ n ih =>
    intro a0 v3 v4 t0 h
    skip
    have h : J_X1_drop_L46b   (J_X1_drop_L46   n) a0 v3 v4 t0 = some (o, τ) := h
    unfold J_X1_drop_L46b at h
    refine r_iload C 48 rfl 2 dX1_drop_46 rfl ?_
    refine r_aload_n C (x := some a0) 49 rfl 0 dX1_drop_48 rfl ?_
    refine r_getR C 52 rfl ff_X1_18 dX1_drop_49 h (fun r11 h => ?_)
    replace h := jdr_some h
    obtain ⟨b12, hr, h⟩ := h
    rw [hr]
    refine r_callV C (ci := 2) mm_X1_21 im_yX2_count se_yX2_count rfl 55 0 0 rfl rfl rfl dX1_drop_52 rfl rfl (As := []) rfl rfl (Nat.le_of_ble_eq_true rfl) ⟨Nat.le_of_ble_eq_true rfl, Nat.le_of_ble_eq_true rfl⟩ ⟨(Nat.le_of_ble_eq_true rfl), (Nat.le_of_ble_eq_true rfl)⟩ (fun o t h => k_X2_count l hst g _ _ o t h) h (fun w14 t13 h => ?_) (fun E t h => r_out C (fun x hx => (hE x hx).elim) (Nat.le_refl _) (Nat.le_refl _) h)
    replace h := jvI_some h
    obtain ⟨x15, rfl, h⟩ := h
    refine r_icmp_ge C 84 58 rfl dX1_drop_55 (by decide) h (fun h => ?_) (fun h => ?_)
    · exact r_vret C dX1_drop_84 (Nat.le_refl _) (Nat.le_refl _) h
    · refine r_aload_n C (x := some a0) 59 rfl 0 dX1_drop_58 rfl ?_
      refine r_getR C 62 rfl ff_X1_18 dX1_drop_59 h (fun r16 h => ?_)
      refine r_iload C 64 rfl 2 dX1_drop_62 rfl ?_
      refine r_aload_n C (x := some a0) 65 rfl 0 dX1_drop_64 rfl ?_
      refine r_getR C 68 rfl ff_X1_18 dX1_drop_65 h (fun r17 h => ?_)
      refine r_iload C 70 rfl 2 dX1_drop_68 rfl ?_
      replace h := jdr_some h
      obtain ⟨b18, hr, h⟩ := h
      rw [hr]
      replace h := jdr_some h
      obtain ⟨b19, hr, h⟩ := h
      rw [hr]
      refine r_callV C (ci := 2) mm_X1_25 im_yX2_get se_yX2_get rfl 73 0 0 rfl rfl rfl dX1_drop_70 rfl rfl (As := [.int v4]) rfl rfl (Nat.le_of_ble_eq_true rfl) ⟨Nat.le_of_ble_eq_true rfl, Nat.le_of_ble_eq_true rfl⟩ ⟨(Nat.le_of_ble_eq_true rfl), (Nat.le_of_ble_eq_true rfl)⟩ (fun o t h => k_X2_get l hst g _ _ _ o t h) h (fun w21 t20 h => ?_) (fun E t h => r_out C (fun x hx => (hE x hx).elim) (Nat.le_refl _) (Nat.le_refl _) h)
      replace h := jvI_some h
      obtain ⟨x22, rfl, h⟩ := h
      refine r_iload_n C 74 rfl 1 dX1_drop_73 rfl ?_
      refine r_isub C 75 rfl dX1_drop_74 ?_
      refine r_callV C (ci := 2) mm_X1_51 im_yX2_set se_yX2_set rfl 78 0 0 rfl rfl rfl dX1_drop_75 rfl rfl (As := [.int v4, .int (x22 - v3)]) rfl rfl (Nat.le_of_ble_eq_true rfl) ⟨Nat.le_of_ble_eq_true rfl, Nat.le_of_ble_eq_true rfl⟩ ⟨(Nat.le_of_ble_eq_true rfl), (Nat.le_of_ble_eq_true rfl)⟩ (fun o t h => k_X2_set l hst g _ _ _ _ o t h) h (fun w24 t23 h => ?_) (fun E t h => r_out C (fun x hx => (hE x hx).elim) (Nat.le_refl _) (Nat.le_refl _) h)
      replace h := jvV_some h
      obtain ⟨rfl, h⟩ := h
      refine r_iinc C (v := v4 + 1) 81 rfl 2 [(4, .int (v4 + 1)), (0, .ref a0), (3, .int v3)] dX1_drop_78 rfl rfl (by decide) rfl ?_
      refine r_goto C 46 dX1_drop_81 (by decide) ?_
      refine r_lv [1, 2, 0] rfl ?_
      exact ih a0 v3 (v4 + 1) t23 h
set_option maxHeartbeats 4000000 in
set_option maxRecDepth 100000 in
theorem w_X1_drop_L15 (l : Launch) (hst : l.stackTraces = false) {p : Program} {e : Env} {s : State} {m : MethodId} {args : Array Value} {below : List Frame} {meth : Method} {c : Code} {g : jG} {o : jO} {τ : Hp}  (C : jC p l s m args meth c g RX1 cX1_drop 5 none) (hE : ∀ x ∈ c.exceptionTable.toList, False)  : ∀ (n : Nat) (a0 : Nat) (v1 : Int32) (v2 : Int32) (v3 : Int32) (v4 : Int32) (t0 : Hp), J_X1_drop_L15   n a0 v1 v2 v3 v4 t0 = some (o, τ) → jW p l e ({ frames := 4, cells := 0, slots := 0, locals := 75 } : Room) s m args below meth c g (jQ below g o τ args s 0 0) 0 0 15 [(0, .ref a0), (1, .int v1), (2, .int v2), (3, .int v3), (4, .int v4)] [] t0 := by
  intro n
  induction n with
  | zero => intro a0 v1 v2 v3 v4 t0 h; cases h
  | succ n ih =>
    intro a0 v1 v2 v3 v4 t0 h
    skip
    have h : J_X1_drop_L15b   (J_X1_drop_L15   n) a0 v1 v2 v3 v4 t0 = some (o, τ) := h
    unfold J_X1_drop_L15b at h
    refine r_iload C 17 rfl 4 dX1_drop_15 rfl ?_
    refine r_iload_n C 18 rfl 3 dX1_drop_17 rfl ?_
    refine r_icmp_ge C 35 21 rfl dX1_drop_18 (by decide) h (fun h => ?_) (fun h => ?_)
    · refine r_aload_n C (x := some a0) 36 rfl 0 dX1_drop_35 rfl ?_
      refine r_getR C 39 rfl ff_X1_18 dX1_drop_36 h (fun r7 h => ?_)
      refine r_iload_n C 40 rfl 1 dX1_drop_39 rfl ?_
      replace h := jdr_some h
      obtain ⟨b8, hr, h⟩ := h
      rw [hr]
      refine r_callV C (ci := 2) mm_X1_48 im_yX2_remove se_yX2_remove rfl 43 0 0 rfl rfl rfl dX1_drop_40 rfl rfl (As := [.int v1]) rfl rfl (Nat.le_of_ble_eq_true rfl) ⟨Nat.le_of_ble_eq_true rfl, Nat.le_of_ble_eq_true rfl⟩ ⟨(Nat.le_of_ble_eq_true rfl), (Nat.le_of_ble_eq_true rfl)⟩ (fun o t h => k_X2_remove l hst g _ _ _ o t h) h (fun w10 t9 h => ?_) (fun E t h => r_out C (fun x hx => (hE x hx).elim) (Nat.le_refl _) (Nat.le_refl _) h)
      replace h := jvV_some h
      obtain ⟨rfl, h⟩ := h
      refine r_iload_n C 44 rfl 1 dX1_drop_43 rfl ?_
      refine r_istore C 46 rfl [(4, .int v1), (0, .ref a0), (1, .int v1), (2, .int v2), (3, .int v3)] dX1_drop_44 (by decide) rfl ?_
      refine r_lv [1, 4, 0] rfl ?_
      refine w_X1_drop_L46 l hst  C hE   jN a0 v3 v1 t9 h
    · refine r_aload_n C (x := some a0) 22 rfl 0 dX1_drop_21 rfl ?_
      refine r_getR C 25 rfl ff_X1_12 dX1_drop_22 h (fun r25 h => ?_)
      refine r_iload_n C 26 rfl 2 dX1_drop_25 rfl ?_
      replace h := jdr_some h
      obtain ⟨b26, hr, h⟩ := h
      rw [hr]
      refine r_callV C (ci := 2) mm_X1_48 im_yX2_remove se_yX2_remove rfl 29 0 0 rfl rfl rfl dX1_drop_26 rfl rfl (As := [.int v2]) rfl rfl (Nat.le_of_ble_eq_true rfl) ⟨Nat.le_of_ble_eq_true rfl, Nat.le_of_ble_eq_true rfl⟩ ⟨(Nat.le_of_ble_eq_true rfl), (Nat.le_of_ble_eq_true rfl)⟩ (fun o t h => k_X2_remove l hst g _ _ _ o t h) h (fun w28 t27 h => ?_) (fun E t h => r_out C (fun x hx => (hE x hx).elim) (Nat.le_refl _) (Nat.le_refl _) h)
      replace h := jvV_some h
      obtain ⟨rfl, h⟩ := h
      refine r_iinc C (v := v4 + 1) 32 rfl 4 [(4, .int (v4 + 1)), (0, .ref a0), (1, .int v1), (2, .int v2), (3, .int v3)] dX1_drop_29 rfl rfl (by decide) rfl ?_
      refine r_goto C 15 dX1_drop_32 (by decide) ?_
      refine r_lv [1, 2, 3, 4, 0] rfl ?_
      exact ih a0 v1 v2 v3 (v4 + 1) t27 h
set_option maxHeartbeats 4000000 in
set_option maxRecDepth 100000 in
theorem k_X1_drop (l : Launch) (hst : l.stackTraces = false) (g : jG)   (a0 : Nat) (v1 : Int32) (σ : Hp) (o : jO) (τ : Hp) (h : J_X1_drop a0 v1 σ = some (o, τ)) : jMet l g yX1_drop (Cond.code yX1_drop cX1_drop 5 none :: gT) ({ frames := 4, cells := 0, slots := 0, locals := 75 } : Room) 0 0 [.ref a0, .int v1] σ o τ := by
  refine j_start l hst (own := RX1) (by decide) rfl (Nat.le_of_ble_eq_true rfl) ?_
  intro p e s m args below meth c C hE hin
  unfold J_X1_drop at h
  show jW p l e ({ frames := 4, cells := 0, slots := 0, locals := 75 } : Room) s m args below meth c g (jQ below g o τ args s 0 0) 0 0 0 [(0, .ref a0), (1, .int v1)] [] σ
  refine r_aload_n C (x := some a0) 1 rfl 0 dX1_drop_0 rfl ?_
  refine r_iload_n C 2 rfl 1 dX1_drop_1 rfl ?_
  refine r_callV C (ci := 1) mm_X1_32 im_yX1_startOf se_yX1_startOf rfl 5 0 0 rfl rfl rfl dX1_drop_2 rfl rfl (As := [.int v1]) rfl rfl (Nat.le_of_ble_eq_true rfl) ⟨Nat.le_of_ble_eq_true rfl, Nat.le_of_ble_eq_true rfl⟩ ⟨(Nat.le_of_ble_eq_true rfl), (Nat.le_of_ble_eq_true rfl)⟩ (fun o t h => k_X1_startOf l hst g _ _ _ o t h) h (fun w2 t1 h => ?_) (fun E t h => r_out C (fun x hx => (hE x hx).elim) (Nat.le_refl _) (Nat.le_refl _) h)
  replace h := jvI_some h
  obtain ⟨x3, rfl, h⟩ := h
  refine r_istore_n C 6 rfl [(2, .int x3), (0, .ref a0), (1, .int v1)] dX1_drop_5 (by decide) rfl ?_
  refine r_aload_n C (x := some a0) 7 rfl 1 dX1_drop_6 rfl ?_
  refine r_iload_n C 8 rfl 2 dX1_drop_7 rfl ?_
  refine r_callV C (ci := 1) mm_X1_45 im_yX1_sizeOf se_yX1_sizeOf rfl 11 0 0 rfl rfl rfl dX1_drop_8 rfl rfl (As := [.int v1]) rfl rfl (Nat.le_of_ble_eq_true rfl) ⟨Nat.le_of_ble_eq_true rfl, Nat.le_of_ble_eq_true rfl⟩ ⟨(Nat.le_of_ble_eq_true rfl), (Nat.le_of_ble_eq_true rfl)⟩ (fun o t h => k_X1_sizeOf l hst g _ _ _ o t h) h (fun w5 t4 h => ?_) (fun E t h => r_out C (fun x hx => (hE x hx).elim) (Nat.le_refl _) (Nat.le_refl _) h)
  replace h := jvI_some h
  obtain ⟨x6, rfl, h⟩ := h
  refine r_istore_n C 12 rfl [(3, .int x6), (2, .int x3), (0, .ref a0), (1, .int v1)] dX1_drop_11 (by decide) rfl ?_
  refine r_iconst C (v := 0) 13 rfl dX1_drop_12 (by decide) ?_
  refine r_istore C 15 rfl [(4, .int 0), (3, .int x6), (2, .int x3), (0, .ref a0), (1, .int v1)] dX1_drop_13 (by decide) rfl ?_
  refine r_lv [3, 4, 2, 1, 0] rfl ?_
  refine w_X1_drop_L15 l hst  C hE   jN a0 v1 x3 x6 0 t4 h

def J_X1_isSame_L30b   (rc : Nat → Nat → Int32 → Int32 → Int32 → Int32 → Hp → jR) (a0 : Nat) (a2 : Nat) (v3 : Int32) (v4 : Int32) (v5 : Int32) (v6 : Int32) (t0 : Hp) : jR := (if (v4 - v3) ≤ v6 then jrt .boolean 1 t0 else jgR t0 a0 1 0 (fun r9 => jdr r9 (fun b10 => jcv t0 b10 2 (J_X2_get b10 (v5 + v6) t0) (fun w12 t11 => jvI w12 (fun x13 => jcv t11 a2 2 (J_X2_get a2 (v3 + v6) t11) (fun w15 t14 => jvI w15 (fun x16 => (if x13 = x16 then rc a0 a2 v3 v4 v5 (v6 + 1) t14 else jrt .boolean 0 t14))) (fun E t => some (.inr E, t)))) (fun E t => some (.inr E, t)))))
def J_X1_isSame_L30   : Nat → Nat → Nat → Int32 → Int32 → Int32 → Int32 → Hp → jR
  | 0 => fun _ _ _ _ _ _ _ => none
  | n + 1 => J_X1_isSame_L30b   (J_X1_isSame_L30   n)
def J_X1_isSame  (a0 : Nat) (v1 : Int32) (a2 : Nat) (v3 : Int32) (v4 : Int32) (σ : Hp) : jR := jcv σ a0 1 (J_X1_startOf a0 v1 σ) (fun w2 t1 => jvI w2 (fun x3 => jgR t1 a0 1 1 (fun r4 => jdr r4 (fun b5 => jcv t1 b5 2 (J_X2_get b5 v1 t1) (fun w7 t6 => jvI w7 (fun x8 => (if (x8 - x3) = (v4 - v3) then J_X1_isSame_L30   jN a0 a2 v3 v4 x3 0 t6 else jrt .boolean 0 t6))) (fun E t => some (.inr E, t)))))) (fun E t => some (.inr E, t))
set_option maxHeartbeats 4000000 in
set_option maxRecDepth 100000 in
theorem w_X1_isSame_L30 (l : Launch) (hst : l.stackTraces = false) {p : Program} {e : Env} {s : State} {m : MethodId} {args : Array Value} {below : List Frame} {meth : Method} {c : Code} {g : jG} {o : jO} {τ : Hp}  (C : jC p l s m args meth c g RX1 cX1_isSame 7 (some FieldType.boolean)) (hE : ∀ x ∈ c.exceptionTable.toList, False)  : ∀ (n : Nat) (a0 : Nat) (a2 : Nat) (v3 : Int32) (v4 : Int32) (v5 : Int32) (v6 : Int32) (t0 : Hp), J_X1_isSame_L30   n a0 a2 v3 v4 v5 v6 t0 = some (o, τ) → jW p l e ({ frames := 3, cells := 0, slots := 0, locals := 54 } : Room) s m args below meth c g (jQ below g o τ args s 0 0) 0 0 30 [(0, .ref a0), (2, .ref a2), (3, .int v3), (4, .int v4), (5, .int v5), (6, .int v6)] [] t0 := by
  intro n
  induction n with
  | zero => intro a0 a2 v3 v4 v5 v6 t0 h; cases h
  | succ n ih =>
    intro a0 a2 v3 v4 v5 v6 t0 h
    skip
    have h : J_X1_isSame_L30b   (J_X1_isSame_L30   n) a0 a2 v3 v4 v5 v6 t0 = some (o, τ) := h
    unfold J_X1_isSame_L30b at h
    refine r_iload C 32 rfl 5 dX1_isSame_30 rfl ?_
    refine r_iload C 34 rfl 3 dX1_isSame_32 rfl ?_
    refine r_iload_n C 35 rfl 2 dX1_isSame_34 rfl ?_
    refine r_isub C 36 rfl dX1_isSame_35 ?_
    refine r_icmp_ge C 70 39 rfl dX1_isSame_36 (by decide) h (fun h => ?_) (fun h => ?_)
    · refine r_iconst C (v := 1) 71 rfl dX1_isSame_70 (by decide) ?_
      exact r_zret C (fun _ => rfl) dX1_isSame_71 (Nat.le_refl _) (Nat.le_refl _) h
    · refine r_aload_n C (x := some a0) 40 rfl 0 dX1_isSame_39 rfl ?_
      refine r_getR C 43 rfl ff_X1_12 dX1_isSame_40 h (fun r9 h => ?_)
      refine r_iload C 45 rfl 4 dX1_isSame_43 rfl ?_
      refine r_iload C 47 rfl 5 dX1_isSame_45 rfl ?_
      refine r_iadd C 48 rfl dX1_isSame_47 ?_
      replace h := jdr_some h
      obtain ⟨b10, hr, h⟩ := h
      rw [hr]
      refine r_callV C (ci := 2) mm_X1_25 im_yX2_get se_yX2_get rfl 51 0 0 rfl rfl rfl dX1_isSame_48 rfl rfl (As := [.int (v5 + v6)]) rfl rfl (Nat.le_of_ble_eq_true rfl) ⟨Nat.le_of_ble_eq_true rfl, Nat.le_of_ble_eq_true rfl⟩ ⟨(Nat.le_of_ble_eq_true rfl), (Nat.le_of_ble_eq_true rfl)⟩ (fun o t h => k_X2_get l hst g _ _ _ o t h) h (fun w12 t11 h => ?_) (fun E t h => r_out C (fun x hx => (hE x hx).elim) (Nat.le_refl _) (Nat.le_refl _) h)
      replace h := jvI_some h
      obtain ⟨x13, rfl, h⟩ := h
      refine r_aload_n C (x := some a2) 52 rfl 1 dX1_isSame_51 rfl ?_
      refine r_iload_n C 53 rfl 2 dX1_isSame_52 rfl ?_
      refine r_iload C 55 rfl 5 dX1_isSame_53 rfl ?_
      refine r_iadd C 56 rfl dX1_isSame_55 ?_
      refine r_callV C (ci := 2) mm_X1_25 im_yX2_get se_yX2_get rfl 59 0 0 rfl rfl rfl dX1_isSame_56 rfl rfl (As := [.int (v3 + v6)]) rfl rfl (Nat.le_of_ble_eq_true rfl) ⟨Nat.le_of_ble_eq_true rfl, Nat.le_of_ble_eq_true rfl⟩ ⟨(Nat.le_of_ble_eq_true rfl), (Nat.le_of_ble_eq_true rfl)⟩ (fun o t h => k_X2_get l hst g _ _ _ o t h) h (fun w15 t14 h => ?_) (fun E t h => r_out C (fun x hx => (hE x hx).elim) (Nat.le_refl _) (Nat.le_refl _) h)
      replace h := jvI_some h
      obtain ⟨x16, rfl, h⟩ := h
      refine r_icmp_eq C 64 62 rfl dX1_isSame_59 (by decide) h (fun h => ?_) (fun h => ?_)
      · refine r_iinc C (v := v6 + 1) 67 rfl 5 [(6, .int (v6 + 1)), (0, .ref a0), (2, .ref a2), (3, .int v3), (4, .int v4), (5, .int v5)] dX1_isSame_64 rfl rfl (by decide) rfl ?_
        refine r_goto C 30 dX1_isSame_67 (by decide) ?_
        refine r_lv [1, 2, 3, 4, 5, 0] rfl ?_
        exact ih a0 a2 v3 v4 v5 (v6 + 1) t14 h
      · refine r_iconst C (v := 0) 63 rfl dX1_isSame_62 (by decide) ?_
        exact r_zret C (fun _ => rfl) dX1_isSame_63 (Nat.le_refl _) (Nat.le_refl _) h
set_option maxHeartbeats 4000000 in
set_option maxRecDepth 100000 in
theorem k_X1_isSame (l : Launch) (hst : l.stackTraces = false) (g : jG)   (a0 : Nat) (v1 : Int32) (a2 : Nat) (v3 : Int32) (v4 : Int32) (σ : Hp) (o : jO) (τ : Hp) (h : J_X1_isSame a0 v1 a2 v3 v4 σ = some (o, τ)) : jMet l g yX1_isSame (Cond.code yX1_isSame cX1_isSame 7 (some FieldType.boolean) :: gT) ({ frames := 3, cells := 0, slots := 0, locals := 54 } : Room) 0 0 [.ref a0, .int v1, .ref a2, .int v3, .int v4] σ o τ := by
  refine j_start l hst (own := RX1) (by decide) rfl (Nat.le_of_ble_eq_true rfl) ?_
  intro p e s m args below meth c C hE hin
  unfold J_X1_isSame at h
  show jW p l e ({ frames := 3, cells := 0, slots := 0, locals := 54 } : Room) s m args below meth c g (jQ below g o τ args s 0 0) 0 0 0 [(0, .ref a0), (1, .int v1), (2, .ref a2), (3, .int v3), (4, .int v4)] [] σ
  refine r_aload_n C (x := some a0) 1 rfl 0 dX1_isSame_0 rfl ?_
  refine r_iload_n C 2 rfl 1 dX1_isSame_1 rfl ?_
  refine r_callV C (ci := 1) mm_X1_32 im_yX1_startOf se_yX1_startOf rfl 5 0 0 rfl rfl rfl dX1_isSame_2 rfl rfl (As := [.int v1]) rfl rfl (Nat.le_of_ble_eq_true rfl) ⟨Nat.le_of_ble_eq_true rfl, Nat.le_of_ble_eq_true rfl⟩ ⟨(Nat.le_of_ble_eq_true rfl), (Nat.le_of_ble_eq_true rfl)⟩ (fun o t h => k_X1_startOf l hst g _ _ _ o t h) h (fun w2 t1 h => ?_) (fun E t h => r_out C (fun x hx => (hE x hx).elim) (Nat.le_refl _) (Nat.le_refl _) h)
  replace h := jvI_some h
  obtain ⟨x3, rfl, h⟩ := h
  refine r_istore C 7 rfl [(5, .int x3), (0, .ref a0), (1, .int v1), (2, .ref a2), (3, .int v3), (4, .int v4)] dX1_isSame_5 (by decide) rfl ?_
  refine r_aload_n C (x := some a0) 8 rfl 1 dX1_isSame_7 rfl ?_
  refine r_getR C 11 rfl ff_X1_18 dX1_isSame_8 h (fun r4 h => ?_)
  refine r_iload_n C 12 rfl 2 dX1_isSame_11 rfl ?_
  replace h := jdr_some h
  obtain ⟨b5, hr, h⟩ := h
  rw [hr]
  refine r_callV C (ci := 2) mm_X1_25 im_yX2_get se_yX2_get rfl 15 0 0 rfl rfl rfl dX1_isSame_12 rfl rfl (As := [.int v1]) rfl rfl (Nat.le_of_ble_eq_true rfl) ⟨Nat.le_of_ble_eq_true rfl, Nat.le_of_ble_eq_true rfl⟩ ⟨(Nat.le_of_ble_eq_true rfl), (Nat.le_of_ble_eq_true rfl)⟩ (fun o t h => k_X2_get l hst g _ _ _ o t h) h (fun w7 t6 h => ?_) (fun E t h => r_out C (fun x hx => (hE x hx).elim) (Nat.le_refl _) (Nat.le_refl _) h)
  replace h := jvI_some h
  obtain ⟨x8, rfl, h⟩ := h
  refine r_iload C 17 rfl 0 dX1_isSame_15 rfl ?_
  refine r_isub C 18 rfl dX1_isSame_17 ?_
  refine r_iload C 20 rfl 5 dX1_isSame_18 rfl ?_
  refine r_iload_n C 21 rfl 4 dX1_isSame_20 rfl ?_
  refine r_isub C 22 rfl dX1_isSame_21 ?_
  refine r_icmp_eq C 27 25 rfl dX1_isSame_22 (by decide) h (fun h => ?_) (fun h => ?_)
  · refine r_iconst C (v := 0) 28 rfl dX1_isSame_27 (by decide) ?_
    refine r_istore C 30 rfl [(6, .int 0), (5, .int x3), (0, .ref a0), (1, .int v1), (2, .ref a2), (3, .int v3), (4, .int v4)] dX1_isSame_28 (by decide) rfl ?_
    refine r_lv [2, 4, 5, 6, 1, 0] rfl ?_
    refine w_X1_isSame_L30 l hst  C hE   jN a0 a2 v3 v4 x3 0 t6 h
  · refine r_iconst C (v := 0) 26 rfl dX1_isSame_25 (by decide) ?_
    exact r_zret C (fun _ => rfl) dX1_isSame_26 (Nat.le_refl _) (Nat.le_refl _) h

def J_X1_shares  (a0 : Nat) (v1 : Int32) (a2 : Nat) (σ : Hp) : jR := jcv σ a0 1 (J_X1_count a0 σ) (fun w2 t1 => jvI w2 (fun x3 => (if x3 ≤ v1 then jrt .boolean 0 t1 else jcv t1 a2 1 (J_X1_count a2 t1) (fun w5 t4 => jvI w5 (fun x6 => (if x6 ≤ v1 then jrt .boolean 0 t4 else jgR t4 a2 1 0 (fun r7 => jdr r7 (fun b8 => jcv t4 a2 1 (J_X1_startOf a2 v1 t4) (fun w10 t9 => jvI w10 (fun x11 => jcv t9 a2 1 (J_X1_endOf a2 v1 t9) (fun w13 t12 => jvI w13 (fun x14 => jcv t12 a0 1 (J_X1_isSame a0 v1 b8 x11 x14 t12) (fun w16 t15 => jvI w16 (fun x17 => (if x17 = 0 then jrt .boolean 0 t15 else jrt .boolean 1 t15))) (fun E t => some (.inr E, t)))) (fun E t => some (.inr E, t)))) (fun E t => some (.inr E, t))))))) (fun E t => some (.inr E, t))))) (fun E t => some (.inr E, t))
set_option maxHeartbeats 4000000 in
set_option maxRecDepth 100000 in
theorem k_X1_shares (l : Launch) (hst : l.stackTraces = false) (g : jG)   (a0 : Nat) (v1 : Int32) (a2 : Nat) (σ : Hp) (o : jO) (τ : Hp) (h : J_X1_shares a0 v1 a2 σ = some (o, τ)) : jMet l g yX1_shares (Cond.code yX1_shares cX1_shares 3 (some FieldType.boolean) :: gT) ({ frames := 4, cells := 0, slots := 0, locals := 80 } : Room) 0 0 [.ref a0, .int v1, .ref a2] σ o τ := by
  refine j_start l hst (own := RX1) (by decide) rfl (Nat.le_of_ble_eq_true rfl) ?_
  intro p e s m args below meth c C hE hin
  unfold J_X1_shares at h
  show jW p l e ({ frames := 4, cells := 0, slots := 0, locals := 80 } : Room) s m args below meth c g (jQ below g o τ args s 0 0) 0 0 0 [(0, .ref a0), (1, .int v1), (2, .ref a2)] [] σ
  refine r_iload_n C 1 rfl 1 dX1_shares_0 rfl ?_
  refine r_aload_n C (x := some a0) 2 rfl 0 dX1_shares_1 rfl ?_
  refine r_callV C (ci := 1) mm_X1_35 im_yX1_count se_yX1_count rfl 5 0 0 rfl rfl rfl dX1_shares_2 rfl rfl (As := []) rfl rfl (Nat.le_of_ble_eq_true rfl) ⟨Nat.le_of_ble_eq_true rfl, Nat.le_of_ble_eq_true rfl⟩ ⟨(Nat.le_of_ble_eq_true rfl), (Nat.le_of_ble_eq_true rfl)⟩ (fun o t h => k_X1_count l hst g _ _ o t h) h (fun w2 t1 h => ?_) (fun E t h => r_out C (fun x hx => (hE x hx).elim) (Nat.le_refl _) (Nat.le_refl _) h)
  replace h := jvI_some h
  obtain ⟨x3, rfl, h⟩ := h
  refine r_icmp_ge C 42 8 rfl dX1_shares_5 (by decide) h (fun h => ?_) (fun h => ?_)
  · refine r_iconst C (v := 0) 43 rfl dX1_shares_42 (by decide) ?_
    exact r_zret C (fun _ => rfl) dX1_shares_43 (Nat.le_refl _) (Nat.le_refl _) h
  · refine r_iload_n C 9 rfl 1 dX1_shares_8 rfl ?_
    refine r_aload_n C (x := some a2) 10 rfl 2 dX1_shares_9 rfl ?_
    refine r_callV C (ci := 1) mm_X1_35 im_yX1_count se_yX1_count rfl 13 0 0 rfl rfl rfl dX1_shares_10 rfl rfl (As := []) rfl rfl (Nat.le_of_ble_eq_true rfl) ⟨Nat.le_of_ble_eq_true rfl, Nat.le_of_ble_eq_true rfl⟩ ⟨(Nat.le_of_ble_eq_true rfl), (Nat.le_of_ble_eq_true rfl)⟩ (fun o t h => k_X1_count l hst g _ _ o t h) h (fun w5 t4 h => ?_) (fun E t h => r_out C (fun x hx => (hE x hx).elim) (Nat.le_refl _) (Nat.le_refl _) h)
    replace h := jvI_some h
    obtain ⟨x6, rfl, h⟩ := h
    refine r_icmp_ge C 42 16 rfl dX1_shares_13 (by decide) h (fun h => ?_) (fun h => ?_)
    · refine r_iconst C (v := 0) 43 rfl dX1_shares_42 (by decide) ?_
      exact r_zret C (fun _ => rfl) dX1_shares_43 (Nat.le_refl _) (Nat.le_refl _) h
    · refine r_aload_n C (x := some a0) 17 rfl 0 dX1_shares_16 rfl ?_
      refine r_iload_n C 18 rfl 1 dX1_shares_17 rfl ?_
      refine r_aload_n C (x := some a2) 19 rfl 2 dX1_shares_18 rfl ?_
      refine r_getR C 22 rfl ff_X1_12 dX1_shares_19 h (fun r7 h => ?_)
      refine r_aload_n C (x := some a2) 23 rfl 2 dX1_shares_22 rfl ?_
      refine r_iload_n C 24 rfl 1 dX1_shares_23 rfl ?_
      replace h := jdr_some h
      obtain ⟨b8, hr, h⟩ := h
      rw [hr]
      refine r_callV C (ci := 1) mm_X1_32 im_yX1_startOf se_yX1_startOf rfl 27 0 0 rfl rfl rfl dX1_shares_24 rfl rfl (As := [.int v1]) rfl rfl (Nat.le_of_ble_eq_true rfl) ⟨Nat.le_of_ble_eq_true rfl, Nat.le_of_ble_eq_true rfl⟩ ⟨(Nat.le_of_ble_eq_true rfl), (Nat.le_of_ble_eq_true rfl)⟩ (fun o t h => k_X1_startOf l hst g _ _ _ o t h) h (fun w10 t9 h => ?_) (fun E t h => r_out C (fun x hx => (hE x hx).elim) (Nat.le_refl _) (Nat.le_refl _) h)
      replace h := jvI_some h
      obtain ⟨x11, rfl, h⟩ := h
      refine r_aload_n C (x := some a2) 28 rfl 2 dX1_shares_27 rfl ?_
      refine r_iload_n C 29 rfl 1 dX1_shares_28 rfl ?_
      refine r_callV C (ci := 1) mm_X1_29 im_yX1_endOf se_yX1_endOf rfl 32 0 0 rfl rfl rfl dX1_shares_29 rfl rfl (As := [.int v1]) rfl rfl (Nat.le_of_ble_eq_true rfl) ⟨Nat.le_of_ble_eq_true rfl, Nat.le_of_ble_eq_true rfl⟩ ⟨(Nat.le_of_ble_eq_true rfl), (Nat.le_of_ble_eq_true rfl)⟩ (fun o t h => k_X1_endOf l hst g _ _ _ o t h) h (fun w13 t12 h => ?_) (fun E t h => r_out C (fun x hx => (hE x hx).elim) (Nat.le_refl _) (Nat.le_refl _) h)
      replace h := jvI_some h
      obtain ⟨x14, rfl, h⟩ := h
      refine r_callV C (ci := 1) mm_X1_55 im_yX1_isSame se_yX1_isSame rfl 35 0 0 rfl rfl rfl dX1_shares_32 rfl rfl (As := [.int v1, .ref b8, .int x11, .int x14]) rfl rfl (Nat.le_of_ble_eq_true rfl) ⟨Nat.le_of_ble_eq_true rfl, Nat.le_of_ble_eq_true rfl⟩ ⟨(Nat.le_of_ble_eq_true rfl), (Nat.le_of_ble_eq_true rfl)⟩ (fun o t h => k_X1_isSame l hst g _ _ _ _ _ _ o t h) h (fun w16 t15 h => ?_) (fun E t h => r_out C (fun x hx => (hE x hx).elim) (Nat.le_refl _) (Nat.le_refl _) h)
      replace h := jvI_some h
      obtain ⟨x17, rfl, h⟩ := h
      refine r_if_eq C 42 38 rfl dX1_shares_35 (by decide) h (fun h => ?_) (fun h => ?_)
      · refine r_iconst C (v := 0) 43 rfl dX1_shares_42 (by decide) ?_
        exact r_zret C (fun _ => rfl) dX1_shares_43 (Nat.le_refl _) (Nat.le_refl _) h
      · refine r_iconst C (v := 1) 39 rfl dX1_shares_38 (by decide) ?_
        refine r_goto C 43 dX1_shares_39 (by decide) ?_
        exact r_zret C (fun _ => rfl) dX1_shares_43 (Nat.le_refl _) (Nat.le_refl _) h

def J_X1_takeOver  (a0 : Nat) (a1 : Nat) (σ : Hp) : jR := jgR σ a0 1 0 (fun r1 => jgR σ a1 1 0 (fun r2 => jdr r2 (fun b3 => jdr r1 (fun b4 => jcv σ b4 2 (J_X2_takeOver b4 b3 σ) (fun w6 t5 => jvV w6 (jgR t5 a0 1 1 (fun r7 => jgR t5 a1 1 1 (fun r8 => jdr r8 (fun b9 => jdr r7 (fun b10 => jcv t5 b10 2 (J_X2_takeOver b10 b9 t5) (fun w12 t11 => jvV w12 (some (.inl none, t11))) (fun E t => some (.inr E, t)))))))) (fun E t => some (.inr E, t))))))
set_option maxHeartbeats 4000000 in
set_option maxRecDepth 100000 in
theorem k_X1_takeOver (l : Launch) (hst : l.stackTraces = false) (g : jG)   (a0 : Nat) (a1 : Nat) (σ : Hp) (o : jO) (τ : Hp) (h : J_X1_takeOver a0 a1 σ = some (o, τ)) : jMet l g yX1_takeOver (Cond.code yX1_takeOver cX1_takeOver 2 none :: gT) ({ frames := 3, cells := 0, slots := 0, locals := 55 } : Room) 0 0 [.ref a0, .ref a1] σ o τ := by
  refine j_start l hst (own := RX1) (by decide) rfl (Nat.le_of_ble_eq_true rfl) ?_
  intro p e s m args below meth c C hE hin
  unfold J_X1_takeOver at h
  show jW p l e ({ frames := 3, cells := 0, slots := 0, locals := 55 } : Room) s m args below meth c g (jQ below g o τ args s 0 0) 0 0 0 [(0, .ref a0), (1, .ref a1)] [] σ
  refine r_aload_n C (x := some a0) 1 rfl 0 dX1_takeOver_0 rfl ?_
  refine r_getR C 4 rfl ff_X1_12 dX1_takeOver_1 h (fun r1 h => ?_)
  refine r_aload_n C (x := some a1) 5 rfl 1 dX1_takeOver_4 rfl ?_
  refine r_getR C 8 rfl ff_X1_12 dX1_takeOver_5 h (fun r2 h => ?_)
  replace h := jdr_some h
  obtain ⟨b3, hr, h⟩ := h
  rw [hr]
  replace h := jdr_some h
  obtain ⟨b4, hr, h⟩ := h
  rw [hr]
  refine r_callV C (ci := 2) mm_X1_59 im_yX2_takeOver se_yX2_takeOver rfl 11 0 0 rfl rfl rfl dX1_takeOver_8 rfl rfl (As := [.ref b3]) rfl rfl (Nat.le_of_ble_eq_true rfl) ⟨Nat.le_of_ble_eq_true rfl, Nat.le_of_ble_eq_true rfl⟩ ⟨(Nat.le_of_ble_eq_true rfl), (Nat.le_of_ble_eq_true rfl)⟩ (fun o t h => k_X2_takeOver l hst g _ _ _ o t h) h (fun w6 t5 h => ?_) (fun E t h => r_out C (fun x hx => (hE x hx).elim) (Nat.le_refl _) (Nat.le_refl _) h)
  replace h := jvV_some h
  obtain ⟨rfl, h⟩ := h
  refine r_aload_n C (x := some a0) 12 rfl 0 dX1_takeOver_11 rfl ?_
  refine r_getR C 15 rfl ff_X1_18 dX1_takeOver_12 h (fun r7 h => ?_)
  refine r_aload_n C (x := some a1) 16 rfl 1 dX1_takeOver_15 rfl ?_
  refine r_getR C 19 rfl ff_X1_18 dX1_takeOver_16 h (fun r8 h => ?_)
  replace h := jdr_some h
  obtain ⟨b9, hr, h⟩ := h
  rw [hr]
  replace h := jdr_some h
  obtain ⟨b10, hr, h⟩ := h
  rw [hr]
  refine r_callV C (ci := 2) mm_X1_59 im_yX2_takeOver se_yX2_takeOver rfl 22 0 0 rfl rfl rfl dX1_takeOver_19 rfl rfl (As := [.ref b9]) rfl rfl (Nat.le_of_ble_eq_true rfl) ⟨Nat.le_of_ble_eq_true rfl, Nat.le_of_ble_eq_true rfl⟩ ⟨(Nat.le_of_ble_eq_true rfl), (Nat.le_of_ble_eq_true rfl)⟩ (fun o t h => k_X2_takeOver l hst g _ _ _ o t h) h (fun w12 t11 h => ?_) (fun E t h => r_out C (fun x hx => (hE x hx).elim) (Nat.le_refl _) (Nat.le_refl _) h)
  replace h := jvV_some h
  obtain ⟨rfl, h⟩ := h
  exact r_vret C dX1_takeOver_22 (Nat.le_refl _) (Nat.le_refl _) h
