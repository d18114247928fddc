def J_X2_init (c1 : Nat) (a0 : Nat) (v1 : Int32) (σ : Hp) : jR := jpI σ a0 2 1 0 (fun t1 => (if 0 ≤ v1 then jnA t1 2 c1 v1 (fun b2 t3 => jpR t3 a0 2 0 (some b2) (fun t4 => some (.inl none, t4))) else jnA t1 2 0 0 (fun b5 t6 => jpR t6 a0 2 0 (some b5) (fun t7 => some (.inl none, t7)))))
set_option maxHeartbeats 4000000 in
set_option maxRecDepth 100000 in
theorem k_X2_init (l : Launch) (hst : l.stackTraces = false) (g : jG) (c1 : Nat) (hc_c1 : c1 ≤ 100000) (a0 : Nat) (v1 : Int32) (σ : Hp) (o : jO) (τ : Hp) (h : J_X2_init c1 a0 v1 σ = some (o, τ)) : jMet l g yX2_init (Cond.code yX2_init cX2_init 2 none :: gT) ({ frames := 1, cells := 1, slots := c1, locals := 26 } : Room) 1 c1 [.ref a0, .int v1] σ o τ := by
  refine j_start l hst (own := RX2) (by decide) rfl (Nat.le_of_ble_eq_true rfl) ?_
  intro p e s m args below meth c C hE hin
  unfold J_X2_init at h
  show jW p l e ({ frames := 1, cells := 1, slots := c1, locals := 26 } : Room) s m args below meth c g (jQ below g o τ args s 1 c1) 0 0 0 [(0, .ref a0), (1, .int v1)] [] σ
  refine r_aload_n C (x := some a0) 1 rfl 0 dX2_init_0 rfl ?_
  refine r_objInit C 4 rfl ml_X2_3 im_oi cd_oi dX2_init_1 (Nat.le_of_ble_eq_true rfl) (Nat.le_of_ble_eq_true rfl) ?_
  refine r_aload_n C (x := some a0) 5 rfl 0 dX2_init_4 rfl ?_
  refine r_iconst C (v := 0) 6 rfl dX2_init_5 (by decide) ?_
  refine r_putI C 9 rfl fp_X2_9 dX2_init_6 h (fun t1 h => ?_)
  refine r_aload_n C (x := some a0) 10 rfl 0 dX2_init_9 rfl ?_
  refine r_iload_n C 11 rfl 1 dX2_init_10 rfl ?_
  refine r_if_ge C 18 14 rfl dX2_init_11 (by decide) h (fun h => ?_) (fun h => ?_)
  · refine r_iload_n C 19 rfl 1 dX2_init_18 rfl ?_
    refine r_newI C 21 rfl ac_int dX2_init_19 hc_c1 (Nat.le_of_ble_eq_true rfl) (by show 0 + c1 ≤ c1; omega) h (fun b2 t3 h => ?_)
    refine r_putRF C hin (v := (some b2)) 24 rfl fp_X2_15 dX2_init_21 h (fun t4 h => ?_)
    exact r_vret C dX2_init_24 (Nat.le_refl _) (by omega) h
  · refine r_iconst C (v := 0) 15 rfl dX2_init_14 (by decide) ?_
    refine r_goto C 19 dX2_init_15 (by decide) ?_
    refine r_newI C 21 rfl ac_int dX2_init_19 (by decide) (Nat.le_of_ble_eq_true rfl) (by show 0 ≤ c1; omega) h (fun b5 t6 h => ?_)
    refine r_putRF C hin (v := (some b5)) 24 rfl fp_X2_15 dX2_init_21 h (fun t7 h => ?_)
    exact r_vret C dX2_init_24 (Nat.le_refl _) (by omega) h

def J_X2_add  (a0 : Nat) (v1 : Int32) (σ : Hp) : jR := jgI σ a0 2 1 (fun x1 => jgR σ a0 2 0 (fun r2 => jdr r2 (fun b3 => jal σ b3 2 (fun x4 => (if x4 ≤ x1 then some (.inl none, σ) else jgR σ a0 2 0 (fun r5 => jgI σ a0 2 1 (fun x6 => jdr r5 (fun b7 => jsI σ b7 x6 v1 (fun t8 => jgI t8 a0 2 1 (fun x9 => jpI t8 a0 2 1 (x9 + 1) (fun t10 => some (.inl none, t10))))))))))))
set_option maxHeartbeats 4000000 in
set_option maxRecDepth 100000 in
theorem k_X2_add (l : Launch) (hst : l.stackTraces = false) (g : jG)   (a0 : Nat) (v1 : Int32) (σ : Hp) (o : jO) (τ : Hp) (h : J_X2_add a0 v1 σ = some (o, τ)) : jMet l g yX2_add (Cond.code yX2_add cX2_add 2 none :: gT) ({ frames := 1, cells := 0, slots := 0, locals := 12 } : Room) 0 0 [.ref a0, .int v1] σ o τ := by
  refine j_start l hst (own := RX2) (by decide) rfl (Nat.le_of_ble_eq_true rfl) ?_
  intro p e s m args below meth c C hE hin
  unfold J_X2_add at h
  show jW p l e ({ frames := 1, cells := 0, slots := 0, locals := 12 } : Room) s m args below meth c g (jQ below g o τ args s 0 0) 0 0 0 [(0, .ref a0), (1, .int v1)] [] σ
  refine r_aload_n C (x := some a0) 1 rfl 0 dX2_add_0 rfl ?_
  refine r_getI C 4 rfl ff_X2_9 dX2_add_1 h (fun x1 h => ?_)
  refine r_aload_n C (x := some a0) 5 rfl 0 dX2_add_4 rfl ?_
  refine r_getR C 8 rfl ff_X2_15 dX2_add_5 h (fun r2 h => ?_)
  replace h := jdr_some h
  obtain ⟨b3, hr, h⟩ := h
  rw [hr]
  refine r_alen C (t := 2) 9 rfl (by decide) dX2_add_8 h (fun x4 h => ?_)
  refine r_icmp_ge C 32 12 rfl dX2_add_9 (by decide) h (fun h => ?_) (fun h => ?_)
  · exact r_vret C dX2_add_32 (Nat.le_refl _) (Nat.le_refl _) h
  · refine r_aload_n C (x := some a0) 13 rfl 0 dX2_add_12 rfl ?_
    refine r_getR C 16 rfl ff_X2_15 dX2_add_13 h (fun r5 h => ?_)
    refine r_aload_n C (x := some a0) 17 rfl 0 dX2_add_16 rfl ?_
    refine r_getI C 20 rfl ff_X2_9 dX2_add_17 h (fun x6 h => ?_)
    refine r_iload_n C 21 rfl 1 dX2_add_20 rfl ?_
    replace h := jdr_some h
    obtain ⟨b7, hr, h⟩ := h
    rw [hr]
    refine r_iast C 22 rfl dX2_add_21 h (fun t8 h => ?_)
    refine r_aload_n C (x := some a0) 23 rfl 0 dX2_add_22 rfl ?_
    refine r_dup C 24 rfl dX2_add_23 rfl ?_
    refine r_getI C 27 rfl ff_X2_9 dX2_add_24 h (fun x9 h => ?_)
    refine r_iconst C (v := 1) 28 rfl dX2_add_27 (by decide) ?_
    refine r_iadd C 29 rfl dX2_add_28 ?_
    refine r_putI C 32 rfl fp_X2_9 dX2_add_29 h (fun t10 h => ?_)
    exact r_vret C dX2_add_32 (Nat.le_refl _) (Nat.le_refl _) h

def J_X2_get  (a0 : Nat) (v1 : Int32) (σ : Hp) : jR := (if v1 < 0 then some (.inl (some (.int 0)), σ) else jgI σ a0 2 1 (fun x1 => (if v1 < x1 then jgR σ a0 2 0 (fun r2 => jdr r2 (fun b3 => jaI σ b3 v1 (fun x4 => some (.inl (some (.int x4)), σ)))) else some (.inl (some (.int 0)), σ))))
set_option maxHeartbeats 4000000 in
set_option maxRecDepth 100000 in
theorem k_X2_get (l : Launch) (hst : l.stackTraces = false) (g : jG)   (a0 : Nat) (v1 : Int32) (σ : Hp) (o : jO) (τ : Hp) (h : J_X2_get a0 v1 σ = some (o, τ)) : jMet l g yX2_get (Cond.code yX2_get cX2_get 2 (some FieldType.int) :: gT) ({ frames := 1, cells := 0, slots := 0, locals := 12 } : Room) 0 0 [.ref a0, .int v1] σ o τ := by
  refine j_start l hst (own := RX2) (by decide) rfl (Nat.le_of_ble_eq_true rfl) ?_
  intro p e s m args below meth c C hE hin
  unfold J_X2_get at h
  show jW p l e ({ frames := 1, cells := 0, slots := 0, locals := 12 } : Room) s m args below meth c g (jQ below g o τ args s 0 0) 0 0 0 [(0, .ref a0), (1, .int v1)] [] σ
  refine r_iload_n C 1 rfl 1 dX2_get_0 rfl ?_
  refine r_if_lt C 12 4 rfl dX2_get_1 (by decide) h (fun h => ?_) (fun h => ?_)
  · refine r_iconst C (v := 0) 13 rfl dX2_get_12 (by decide) ?_
    refine r_goto C 22 dX2_get_13 (by decide) ?_
    exact r_iret C dX2_get_22 (Nat.le_refl _) (Nat.le_refl _) h
  · refine r_iload_n C 5 rfl 1 dX2_get_4 rfl ?_
    refine r_aload_n C (x := some a0) 6 rfl 0 dX2_get_5 rfl ?_
    refine r_getI C 9 rfl ff_X2_9 dX2_get_6 h (fun x1 h => ?_)
    refine r_icmp_lt C 16 12 rfl dX2_get_9 (by decide) h (fun h => ?_) (fun h => ?_)
    · refine r_aload_n C (x := some a0) 17 rfl 0 dX2_get_16 rfl ?_
      refine r_getR C 20 rfl ff_X2_15 dX2_get_17 h (fun r2 h => ?_)
      refine r_iload_n C 21 rfl 1 dX2_get_20 rfl ?_
      replace h := jdr_some h
      obtain ⟨b3, hr, h⟩ := h
      rw [hr]
      refine r_iald C 22 rfl dX2_get_21 h (fun x4 h => ?_)
      exact r_iret C dX2_get_22 (Nat.le_refl _) (Nat.le_refl _) h
    · refine r_iconst C (v := 0) 13 rfl dX2_get_12 (by decide) ?_
      refine r_goto C 22 dX2_get_13 (by decide) ?_
      exact r_iret C dX2_get_22 (Nat.le_refl _) (Nat.le_refl _) h

def J_X2_set  (a0 : Nat) (v1 : Int32) (v2 : Int32) (σ : Hp) : jR := (if v1 < 0 then some (.inl none, σ) else jgI σ a0 2 1 (fun x1 => (if x1 ≤ v1 then some (.inl none, σ) else jgR σ a0 2 0 (fun r2 => jdr r2 (fun b3 => jsI σ b3 v1 v2 (fun t4 => some (.inl none, t4)))))))
set_option maxHeartbeats 4000000 in
set_option maxRecDepth 100000 in
theorem k_X2_set (l : Launch) (hst : l.stackTraces = false) (g : jG)   (a0 : Nat) (v1 : Int32) (v2 : Int32) (σ : Hp) (o : jO) (τ : Hp) (h : J_X2_set a0 v1 v2 σ = some (o, τ)) : jMet l g yX2_set (Cond.code yX2_set cX2_set 3 none :: gT) ({ frames := 1, cells := 0, slots := 0, locals := 12 } : Room) 0 0 [.ref a0, .int v1, .int v2] σ o τ := by
  refine j_start l hst (own := RX2) (by decide) rfl (Nat.le_of_ble_eq_true rfl) ?_
  intro p e s m args below meth c C hE hin
  unfold J_X2_set at h
  show jW p l e ({ frames := 1, cells := 0, slots := 0, locals := 12 } : Room) s m args below meth c g (jQ below g o τ args s 0 0) 0 0 0 [(0, .ref a0), (1, .int v1), (2, .int v2)] [] σ
  refine r_iload_n C 1 rfl 1 dX2_set_0 rfl ?_
  refine r_if_lt C 19 4 rfl dX2_set_1 (by decide) h (fun h => ?_) (fun h => ?_)
  · exact r_vret C dX2_set_19 (Nat.le_refl _) (Nat.le_refl _) h
  · refine r_iload_n C 5 rfl 1 dX2_set_4 rfl ?_
    refine r_aload_n C (x := some a0) 6 rfl 0 dX2_set_5 rfl ?_
    refine r_getI C 9 rfl ff_X2_9 dX2_set_6 h (fun x1 h => ?_)
    refine r_icmp_ge C 19 12 rfl dX2_set_9 (by decide) h (fun h => ?_) (fun h => ?_)
    · exact r_vret C dX2_set_19 (Nat.le_refl _) (Nat.le_refl _) h
    · refine r_aload_n C (x := some a0) 13 rfl 0 dX2_set_12 rfl ?_
      refine r_getR C 16 rfl ff_X2_15 dX2_set_13 h (fun r2 h => ?_)
      refine r_iload_n C 17 rfl 1 dX2_set_16 rfl ?_
      refine r_iload_n C 18 rfl 2 dX2_set_17 rfl ?_
      replace h := jdr_some h
      obtain ⟨b3, hr, h⟩ := h
      rw [hr]
      refine r_iast C 19 rfl dX2_set_18 h (fun t4 h => ?_)
      exact r_vret C dX2_set_19 (Nat.le_refl _) (Nat.le_refl _) h

def J_X2_count  (a0 : Nat) (σ : Hp) : jR := jgI σ a0 2 1 (fun x1 => some (.inl (some (.int x1)), σ))
set_option maxHeartbeats 4000000 in
set_option maxRecDepth 100000 in
theorem k_X2_count (l : Launch) (hst : l.stackTraces = false) (g : jG)   (a0 : Nat) (σ : Hp) (o : jO) (τ : Hp) (h : J_X2_count a0 σ = some (o, τ)) : jMet l g yX2_count (Cond.code yX2_count cX2_count 1 (some FieldType.int) :: gT) ({ frames := 1, cells := 0, slots := 0, locals := 12 } : Room) 0 0 [.ref a0] σ o τ := by
  refine j_start l hst (own := RX2) (by decide) rfl (Nat.le_of_ble_eq_true rfl) ?_
  intro p e s m args below meth c C hE hin
  unfold J_X2_count at h
  show jW p l e ({ frames := 1, cells := 0, slots := 0, locals := 12 } : Room) s m args below meth c g (jQ below g o τ args s 0 0) 0 0 0 [(0, .ref a0)] [] σ
  refine r_aload_n C (x := some a0) 1 rfl 0 dX2_count_0 rfl ?_
  refine r_getI C 4 rfl ff_X2_9 dX2_count_1 h (fun x1 h => ?_)
  exact r_iret C dX2_count_4 (Nat.le_refl _) (Nat.le_refl _) h

def J_X2_empty  (a0 : Nat) (σ : Hp) : jR := jpI σ a0 2 1 0 (fun t1 => some (.inl none, t1))
set_option maxHeartbeats 4000000 in
set_option maxRecDepth 100000 in
theorem k_X2_empty (l : Launch) (hst : l.stackTraces = false) (g : jG)   (a0 : Nat) (σ : Hp) (o : jO) (τ : Hp) (h : J_X2_empty a0 σ = some (o, τ)) : jMet l g yX2_empty (Cond.code yX2_empty cX2_empty 1 none :: gT) ({ frames := 1, cells := 0, slots := 0, locals := 12 } : Room) 0 0 [.ref a0] σ o τ := by
  refine j_start l hst (own := RX2) (by decide) rfl (Nat.le_of_ble_eq_true rfl) ?_
  intro p e s m args below meth c C hE hin
  unfold J_X2_empty at h
  show jW p l e ({ frames := 1, cells := 0, slots := 0, locals := 12 } : Room) s m args below meth c g (jQ below g o τ args s 0 0) 0 0 0 [(0, .ref a0)] [] σ
  refine r_aload_n C (x := some a0) 1 rfl 0 dX2_empty_0 rfl ?_
  refine r_iconst C (v := 0) 2 rfl dX2_empty_1 (by decide) ?_
  refine r_putI C 5 rfl fp_X2_9 dX2_empty_2 h (fun t1 h => ?_)
  exact r_vret C dX2_empty_5 (Nat.le_refl _) (Nat.le_refl _) h

def J_X2_remove  (a0 : Nat) (v1 : Int32) (σ : Hp) : jR := (if v1 < 0 then some (.inl none, σ) else jgI σ a0 2 1 (fun x1 => (if x1 ≤ v1 then some (.inl none, σ) else jgI σ a0 2 1 (fun x2 => jpI σ a0 2 1 (x2 - 1) (fun t3 => jgR t3 a0 2 0 (fun r4 => jgR t3 a0 2 0 (fun r5 => jgI t3 a0 2 1 (fun x6 => jdr r4 (fun b7 => jdr r5 (fun b8 => jcp t3 b7 b8 (v1 + 1) v1 (x6 - v1) (fun t9 => some (.inl none, t9))))))))))))
set_option maxHeartbeats 4000000 in
set_option maxRecDepth 100000 in
theorem k_X2_remove (l : Launch) (hst : l.stackTraces = false) (g : jG)   (a0 : Nat) (v1 : Int32) (σ : Hp) (o : jO) (τ : Hp) (h : J_X2_remove a0 v1 σ = some (o, τ)) : jMet l g yX2_remove (Cond.code yX2_remove cX2_remove 2 none :: gT) ({ frames := 1, cells := 0, slots := 0, locals := 40 } : Room) 0 0 [.ref a0, .int v1] σ o τ := by
  refine j_start l hst (own := RX2) (by decide) rfl (Nat.le_of_ble_eq_true rfl) ?_
  intro p e s m args below meth c C hE hin
  unfold J_X2_remove at h
  show jW p l e ({ frames := 1, cells := 0, slots := 0, locals := 40 } : Room) s m args below meth c g (jQ below g o τ args s 0 0) 0 0 0 [(0, .ref a0), (1, .int v1)] [] σ
  refine r_iload_n C 1 rfl 1 dX2_remove_0 rfl ?_
  refine r_if_lt C 43 4 rfl dX2_remove_1 (by decide) h (fun h => ?_) (fun h => ?_)
  · exact r_vret C dX2_remove_43 (Nat.le_refl _) (Nat.le_refl _) h
  · refine r_iload_n C 5 rfl 1 dX2_remove_4 rfl ?_
    refine r_aload_n C (x := some a0) 6 rfl 0 dX2_remove_5 rfl ?_
    refine r_getI C 9 rfl ff_X2_9 dX2_remove_6 h (fun x1 h => ?_)
    refine r_icmp_ge C 43 12 rfl dX2_remove_9 (by decide) h (fun h => ?_) (fun h => ?_)
    · exact r_vret C dX2_remove_43 (Nat.le_refl _) (Nat.le_refl _) h
    · refine r_aload_n C (x := some a0) 13 rfl 0 dX2_remove_12 rfl ?_
      refine r_dup C 14 rfl dX2_remove_13 rfl ?_
      refine r_getI C 17 rfl ff_X2_9 dX2_remove_14 h (fun x2 h => ?_)
      refine r_iconst C (v := 1) 18 rfl dX2_remove_17 (by decide) ?_
      refine r_isub C 19 rfl dX2_remove_18 ?_
      refine r_putI C 22 rfl fp_X2_9 dX2_remove_19 h (fun t3 h => ?_)
      refine r_aload_n C (x := some a0) 23 rfl 0 dX2_remove_22 rfl ?_
      refine r_getR C 26 rfl ff_X2_15 dX2_remove_23 h (fun r4 h => ?_)
      refine r_iload_n C 27 rfl 1 dX2_remove_26 rfl ?_
      refine r_iconst C (v := 1) 28 rfl dX2_remove_27 (by decide) ?_
      refine r_iadd C 29 rfl dX2_remove_28 ?_
      refine r_aload_n C (x := some a0) 30 rfl 0 dX2_remove_29 rfl ?_
      refine r_getR C 33 rfl ff_X2_15 dX2_remove_30 h (fun r5 h => ?_)
      refine r_iload_n C 34 rfl 1 dX2_remove_33 rfl ?_
      refine r_aload_n C (x := some a0) 35 rfl 0 dX2_remove_34 rfl ?_
      refine r_getI C 38 rfl ff_X2_9 dX2_remove_35 h (fun x6 h => ?_)
      refine r_iload_n C 39 rfl 1 dX2_remove_38 rfl ?_
      refine r_isub C 40 rfl dX2_remove_39 ?_
      replace h := jdr_some h
      obtain ⟨b7, hr, h⟩ := h
      rw [hr]
      replace h := jdr_some h
      obtain ⟨b8, hr, h⟩ := h
      rw [hr]
      refine r_copy C 43 rfl ml_X2_19 nat_copy st_cp ini_sy dX2_remove_40 (Nat.le_of_ble_eq_true rfl) (by decide) h (fun t9 h => ?_)
      exact r_vret C dX2_remove_43 (Nat.le_refl _) (Nat.le_refl _) h

def J_X2_takeOver_L6b   (rc : Nat → Nat → Int32 → Hp → jR) (a0 : Nat) (a1 : Nat) (v2 : Int32) (t0 : Hp) : jR := jcv t0 a1 2 (J_X2_count a1 t0) (fun w4 t3 => jvI w4 (fun x5 => (if x5 ≤ v2 then some (.inl none, t3) else jcv t3 a1 2 (J_X2_get a1 v2 t3) (fun w7 t6 => jvI w7 (fun x8 => jcv t6 a0 2 (J_X2_add a0 x8 t6) (fun w10 t9 => jvV w10 (rc a0 a1 (v2 + 1) t9)) (fun E t => some (.inr E, t)))) (fun E t => some (.inr E, t))))) (fun E t => some (.inr E, t))
def J_X2_takeOver_L6   : Nat → Nat → Nat → Int32 → Hp → jR
  | 0 => fun _ _ _ _ => none
  | n + 1 => J_X2_takeOver_L6b   (J_X2_takeOver_L6   n)
def J_X2_takeOver  (a0 : Nat) (a1 : Nat) (σ : Hp) : jR := jcv σ a0 2 (J_X2_empty a0 σ) (fun w2 t1 => jvV w2 (J_X2_takeOver_L6   jN a0 a1 0 t1)) (fun E t => some (.inr E, t))
set_option maxHeartbeats 4000000 in
set_option maxRecDepth 100000 in
theorem w_X2_takeOver_L6 (l : Launch) (hst : l.stackTraces = false) {p : Program} {e : Env} {s : State} {m : MethodId} {args : Array Value} {below : List Frame} {meth : Method} {c : Code} {g : jG} {o : jO} {τ : Hp}  (C : jC p l s m args meth c g RX2 cX2_takeOver 3 none) (hE : ∀ x ∈ c.exceptionTable.toList, False)  : ∀ (n : Nat) (a0 : Nat) (a1 : Nat) (v2 : Int32) (t0 : Hp), J_X2_takeOver_L6   n a0 a1 v2 t0 = some (o, τ) → jW p l e ({ frames := 2, cells := 0, slots := 0, locals := 33 } : Room) s m args below meth c g (jQ below g o τ args s 0 0) 0 0 6 [(0, .ref a0), (1, .ref a1), (2, .int v2)] [] t0 := by
  intro n
  induction n with
  | zero => intro a0 a1 v2 t0 h; cases h
  | succ n ih =>
    intro a0 a1 v2 t0 h
    skip
    have h : J_X2_takeOver_L6b   (J_X2_takeOver_L6   n) a0 a1 v2 t0 = some (o, τ) := h
    unfold J_X2_takeOver_L6b at h
    refine r_iload_n C 7 rfl 2 dX2_takeOver_6 rfl ?_
    refine r_aload_n C (x := some a1) 8 rfl 1 dX2_takeOver_7 rfl ?_
    refine r_callV C (ci := 2) mm_X2_32 im_yX2_count se_yX2_count rfl 11 0 0 rfl rfl rfl dX2_takeOver_8 rfl rfl (As := []) rfl rfl (Nat.le_of_ble_eq_true rfl) ⟨Nat.le_of_ble_eq_true rfl, Nat.le_of_ble_eq_true rfl⟩ ⟨(Nat.le_of_ble_eq_true rfl), (Nat.le_of_ble_eq_true rfl)⟩ (fun o t h => k_X2_count l hst g _ _ o t h) h (fun w4 t3 h => ?_) (fun E t h => r_out C (fun x hx => (hE x hx).elim) (Nat.le_refl _) (Nat.le_refl _) h)
    replace h := jvI_some h
    obtain ⟨x5, rfl, h⟩ := h
    refine r_icmp_ge C 29 14 rfl dX2_takeOver_11 (by decide) h (fun h => ?_) (fun h => ?_)
    · exact r_vret C dX2_takeOver_29 (Nat.le_refl _) (Nat.le_refl _) h
    · refine r_aload_n C (x := some a0) 15 rfl 0 dX2_takeOver_14 rfl ?_
      refine r_aload_n C (x := some a1) 16 rfl 1 dX2_takeOver_15 rfl ?_
      refine r_iload_n C 17 rfl 2 dX2_takeOver_16 rfl ?_
      refine r_callV C (ci := 2) mm_X2_25 im_yX2_get se_yX2_get rfl 20 0 0 rfl rfl rfl dX2_takeOver_17 rfl rfl (As := [.int v2]) rfl rfl (Nat.le_of_ble_eq_true rfl) ⟨Nat.le_of_ble_eq_true rfl, Nat.le_of_ble_eq_true rfl⟩ ⟨(Nat.le_of_ble_eq_true rfl), (Nat.le_of_ble_eq_true rfl)⟩ (fun o t h => k_X2_get l hst g _ _ _ o t h) h (fun w7 t6 h => ?_) (fun E t h => r_out C (fun x hx => (hE x hx).elim) (Nat.le_refl _) (Nat.le_refl _) h)
      replace h := jvI_some h
      obtain ⟨x8, rfl, h⟩ := h
      refine r_callV C (ci := 2) mm_X2_35 im_yX2_add se_yX2_add rfl 23 0 0 rfl rfl rfl dX2_takeOver_20 rfl rfl (As := [.int x8]) rfl rfl (Nat.le_of_ble_eq_true rfl) ⟨Nat.le_of_ble_eq_true rfl, Nat.le_of_ble_eq_true rfl⟩ ⟨(Nat.le_of_ble_eq_true rfl), (Nat.le_of_ble_eq_true rfl)⟩ (fun o t h => k_X2_add l hst g _ _ _ o t h) h (fun w10 t9 h => ?_) (fun E t h => r_out C (fun x hx => (hE x hx).elim) (Nat.le_refl _) (Nat.le_refl _) h)
      replace h := jvV_some h
      obtain ⟨rfl, h⟩ := h
      refine r_iinc C (v := v2 + 1) 26 rfl 2 [(2, .int (v2 + 1)), (0, .ref a0), (1, .ref a1)] dX2_takeOver_23 rfl rfl (by decide) rfl ?_
      refine r_goto C 6 dX2_takeOver_26 (by decide) ?_
      refine r_lv [1, 2, 0] rfl ?_
      exact ih a0 a1 (v2 + 1) t9 h
set_option maxHeartbeats 4000000 in
set_option maxRecDepth 100000 in
theorem k_X2_takeOver (l : Launch) (hst : l.stackTraces = false) (g : jG)   (a0 : Nat) (a1 : Nat) (σ : Hp) (o : jO) (τ : Hp) (h : J_X2_takeOver a0 a1 σ = some (o, τ)) : jMet l g yX2_takeOver (Cond.code yX2_takeOver cX2_takeOver 3 none :: gT) ({ frames := 2, cells := 0, slots := 0, locals := 33 } : Room) 0 0 [.ref a0, .ref a1] σ o τ := by
  refine j_start l hst (own := RX2) (by decide) rfl (Nat.le_of_ble_eq_true rfl) ?_
  intro p e s m args below meth c C hE hin
  unfold J_X2_takeOver at h
  show jW p l e ({ frames := 2, cells := 0, slots := 0, locals := 33 } : Room) s m args below meth c g (jQ below g o τ args s 0 0) 0 0 0 [(0, .ref a0), (1, .ref a1)] [] σ
  refine r_aload_n C (x := some a0) 1 rfl 0 dX2_takeOver_0 rfl ?_
  refine r_callV C (ci := 2) mm_X2_29 im_yX2_empty se_yX2_empty rfl 4 0 0 rfl rfl rfl dX2_takeOver_1 rfl rfl (As := []) rfl rfl (Nat.le_of_ble_eq_true rfl) ⟨Nat.le_of_ble_eq_true rfl, Nat.le_of_ble_eq_true rfl⟩ ⟨(Nat.le_of_ble_eq_true rfl), (Nat.le_of_ble_eq_true rfl)⟩ (fun o t h => k_X2_empty l hst g _ _ o t h) h (fun w2 t1 h => ?_) (fun E t h => r_out C (fun x hx => (hE x hx).elim) (Nat.le_refl _) (Nat.le_refl _) h)
  replace h := jvV_some h
  obtain ⟨rfl, h⟩ := h
  refine r_iconst C (v := 0) 5 rfl dX2_takeOver_4 (by decide) ?_
  refine r_istore_n C 6 rfl [(2, .int 0), (0, .ref a0), (1, .ref a1)] dX2_takeOver_5 (by decide) rfl ?_
  refine r_lv [1, 2, 0] rfl ?_
  refine w_X2_takeOver_L6 l hst  C hE   jN a0 a1 0 t1 h

def J_X2_isFull  (a0 : Nat) (σ : Hp) : jR := jgI σ a0 2 1 (fun x1 => jgR σ a0 2 0 (fun r2 => jdr r2 (fun b3 => jal σ b3 2 (fun x4 => (if x1 < x4 then jrt .boolean 0 σ else jrt .boolean 1 σ)))))
set_option maxHeartbeats 4000000 in
set_option maxRecDepth 100000 in
theorem k_X2_isFull (l : Launch) (hst : l.stackTraces = false) (g : jG)   (a0 : Nat) (σ : Hp) (o : jO) (τ : Hp) (h : J_X2_isFull a0 σ = some (o, τ)) : jMet l g yX2_isFull (Cond.code yX2_isFull cX2_isFull 1 (some FieldType.boolean) :: gT) ({ frames := 1, cells := 0, slots := 0, locals := 12 } : Room) 0 0 [.ref a0] σ o τ := by
  refine j_start l hst (own := RX2) (by decide) rfl (Nat.le_of_ble_eq_true rfl) ?_
  intro p e s m args below meth c C hE hin
  unfold J_X2_isFull at h
  show jW p l e ({ frames := 1, cells := 0, slots := 0, locals := 12 } : Room) s m args below meth c g (jQ below g o τ args s 0 0) 0 0 0 [(0, .ref a0)] [] σ
  refine r_aload_n C (x := some a0) 1 rfl 0 dX2_isFull_0 rfl ?_
  refine r_getI C 4 rfl ff_X2_9 dX2_isFull_1 h (fun x1 h => ?_)
  refine r_aload_n C (x := some a0) 5 rfl 0 dX2_isFull_4 rfl ?_
  refine r_getR C 8 rfl ff_X2_15 dX2_isFull_5 h (fun r2 h => ?_)
  replace h := jdr_some h
  obtain ⟨b3, hr, h⟩ := h
  rw [hr]
  refine r_alen C (t := 2) 9 rfl (by decide) dX2_isFull_8 h (fun x4 h => ?_)
  refine r_icmp_lt C 16 12 rfl dX2_isFull_9 (by decide) h (fun h => ?_) (fun h => ?_)
  · refine r_iconst C (v := 0) 17 rfl dX2_isFull_16 (by decide) ?_
    exact r_zret C (fun _ => rfl) dX2_isFull_17 (Nat.le_refl _) (Nat.le_refl _) h
  · refine r_iconst C (v := 1) 13 rfl dX2_isFull_12 (by decide) ?_
    refine r_goto C 17 dX2_isFull_13 (by decide) ?_
    exact r_zret C (fun _ => rfl) dX2_isFull_17 (Nat.le_refl _) (Nat.le_refl _) h

def J_X2_insert  (a0 : Nat) (v1 : Int32) (v2 : Int32) (σ : Hp) : jR := (if v1 < 0 then some (.inl none, σ) else jgI σ a0 2 1 (fun x1 => (if x1 < v1 then some (.inl none, σ) else jgI σ a0 2 1 (fun x2 => jgR σ a0 2 0 (fun r3 => jdr r3 (fun b4 => jal σ b4 2 (fun x5 => (if x5 ≤ x2 then some (.inl none, σ) else jgR σ a0 2 0 (fun r6 => jgR σ a0 2 0 (fun r7 => jgI σ a0 2 1 (fun x8 => jdr r6 (fun b9 => jdr r7 (fun b10 => jcp σ b9 b10 v1 (v1 + 1) (x8 - v1) (fun t11 => jgR t11 a0 2 0 (fun r12 => jdr r12 (fun b13 => jsI t11 b13 v1 v2 (fun t14 => jgI t14 a0 2 1 (fun x15 => jpI t14 a0 2 1 (x15 + 1) (fun t16 => some (.inl none, t16))))))))))))))))))))
set_option maxHeartbeats 4000000 in
set_option maxRecDepth 100000 in
theorem k_X2_insert (l : Launch) (hst : l.stackTraces = false) (g : jG)   (a0 : Nat) (v1 : Int32) (v2 : Int32) (σ : Hp) (o : jO) (τ : Hp) (h : J_X2_insert a0 v1 v2 σ = some (o, τ)) : jMet l g yX2_insert (Cond.code yX2_insert cX2_insert 3 none :: gT) ({ frames := 1, cells := 0, slots := 0, locals := 40 } : Room) 0 0 [.ref a0, .int v1, .int v2] σ o τ := by
  refine j_start l hst (own := RX2) (by decide) rfl (Nat.le_of_ble_eq_true rfl) ?_
  intro p e s m args below meth c C hE hin
  unfold J_X2_insert at h
  show jW p l e ({ frames := 1, cells := 0, slots := 0, locals := 40 } : Room) s m args below meth c g (jQ below g o τ args s 0 0) 0 0 0 [(0, .ref a0), (1, .int v1), (2, .int v2)] [] σ
  refine r_iload_n C 1 rfl 1 dX2_insert_0 rfl ?_
  refine r_if_lt C 62 4 rfl dX2_insert_1 (by decide) h (fun h => ?_) (fun h => ?_)
  · exact r_vret C dX2_insert_62 (Nat.le_refl _) (Nat.le_refl _) h
  · refine r_iload_n C 5 rfl 1 dX2_insert_4 rfl ?_
    refine r_aload_n C (x := some a0) 6 rfl 0 dX2_insert_5 rfl ?_
    refine r_getI C 9 rfl ff_X2_9 dX2_insert_6 h (fun x1 h => ?_)
    refine r_icmp_gt C 62 12 rfl dX2_insert_9 (by decide) h (fun h => ?_) (fun h => ?_)
    · exact r_vret C dX2_insert_62 (Nat.le_refl _) (Nat.le_refl _) h
    · refine r_aload_n C (x := some a0) 13 rfl 0 dX2_insert_12 rfl ?_
      refine r_getI C 16 rfl ff_X2_9 dX2_insert_13 h (fun x2 h => ?_)
      refine r_aload_n C (x := some a0) 17 rfl 0 dX2_insert_16 rfl ?_
      refine r_getR C 20 rfl ff_X2_15 dX2_insert_17 h (fun r3 h => ?_)
      replace h := jdr_some h
      obtain ⟨b4, hr, h⟩ := h
      rw [hr]
      refine r_alen C (t := 2) 21 rfl (by decide) dX2_insert_20 h (fun x5 h => ?_)
      refine r_icmp_ge C 62 24 rfl dX2_insert_21 (by decide) h (fun h => ?_) (fun h => ?_)
      · exact r_vret C dX2_insert_62 (Nat.le_refl _) (Nat.le_refl _) h
      · refine r_aload_n C (x := some a0) 25 rfl 0 dX2_insert_24 rfl ?_
        refine r_getR C 28 rfl ff_X2_15 dX2_insert_25 h (fun r6 h => ?_)
        refine r_iload_n C 29 rfl 1 dX2_insert_28 rfl ?_
        refine r_aload_n C (x := some a0) 30 rfl 0 dX2_insert_29 rfl ?_
        refine r_getR C 33 rfl ff_X2_15 dX2_insert_30 h (fun r7 h => ?_)
        refine r_iload_n C 34 rfl 1 dX2_insert_33 rfl ?_
        refine r_iconst C (v := 1) 35 rfl dX2_insert_34 (by decide) ?_
        refine r_iadd C 36 rfl dX2_insert_35 ?_
        refine r_aload_n C (x := some a0) 37 rfl 0 dX2_insert_36 rfl ?_
        refine r_getI C 40 rfl ff_X2_9 dX2_insert_37 h (fun x8 h => ?_)
        refine r_iload_n C 41 rfl 1 dX2_insert_40 rfl ?_
        refine r_isub C 42 rfl dX2_insert_41 ?_
        replace h := jdr_some h
        obtain ⟨b9, hr, h⟩ := h
        rw [hr]
        replace h := jdr_some h
        obtain ⟨b10, hr, h⟩ := h
        rw [hr]
        refine r_copy C 45 rfl ml_X2_19 nat_copy st_cp ini_sy dX2_insert_42 (Nat.le_of_ble_eq_true rfl) (by decide) h (fun t11 h => ?_)
        refine r_aload_n C (x := some a0) 46 rfl 0 dX2_insert_45 rfl ?_
        refine r_getR C 49 rfl ff_X2_15 dX2_insert_46 h (fun r12 h => ?_)
        refine r_iload_n C 50 rfl 1 dX2_insert_49 rfl ?_
        refine r_iload_n C 51 rfl 2 dX2_insert_50 rfl ?_
        replace h := jdr_some h
        obtain ⟨b13, hr, h⟩ := h
        rw [hr]
        refine r_iast C 52 rfl dX2_insert_51 h (fun t14 h => ?_)
        refine r_aload_n C (x := some a0) 53 rfl 0 dX2_insert_52 rfl ?_
        refine r_dup C 54 rfl dX2_insert_53 rfl ?_
        refine r_getI C 57 rfl ff_X2_9 dX2_insert_54 h (fun x15 h => ?_)
        refine r_iconst C (v := 1) 58 rfl dX2_insert_57 (by decide) ?_
        refine r_iadd C 59 rfl dX2_insert_58 ?_
        refine r_putI C 62 rfl fp_X2_9 dX2_insert_59 h (fun t16 h => ?_)
        exact r_vret C dX2_insert_62 (Nat.le_refl _) (Nat.le_refl _) h

def J_X2_placeOf_L2b   (rc : Nat → Int32 → Int32 → Hp → jR) (a0 : Nat) (v1 : Int32) (v2 : Int32) (t0 : Hp) : jR := jgI t0 a0 2 1 (fun x1 => (if x1 ≤ v2 then some (.inl (some (.int ((-1)))), t0) else jcv t0 a0 2 (J_X2_get a0 v2 t0) (fun w3 t2 => jvI w3 (fun x4 => (if x4 = v1 then some (.inl (some (.int v2)), t2) else rc a0 v1 (v2 + 1) t2))) (fun E t => some (.inr E, t))))
def J_X2_placeOf_L2   : Nat → Nat → Int32 → Int32 → Hp → jR
  | 0 => fun _ _ _ _ => none
  | n + 1 => J_X2_placeOf_L2b   (J_X2_placeOf_L2   n)
def J_X2_placeOf  (a0 : Nat) (v1 : Int32) (σ : Hp) : jR := J_X2_placeOf_L2   jN a0 v1 0 σ
set_option maxHeartbeats 4000000 in
set_option maxRecDepth 100000 in
theorem w_X2_placeOf_L2 (l : Launch) (hst : l.stackTraces = false) {p : Program} {e : Env} {s : State} {m : MethodId} {args : Array Value} {below : List Frame} {meth : Method} {c : Code} {g : jG} {o : jO} {τ : Hp}  (C : jC p l s m args meth c g RX2 cX2_placeOf 3 (some FieldType.int)) (hE : ∀ x ∈ c.exceptionTable.toList, False)  : ∀ (n : Nat) (a0 : Nat) (v1 : Int32) (v2 : Int32) (t0 : Hp), J_X2_placeOf_L2   n a0 v1 v2 t0 = some (o, τ) → jW p l e ({ frames := 2, cells := 0, slots := 0, locals := 33 } : Room) s m args below meth c g (jQ below g o τ args s 0 0) 0 0 2 [(0, .ref a0), (1, .int v1), (2, .int v2)] [] t0 := by
  intro n
  induction n with
  | zero => intro a0 v1 v2 t0 h; cases h
  | succ n ih =>
    intro a0 v1 v2 t0 h
    skip
    have h : J_X2_placeOf_L2b   (J_X2_placeOf_L2   n) a0 v1 v2 t0 = some (o, τ) := h
    unfold J_X2_placeOf_L2b at h
    refine r_iload_n C 3 rfl 2 dX2_placeOf_2 rfl ?_
    refine r_aload_n C (x := some a0) 4 rfl 0 dX2_placeOf_3 rfl ?_
    refine r_getI C 7 rfl ff_X2_9 dX2_placeOf_4 h (fun x1 h => ?_)
    refine r_icmp_ge C 27 10 rfl dX2_placeOf_7 (by decide) h (fun h => ?_) (fun h => ?_)
    · refine r_iconst C (v := (-1)) 28 rfl dX2_placeOf_27 (by decide) ?_
      exact r_iret C dX2_placeOf_28 (Nat.le_refl _) (Nat.le_refl _) h
    · refine r_aload_n C (x := some a0) 11 rfl 0 dX2_placeOf_10 rfl ?_
      refine r_iload_n C 12 rfl 2 dX2_placeOf_11 rfl ?_
      refine r_callV C (ci := 2) mm_X2_25 im_yX2_get se_yX2_get rfl 15 0 0 rfl rfl rfl dX2_placeOf_12 rfl rfl (As := [.int v2]) rfl rfl (Nat.le_of_ble_eq_true rfl) ⟨Nat.le_of_ble_eq_true rfl, Nat.le_of_ble_eq_true rfl⟩ ⟨(Nat.le_of_ble_eq_true rfl), (Nat.le_of_ble_eq_true rfl)⟩ (fun o t h => k_X2_get l hst g _ _ _ o t h) h (fun w3 t2 h => ?_) (fun E t h => r_out C (fun x hx => (hE x hx).elim) (Nat.le_refl _) (Nat.le_refl _) h)
      replace h := jvI_some h
      obtain ⟨x4, rfl, h⟩ := h
      refine r_iload_n C 16 rfl 1 dX2_placeOf_15 rfl ?_
      refine r_icmp_ne C 21 19 rfl dX2_placeOf_16 (by decide) h (fun h => ?_) (fun h => ?_)
      · refine r_iinc C (v := v2 + 1) 24 rfl 2 [(2, .int (v2 + 1)), (0, .ref a0), (1, .int v1)] dX2_placeOf_21 rfl rfl (by decide) rfl ?_
        refine r_goto C 2 dX2_placeOf_24 (by decide) ?_
        refine r_lv [1, 2, 0] rfl ?_
        exact ih a0 v1 (v2 + 1) t2 h
      · refine r_iload_n C 20 rfl 2 dX2_placeOf_19 rfl ?_
        exact r_iret C dX2_placeOf_20 (Nat.le_refl _) (Nat.le_refl _) h
set_option maxHeartbeats 4000000 in
set_option maxRecDepth 100000 in
theorem k_X2_placeOf (l : Launch) (hst : l.stackTraces = false) (g : jG)   (a0 : Nat) (v1 : Int32) (σ : Hp) (o : jO) (τ : Hp) (h : J_X2_placeOf a0 v1 σ = some (o, τ)) : jMet l g yX2_placeOf (Cond.code yX2_placeOf cX2_placeOf 3 (some FieldType.int) :: gT) ({ frames := 2, cells := 0, slots := 0, locals := 33 } : Room) 0 0 [.ref a0, .int v1] σ o τ := by
  refine j_start l hst (own := RX2) (by decide) rfl (Nat.le_of_ble_eq_true rfl) ?_
  intro p e s m args below meth c C hE hin
  unfold J_X2_placeOf at h
  show jW p l e ({ frames := 2, cells := 0, slots := 0, locals := 33 } : Room) s m args below meth c g (jQ below g o τ args s 0 0) 0 0 0 [(0, .ref a0), (1, .int v1)] [] σ
  refine r_iconst C (v := 0) 1 rfl dX2_placeOf_0 (by decide) ?_
  refine r_istore_n C 2 rfl [(2, .int 0), (0, .ref a0), (1, .int v1)] dX2_placeOf_1 (by decide) rfl ?_
  refine r_lv [1, 2, 0] rfl ?_
  refine w_X2_placeOf_L2 l hst  C hE   jN a0 v1 0 σ h
