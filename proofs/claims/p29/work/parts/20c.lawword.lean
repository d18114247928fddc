noncomputable def J_L_word_L6b (g : jG)  (k50 : Nat → Hp → jR) (rc : Nat → Int32 → Int32 → Nat → Int32 → Hp → jR) (a0 : Nat) (v1 : Int32) (v2 : Int32) (a3 : Nat) (v4 : Int32) (t0 : Hp) : jR := jcv t0 a0 5 (J_X5_length a0 v1 v2 t0) (fun w2 t1 => jvI w2 (fun x3 => (if x3 ≤ v4 then k50 a3 t1 else jnw t1 6 (fun b4 t5 => jcv t5 b4 6 (J_J4_init_da8c8 b4 t5) (fun w7 t6 => jvV w7 (jcv t6 b4 6 (J_J4_append_15ec4 b4 a3 t6) (fun w9 t8 => jvA w9 (fun b10 => jcv t8 a0 5 (J_X5_cellOf a0 v1 v2 v4 t8) (fun w12 t11 => jvI w12 (fun x13 => jcv t11 b10 6 (J_J4_append_cf468 b10 ((x13.toUInt32 % 65536).toInt32) t11) (fun w15 t14 => jvA w15 (fun b16 => jcv t14 b16 6 (J_J4_toString_0e30d b16 t14) (fun w18 t17 => jvA w18 (fun b19 => rc a0 v1 v2 b19 (v4 + 1) t17)) (fun E t => some (.inr E, t)))) (fun E t => some (.inr E, t)))) (fun E t => some (.inr E, t)))) (fun E t => some (.inr E, t)))) (fun E t => some (.inr E, t)))))) (fun E t => some (.inr E, t))
noncomputable def J_L_word_L6 (g : jG)  (k50 : Nat → Hp → jR) : Nat → Nat → Int32 → Int32 → Nat → Int32 → Hp → jR
  | 0 => fun _ _ _ _ _ _ => none
  | n + 1 => J_L_word_L6b g  k50 (J_L_word_L6 g  k50 n)
noncomputable def J_L_word (g : jG)  (a0 : Nat) (v1 : Int32) (v2 : Int32) (σ : Hp) : jR := J_L_word_L6 g  (fun (x20 : Nat) (t21 : Hp) => some (.inl (some (.ref x20)), t21)) jN a0 v1 v2 (gKa g 0) ((0 : Int32)) σ
set_option maxHeartbeats 4000000 in
set_option maxRecDepth 100000 in
theorem w_L_word_L6 (l : Launch) (hst : l.stackTraces = false) {p : Program} {e : Env} {s : State} {m : MethodId} {args : Array Value} {below : List Frame} {meth : Method} {c : Code} {g : jG} {o : jO} {τ : Hp}  (C : jC p l s m args meth c g RL cL_word 5 (some (FieldType.object "java/lang/String"))) (hE : ∀ x ∈ c.exceptionTable.toList, False) {KE NE : Nat} (hKE : KE ≤ 1100000) (hNE : NE ≤ 403800000) (k50 : Nat → Hp → jR) (hk50 : ∀ (a3x : Nat) (tx : Hp), k50 a3x tx = some (o, τ) → jW p l e ({ frames := 9, cells := 1100000, slots := 403800000, locals := 169 } : Room) s m args below meth c g (jQ below g o τ args s 1100000 403800000) KE NE 50 [(3, .ref a3x)] [] tx) : ∀ (n : Nat) (a0 : Nat) (v1 : Int32) (v2 : Int32) (a3 : Nat) (v4 : Int32) (t0 : Hp) (kq nq : Nat), kq + Kc 11 n ≤ KE → nq + Kc 4038 n ≤ NE → J_L_word_L6 g  k50 n a0 v1 v2 a3 v4 t0 = some (o, τ) → jW p l e ({ frames := 9, cells := 1100000, slots := 403800000, locals := 169 } : Room) s m args below meth c g (jQ below g o τ args s 1100000 403800000) kq nq 6 [(0, .ref a0), (1, .int v1), (2, .int v2), (3, .ref a3), (4, .int v4)] [] t0 := by
  intro n
  induction n with
  | zero => intro a0 v1 v2 a3 v4 t0 kq nq _ _ h; cases h
  | succ n ih =>
    intro a0 v1 v2 a3 v4 t0 kq nq hkq hnq h
    rw [Kc_t] at hkq hnq
    have h : J_L_word_L6b g  k50 (J_L_word_L6 g  k50 n) a0 v1 v2 a3 v4 t0 = some (o, τ) := h
    unfold J_L_word_L6b at h
    refine r_iload C 8 rfl 4 dL_word_6 rfl ?_
    refine r_aload_n C (x := some a0) 9 rfl 0 dL_word_8 rfl ?_
    refine r_iload_n C 10 rfl 1 dL_word_9 rfl ?_
    refine r_iload_n C 11 rfl 2 dL_word_10 rfl ?_
    refine r_callV C (ci := 5) mm_L_73 im_yX5_length se_yX5_length rfl 14 (kq + 2) (nq + 12) rfl rfl rfl dL_word_11 rfl rfl (As := [.int v1, .int v2]) rfl rfl (Nat.le_of_ble_eq_true rfl) ⟨Nat.le_of_ble_eq_true rfl, Nat.le_of_ble_eq_true rfl⟩ ⟨(by show kq + 2 ≤ 1100000; omega), (by show nq + 12 ≤ 403800000; omega)⟩ (fun o t h => k_X5_length l hst g _ _ _ _ o t h) h (fun w2 t1 h => ?_) (fun E t h => r_out C (fun x hx => (hE x hx).elim) (by omega) (by omega) h)
    replace h := jvI_some h
    obtain ⟨x3, rfl, h⟩ := h
    refine r_icmp_ge C 50 17 rfl dL_word_14 (by decide) h (fun h => ?_) (fun h => ?_)
    · refine r_lv [3] rfl ?_
      refine r_widen (k' := KE) (n' := NE) (by omega) (by omega) ?_
      exact hk50 a3 t1 h
    · refine r_new C 20 rfl tyJ4 (ci := 6) rfl tyJ4_ok nw_J4 lay_J4 cl_L_56 ins_J4 ini_J4 dL_word_17 (by show kq + 2 + 1 ≤ 1100000; omega) (by show nq + 12 + 4 ≤ 403800000; omega) h (fun b4 t5 h => ?_)
      refine r_dup C 21 rfl dL_word_20 rfl ?_
      refine r_callI C (ci := 6) mm_L_58 im_yJ4_init_da8c8 rfl 24 (kq + 2 + 1 + 1) (nq + 12 + 4 + 1000) rfl rfl rfl dL_word_21 rfl rfl (As := []) rfl rfl (Nat.le_of_ble_eq_true rfl) ⟨Nat.le_of_ble_eq_true rfl, Nat.le_of_ble_eq_true rfl⟩ ⟨(by show kq + 2 + 1 + 1 ≤ 1100000; omega), (by show nq + 12 + 4 + 1000 ≤ 403800000; omega)⟩ (fun o t h => k_J4_init_da8c8 l hst g _ _ o t h) h (fun w7 t6 h => ?_) (fun E t h => r_out C (fun x hx => (hE x hx).elim) (by omega) (by omega) h)
      replace h := jvV_some h
      obtain ⟨rfl, h⟩ := h
      refine r_aload_n C (x := some a3) 25 rfl 3 dL_word_24 rfl ?_
      refine r_callV C (ci := 6) mm_L_59 im_yJ4_append_15ec4 se_yJ4_append_15ec4 rfl 28 (kq + 2 + 1 + 1 + 1) (nq + 12 + 4 + 1000 + 1000) rfl rfl rfl dL_word_25 rfl rfl (As := [.ref a3]) rfl rfl (Nat.le_of_ble_eq_true rfl) ⟨Nat.le_of_ble_eq_true rfl, Nat.le_of_ble_eq_true rfl⟩ ⟨(by show kq + 2 + 1 + 1 + 1 ≤ 1100000; omega), (by show nq + 12 + 4 + 1000 + 1000 ≤ 403800000; omega)⟩ (fun o t h => k_J4_append_15ec4 l hst g _ _ _ o t h) h (fun w9 t8 h => ?_) (fun E t h => r_out C (fun x hx => (hE x hx).elim) (by omega) (by omega) h)
      replace h := jvA_some h
      obtain ⟨b10, rfl, h⟩ := h
      refine r_aload_n C (x := some a0) 29 rfl 0 dL_word_28 rfl ?_
      refine r_iload_n C 30 rfl 1 dL_word_29 rfl ?_
      refine r_iload_n C 31 rfl 2 dL_word_30 rfl ?_
      refine r_iload C 33 rfl 4 dL_word_31 rfl ?_
      refine r_callV C (ci := 5) mm_L_76 im_yX5_cellOf se_yX5_cellOf rfl 36 (kq + 2 + 1 + 1 + 1 + 3) (nq + 12 + 4 + 1000 + 1000 + 18) rfl rfl rfl dL_word_33 rfl rfl (As := [.int v1, .int v2, .int v4]) rfl rfl (Nat.le_of_ble_eq_true rfl) ⟨Nat.le_of_ble_eq_true rfl, Nat.le_of_ble_eq_true rfl⟩ ⟨(by show kq + 2 + 1 + 1 + 1 + 3 ≤ 1100000; omega), (by show nq + 12 + 4 + 1000 + 1000 + 18 ≤ 403800000; omega)⟩ (fun o t h => k_X5_cellOf l hst g _ _ _ _ _ o t h) h (fun w12 t11 h => ?_) (fun E t h => r_out C (fun x hx => (hE x hx).elim) (by omega) (by omega) h)
      replace h := jvI_some h
      obtain ⟨x13, rfl, h⟩ := h
      refine r_i2c C 37 rfl dL_word_36 ?_
      refine r_callV C (ci := 6) mm_L_66 im_yJ4_append_cf468 se_yJ4_append_cf468 rfl 40 (kq + 2 + 1 + 1 + 1 + 3 + 1) (nq + 12 + 4 + 1000 + 1000 + 18 + 1000) rfl rfl rfl dL_word_37 rfl rfl (As := [.int ((x13.toUInt32 % 65536).toInt32)]) rfl rfl (Nat.le_of_ble_eq_true rfl) ⟨Nat.le_of_ble_eq_true rfl, Nat.le_of_ble_eq_true rfl⟩ ⟨(by show kq + 2 + 1 + 1 + 1 + 3 + 1 ≤ 1100000; omega), (by show nq + 12 + 4 + 1000 + 1000 + 18 + 1000 ≤ 403800000; omega)⟩ (fun o t h => k_J4_append_cf468 l hst g _ _ _ o t h) h (fun w15 t14 h => ?_) (fun E t h => r_out C (fun x hx => (hE x hx).elim) (by omega) (by omega) h)
      replace h := jvA_some h
      obtain ⟨b16, rfl, h⟩ := h
      refine r_callV C (ci := 6) mm_L_69 im_yJ4_toString_0e30d se_yJ4_toString_0e30d rfl 43 (kq + 2 + 1 + 1 + 1 + 3 + 1 + 2) (nq + 12 + 4 + 1000 + 1000 + 18 + 1000 + 1004) rfl rfl rfl dL_word_40 rfl rfl (As := []) rfl rfl (Nat.le_of_ble_eq_true rfl) ⟨Nat.le_of_ble_eq_true rfl, Nat.le_of_ble_eq_true rfl⟩ ⟨(by show kq + 2 + 1 + 1 + 1 + 3 + 1 + 2 ≤ 1100000; omega), (by show nq + 12 + 4 + 1000 + 1000 + 18 + 1000 + 1004 ≤ 403800000; omega)⟩ (fun o t h => k_J4_toString_0e30d l hst g _ _ o t h) h (fun w18 t17 h => ?_) (fun E t h => r_out C (fun x hx => (hE x hx).elim) (by omega) (by omega) h)
      replace h := jvA_some h
      obtain ⟨b19, rfl, h⟩ := h
      refine r_astore_n C (x := some b19) 44 rfl [(3, .ref b19), (0, .ref a0), (1, .int v1), (2, .int v2), (4, .int v4)] dL_word_43 (by decide) rfl ?_
      refine r_iinc C (v := v4 + 1) 47 rfl 4 [(4, .int (v4 + 1)), (3, .ref b19), (0, .ref a0), (1, .int v1), (2, .int v2)] dL_word_44 rfl rfl (by decide) rfl ?_
      refine r_goto C 6 dL_word_47 (by decide) ?_
      refine r_lv [2, 3, 4, 1, 0] rfl ?_
      exact ih a0 v1 v2 b19 (v4 + 1) t17 (kq + 2 + 1 + 1 + 1 + 3 + 1 + 2) (nq + 12 + 4 + 1000 + 1000 + 18 + 1000 + 1004) (by omega) (by omega) h
set_option maxHeartbeats 4000000 in
set_option maxRecDepth 100000 in
theorem k_L_word (l : Launch) (hst : l.stackTraces = false) (g : jG)   (a0 : Nat) (v1 : Int32) (v2 : Int32) (σ : Hp) (o : jO) (τ : Hp) (h : J_L_word g a0 v1 v2 σ = some (o, τ)) : jMet l g yL_word (Cond.code yL_word cL_word 5 (some (FieldType.object "java/lang/String")) :: gT) ({ frames := 9, cells := 1100000, slots := 403800000, locals := 169 } : Room) 1100000 403800000 [.ref a0, .int v1, .int v2] σ o τ := by
  refine j_start l hst (own := RL) (by decide) rfl (Nat.le_of_ble_eq_true rfl) ?_
  intro p e s m args below meth c C hE hin
  unfold J_L_word at h
  show jW p l e ({ frames := 9, cells := 1100000, slots := 403800000, locals := 169 } : Room) s m args below meth c g (jQ below g o τ args s 1100000 403800000) 0 0 0 [(0, .ref a0), (1, .int v1), (2, .int v2)] [] σ
  refine r_ldcE C 2 rfl dL_word_0 ?_
  refine r_astore_n C (x := some (gKa g 0)) 3 rfl [(3, .ref (gKa g 0)), (0, .ref a0), (1, .int v1), (2, .int v2)] dL_word_2 (by decide) rfl ?_
  refine r_iconst C (v := (0 : Int32)) 4 rfl dL_word_3 (by decide) ?_
  refine r_istore C 6 rfl [(4, .int ((0 : Int32))), (3, .ref (gKa g 0)), (0, .ref a0), (1, .int v1), (2, .int v2)] dL_word_4 (by decide) rfl ?_
  refine r_lv [2, 3, 4, 1, 0] rfl ?_
  refine w_L_word_L6 l hst  C hE (KE := 1100000) (NE := 403800000) (Nat.le_of_ble_eq_true rfl) (Nat.le_of_ble_eq_true rfl) _ (fun x20 t21 h => ?_) jN a0 v1 v2 (gKa g 0) ((0 : Int32)) σ 0 0 (by rw [show Kc 11 jN = 1100000 from by decide +kernel]; exact Nat.le_of_ble_eq_true rfl) (by rw [show Kc 4038 jN = 403800000 from by decide +kernel]; exact Nat.le_of_ble_eq_true rfl) h
  refine r_aload_n C (x := some x20) 51 rfl 0 dL_word_50 rfl ?_
  exact r_aret C (Or.inl ⟨_, rfl⟩) dL_word_51 (Nat.le_refl _) (Nat.le_refl _) h

noncomputable def J_L_areAlike_L19b (g : jG)  (k56 : Int32 → Hp → jR) (rc : Nat → Nat → Int32 → Int32 → Hp → jR) (a0 : Nat) (a1 : Nat) (v2 : Int32) (v3 : Int32) (t0 : Hp) : jR := jcvS t0 a0 (J_J0_length_8abf5 a0 t0) (fun w10 t9 => jvI w10 (fun x11 => (if x11 ≤ v3 then k56 v2 t9 else (if v2 = 0 then k56 v2 t9 else jcvS t9 a0 (J_J0_charAt_5068e a0 v3 t9) (fun w13 t12 => jvI w13 (fun x14 => jcvS t12 a1 (J_J0_charAt_5068e a1 v3 t12) (fun w16 t15 => jvI w16 (fun x17 => jj (fun (x18 : Int32) (t19 : Hp) => rc a0 a1 x18 (v3 + 1) t19) (fun j49 => (if x14 = x17 then j49 ((1 : Int32)) t15 else j49 ((0 : Int32)) t15)))) (fun E t => some (.inr E, t)))) (fun E t => some (.inr E, t)))))) (fun E t => some (.inr E, t))
noncomputable def J_L_areAlike_L19 (g : jG)  (k56 : Int32 → Hp → jR) : Nat → Nat → Nat → Int32 → Int32 → Hp → jR
  | 0 => fun _ _ _ _ _ => none
  | n + 1 => J_L_areAlike_L19b g  k56 (J_L_areAlike_L19 g  k56 n)
noncomputable def J_L_areAlike (g : jG)  (a0 : Nat) (a1 : Nat) (σ : Hp) : jR := jcvS σ a0 (J_J0_length_8abf5 a0 σ) (fun w2 t1 => jvI w2 (fun x3 => jcvS t1 a1 (J_J0_length_8abf5 a1 t1) (fun w5 t4 => jvI w5 (fun x6 => jj (fun (x7 : Int32) (t8 : Hp) => J_L_areAlike_L19 g  (fun (x20 : Int32) (t21 : Hp) => jrt .boolean x20 t21) jN a0 a1 x7 ((0 : Int32)) t8) (fun j16 => (if x3 = x6 then j16 ((1 : Int32)) t4 else j16 ((0 : Int32)) t4)))) (fun E t => some (.inr E, t)))) (fun E t => some (.inr E, t))
set_option maxHeartbeats 4000000 in
set_option maxRecDepth 100000 in
theorem w_L_areAlike_L19 (l : Launch) (hst : l.stackTraces = false) {p : Program} {e : Env} {s : State} {m : MethodId} {args : Array Value} {below : List Frame} {meth : Method} {c : Code} {g : jG} {o : jO} {τ : Hp}  (C : jC p l s m args meth c g RL cL_areAlike 4 (some FieldType.boolean)) (hE : ∀ x ∈ c.exceptionTable.toList, False) (k56 : Int32 → Hp → jR) (hk56 : ∀ (v2x : Int32) (tx : Hp), k56 v2x tx = some (o, τ) → jW p l e ({ frames := 5, cells := 0, slots := 0, locals := 97 } : Room) s m args below meth c g (jQ below g o τ args s 0 0) 0 0 56 [(2, .int v2x)] [] tx) : ∀ (n : Nat) (a0 : Nat) (a1 : Nat) (v2 : Int32) (v3 : Int32) (t0 : Hp), J_L_areAlike_L19 g  k56 n a0 a1 v2 v3 t0 = some (o, τ) → jW p l e ({ frames := 5, cells := 0, slots := 0, locals := 97 } : Room) s m args below meth c g (jQ below g o τ args s 0 0) 0 0 19 [(0, .ref a0), (1, .ref a1), (2, .int v2), (3, .int v3)] [] t0 := by
  intro n
  induction n with
  | zero => intro a0 a1 v2 v3 t0 h; cases h
  | succ n ih =>
    intro a0 a1 v2 v3 t0 h
    skip
    have h : J_L_areAlike_L19b g  k56 (J_L_areAlike_L19 g  k56 n) a0 a1 v2 v3 t0 = some (o, τ) := h
    unfold J_L_areAlike_L19b at h
    refine r_iload_n C 20 rfl 3 dL_areAlike_19 rfl ?_
    refine r_aload_n C (x := some a0) 21 rfl 0 dL_areAlike_20 rfl ?_
    refine r_callVS C mm_L_79 im_yJ0_length_8abf5 se_yJ0_length_8abf5 24 0 0 rfl rfl rfl dL_areAlike_21 rfl rfl (As := []) rfl rfl (Nat.le_of_ble_eq_true rfl) ⟨Nat.le_of_ble_eq_true rfl, Nat.le_of_ble_eq_true rfl⟩ ⟨(Nat.le_of_ble_eq_true rfl), (Nat.le_of_ble_eq_true rfl)⟩ (fun o t h => k_J0_length_8abf5 l hst g _ _ o t h) h (fun w10 t9 h => ?_) (fun E t h => r_out C (fun x hx => (hE x hx).elim) (Nat.le_refl _) (Nat.le_refl _) h)
    replace h := jvI_some h
    obtain ⟨x11, rfl, h⟩ := h
    refine r_icmp_ge C 56 27 rfl dL_areAlike_24 (by decide) h (fun h => ?_) (fun h => ?_)
    · refine r_lv [2] rfl ?_
      exact hk56 v2 t9 h
    · refine r_iload_n C 28 rfl 2 dL_areAlike_27 rfl ?_
      refine r_if_eq C 56 31 rfl dL_areAlike_28 (by decide) h (fun h => ?_) (fun h => ?_)
      · refine r_lv [2] rfl ?_
        exact hk56 v2 t9 h
      · refine r_aload_n C (x := some a0) 32 rfl 0 dL_areAlike_31 rfl ?_
        refine r_iload_n C 33 rfl 3 dL_areAlike_32 rfl ?_
        refine r_callVS C mm_L_23 im_yJ0_charAt_5068e se_yJ0_charAt_5068e 36 0 0 rfl rfl rfl dL_areAlike_33 rfl rfl (As := [.int v3]) rfl rfl (Nat.le_of_ble_eq_true rfl) ⟨Nat.le_of_ble_eq_true rfl, Nat.le_of_ble_eq_true rfl⟩ ⟨(Nat.le_of_ble_eq_true rfl), (Nat.le_of_ble_eq_true rfl)⟩ (fun o t h => k_J0_charAt_5068e l hst g _ _ _ o t h) h (fun w13 t12 h => ?_) (fun E t h => r_out C (fun x hx => (hE x hx).elim) (Nat.le_refl _) (Nat.le_refl _) h)
        replace h := jvI_some h
        obtain ⟨x14, rfl, h⟩ := h
        refine r_aload_n C (x := some a1) 37 rfl 1 dL_areAlike_36 rfl ?_
        refine r_iload_n C 38 rfl 3 dL_areAlike_37 rfl ?_
        refine r_callVS C mm_L_23 im_yJ0_charAt_5068e se_yJ0_charAt_5068e 41 0 0 rfl rfl rfl dL_areAlike_38 rfl rfl (As := [.int v3]) rfl rfl (Nat.le_of_ble_eq_true rfl) ⟨Nat.le_of_ble_eq_true rfl, Nat.le_of_ble_eq_true rfl⟩ ⟨(Nat.le_of_ble_eq_true rfl), (Nat.le_of_ble_eq_true rfl)⟩ (fun o t h => k_J0_charAt_5068e l hst g _ _ _ o t h) h (fun w16 t15 h => ?_) (fun E t h => r_out C (fun x hx => (hE x hx).elim) (Nat.le_refl _) (Nat.le_refl _) h)
        replace h := jvI_some h
        obtain ⟨x17, rfl, h⟩ := h
        obtain ⟨j49, hj49E, h⟩ := jj_some h
        have hj49 : ∀ (x18 : Int32) (t19 : Hp), j49 x18 t19 = some (o, τ) → jW p l e ({ frames := 5, cells := 0, slots := 0, locals := 97 } : Room) s m args below meth c g (jQ below g o τ args s 0 0) 0 0 49 [(0, .ref a0), (1, .ref a1), (3, .int v3)] [.int x18] t19 := by
          subst hj49E
          intro x18 t19 h
          refine r_istore_n C 50 rfl [(2, .int x18), (0, .ref a0), (1, .ref a1), (3, .int v3)] dL_areAlike_49 (by decide) rfl ?_
          refine r_iinc C (v := v3 + 1) 53 rfl 3 [(3, .int (v3 + 1)), (2, .int x18), (0, .ref a0), (1, .ref a1)] dL_areAlike_50 rfl rfl (by decide) rfl ?_
          refine r_goto C 19 dL_areAlike_53 (by decide) ?_
          refine r_lv [2, 3, 1, 0] rfl ?_
          exact ih a0 a1 x18 (v3 + 1) t19 h
        clear hj49E
        refine r_icmp_ne C 48 44 rfl dL_areAlike_41 (by decide) h (fun h => ?_) (fun h => ?_)
        · refine r_iconst C (v := (0 : Int32)) 49 rfl dL_areAlike_48 (by decide) ?_
          refine r_lv [0, 1, 3] rfl ?_
          exact hj49 ((0 : Int32)) t15 h
        · refine r_iconst C (v := (1 : Int32)) 45 rfl dL_areAlike_44 (by decide) ?_
          refine r_goto C 49 dL_areAlike_45 (by decide) ?_
          refine r_lv [0, 1, 3] rfl ?_
          exact hj49 ((1 : Int32)) t15 h
set_option maxHeartbeats 4000000 in
set_option maxRecDepth 100000 in
theorem k_L_areAlike (l : Launch) (hst : l.stackTraces = false) (g : jG)   (a0 : Nat) (a1 : Nat) (σ : Hp) (o : jO) (τ : Hp) (h : J_L_areAlike g a0 a1 σ = some (o, τ)) : jMet l g yL_areAlike (Cond.code yL_areAlike cL_areAlike 4 (some FieldType.boolean) :: gT) ({ frames := 5, cells := 0, slots := 0, locals := 97 } : Room) 0 0 [.ref a0, .ref a1] σ o τ := by
  refine j_start l hst (own := RL) (by decide) rfl (Nat.le_of_ble_eq_true rfl) ?_
  intro p e s m args below meth c C hE hin
  unfold J_L_areAlike at h
  show jW p l e ({ frames := 5, cells := 0, slots := 0, locals := 97 } : Room) s m args below meth c g (jQ below g o τ args s 0 0) 0 0 0 [(0, .ref a0), (1, .ref a1)] [] σ
  refine r_aload_n C (x := some a0) 1 rfl 0 dL_areAlike_0 rfl ?_
  refine r_callVS C mm_L_79 im_yJ0_length_8abf5 se_yJ0_length_8abf5 4 0 0 rfl rfl rfl dL_areAlike_1 rfl rfl (As := []) rfl rfl (Nat.le_of_ble_eq_true rfl) ⟨Nat.le_of_ble_eq_true rfl, Nat.le_of_ble_eq_true rfl⟩ ⟨(Nat.le_of_ble_eq_true rfl), (Nat.le_of_ble_eq_true rfl)⟩ (fun o t h => k_J0_length_8abf5 l hst g _ _ o t h) h (fun w2 t1 h => ?_) (fun E t h => r_out C (fun x hx => (hE x hx).elim) (Nat.le_refl _) (Nat.le_refl _) h)
  replace h := jvI_some h
  obtain ⟨x3, rfl, h⟩ := h
  refine r_aload_n C (x := some a1) 5 rfl 1 dL_areAlike_4 rfl ?_
  refine r_callVS C mm_L_79 im_yJ0_length_8abf5 se_yJ0_length_8abf5 8 0 0 rfl rfl rfl dL_areAlike_5 rfl rfl (As := []) rfl rfl (Nat.le_of_ble_eq_true rfl) ⟨Nat.le_of_ble_eq_true rfl, Nat.le_of_ble_eq_true rfl⟩ ⟨(Nat.le_of_ble_eq_true rfl), (Nat.le_of_ble_eq_true rfl)⟩ (fun o t h => k_J0_length_8abf5 l hst g _ _ o t h) h (fun w5 t4 h => ?_) (fun E t h => r_out C (fun x hx => (hE x hx).elim) (Nat.le_refl _) (Nat.le_refl _) h)
  replace h := jvI_some h
  obtain ⟨x6, rfl, h⟩ := h
  obtain ⟨j16, hj16E, h⟩ := jj_some h
  have hj16 : ∀ (x7 : Int32) (t8 : Hp), j16 x7 t8 = some (o, τ) → jW p l e ({ frames := 5, cells := 0, slots := 0, locals := 97 } : Room) s m args below meth c g (jQ below g o τ args s 0 0) 0 0 16 [(0, .ref a0), (1, .ref a1)] [.int x7] t8 := by
    subst hj16E
    intro x7 t8 h
    refine r_istore_n C 17 rfl [(2, .int x7), (0, .ref a0), (1, .ref a1)] dL_areAlike_16 (by decide) rfl ?_
    refine r_iconst C (v := (0 : Int32)) 18 rfl dL_areAlike_17 (by decide) ?_
    refine r_istore_n C 19 rfl [(3, .int ((0 : Int32))), (2, .int x7), (0, .ref a0), (1, .ref a1)] dL_areAlike_18 (by decide) rfl ?_
    refine r_lv [2, 3, 1, 0] rfl ?_
    refine w_L_areAlike_L19 l hst  C hE _ (fun x20 t21 h => ?_) jN a0 a1 x7 ((0 : Int32)) t8 h
    refine r_iload_n C 57 rfl 0 dL_areAlike_56 rfl ?_
    exact r_zret C (fun _ => rfl) dL_areAlike_57 (Nat.le_refl _) (Nat.le_refl _) h
  clear hj16E
  refine r_icmp_ne C 15 11 rfl dL_areAlike_8 (by decide) h (fun h => ?_) (fun h => ?_)
  · refine r_iconst C (v := (0 : Int32)) 16 rfl dL_areAlike_15 (by decide) ?_
    exact hj16 ((0 : Int32)) t4 h
  · refine r_iconst C (v := (1 : Int32)) 12 rfl dL_areAlike_11 (by decide) ?_
    refine r_goto C 16 dL_areAlike_12 (by decide) ?_
    exact hj16 ((1 : Int32)) t4 h
