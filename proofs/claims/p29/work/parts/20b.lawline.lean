noncomputable def J_L_line_L6b (g : jG)  (k46 : Nat → Hp → jR) (k50 : Nat → Hp → jR) (rc : Nat → Int32 → Int32 → Nat → Int32 → Hp → jR) (a0 : Nat) (v1 : Int32) (v2 : Int32) (a3 : Nat) (v4 : Int32) (t0 : Hp) : jR := (if ((40 : Int32)) < v4 then k46 a3 t0 else jnw t0 6 (fun b1 t2 => jcv t2 b1 6 (J_J4_init_da8c8 b1 t2) (fun w4 t3 => jvV w4 (jcv t3 b1 6 (J_J4_append_15ec4 b1 a3 t3) (fun w6 t5 => jvA w6 (fun b7 => jcv t5 a0 5 (J_X5_lineAt a0 v1 v2 v4 t5) (fun w9 t8 => jvI w9 (fun x10 => jcv t8 b7 6 (J_J4_append_cf468 b7 ((x10.toUInt32 % 65536).toInt32) t8) (fun w12 t11 => jvA w12 (fun b13 => jcv t11 b13 6 (J_J4_toString_0e30d b13 t11) (fun w15 t14 => jvA w15 (fun b16 => rc a0 v1 v2 b16 (v4 + 1) t14)) (fun E t => (if E = "java/util/NoSuchElementException" then k50 a3 t else none)))) (fun E t => (if E = "java/util/NoSuchElementException" then k50 a3 t else none)))) (fun E t => (if E = "java/util/NoSuchElementException" then k50 a3 t else none)))) (fun E t => (if E = "java/util/NoSuchElementException" then k50 a3 t else none)))) (fun E t => (if E = "java/util/NoSuchElementException" then k50 a3 t else none))))
noncomputable def J_L_line_L6 (g : jG)  (k46 : Nat → Hp → jR) (k50 : Nat → Hp → jR) : Nat → Nat → Int32 → Int32 → Nat → Int32 → Hp → jR
  | 0 => fun _ _ _ _ _ _ => none
  | n + 1 => J_L_line_L6b g  k46 k50 (J_L_line_L6 g  k46 k50 n)
noncomputable def J_L_line (g : jG)  (a0 : Nat) (v1 : Int32) (v2 : Int32) (σ : Hp) : jR := J_L_line_L6 g  (fun (x17 : Nat) (t18 : Hp) => some (.inl (some (.ref x17)), t18)) (fun (x19 : Nat) (t20 : Hp) => some (.inl (some (.ref x19)), t20)) jN a0 v1 v2 (gKa g 0) ((0 : Int32)) σ
set_option maxHeartbeats 4000000 in
set_option maxRecDepth 100000 in
theorem w_L_line_L6 (l : Launch) (hst : l.stackTraces = false) {p : Program} {e : Env} {s : State} {m : MethodId} {args : Array Value} {below : List Frame} {meth : Method} {c : Code} {g : jG} {o : jO} {τ : Hp}  (C : jC p l s m args meth c g RL cL_line 5 (some (FieldType.object "java/lang/String"))) (hT : c.exceptionTable.toList = tableOf [(3, 47, 48, 44)]) {KE NE : Nat} (hKE : KE ≤ 800000) (hNE : NE ≤ 402000000) (k46 : Nat → Hp → jR) (k50 : Nat → Hp → jR) (hk46 : ∀ (a3x : Nat) (tx : Hp), k46 a3x tx = some (o, τ) → jW p l e ({ frames := 8, cells := 800000, slots := 402000000, locals := 151 } : Room) s m args below meth c g (jQ below g o τ args s 800000 402000000) KE NE 46 [(3, .ref a3x)] [] tx) (hk50 : ∀ (a3x : Nat) (tx : Hp), k50 a3x tx = some (o, τ) → jW p l e ({ frames := 8, cells := 800000, slots := 402000000, locals := 151 } : Room) s m args below meth c g (jQ below g o τ args s 800000 402000000) KE NE 50 [(3, .ref a3x)] [] tx) : ∀ (n : Nat) (a0 : Nat) (v1 : Int32) (v2 : Int32) (a3 : Nat) (v4 : Int32) (t0 : Hp) (kq nq : Nat), kq + Kc 8 n ≤ KE → nq + Kc 4020 n ≤ NE → J_L_line_L6 g  k46 k50 n a0 v1 v2 a3 v4 t0 = some (o, τ) → jW p l e ({ frames := 8, cells := 800000, slots := 402000000, locals := 151 } : Room) s m args below meth c g (jQ below g o τ args s 800000 402000000) kq nq 6 [(0, .ref a0), (1, .int v1), (2, .int v2), (3, .ref a3), (4, .int v4)] [] t0 := by
  intro n
  induction n with
  | zero => intro a0 v1 v2 a3 v4 t0 kq nq _ _ h; cases h
  | succ n ih =>
    intro a0 v1 v2 a3 v4 t0 kq nq hkq hnq h
    rw [Kc_t] at hkq hnq
    have h : J_L_line_L6b g  k46 k50 (J_L_line_L6 g  k46 k50 n) a0 v1 v2 a3 v4 t0 = some (o, τ) := h
    unfold J_L_line_L6b at h
    refine r_iload C 8 rfl 4 dL_line_6 rfl ?_
    refine r_bipush C (v := (40 : Int32)) 10 rfl dL_line_8 (by decide) ?_
    refine r_icmp_gt C 46 13 rfl dL_line_10 (by decide) h (fun h => ?_) (fun h => ?_)
    · refine r_lv [3] rfl ?_
      refine r_widen (k' := KE) (n' := NE) (by omega) (by omega) ?_
      exact hk46 a3 t0 h
    · refine r_new C 16 rfl tyJ4 (ci := 6) rfl tyJ4_ok nw_J4 lay_J4 cl_L_56 ins_J4 ini_J4 dL_line_13 (by show kq + 1 ≤ 800000; omega) (by show nq + 4 ≤ 402000000; omega) h (fun b1 t2 h => ?_)
      refine r_dup C 17 rfl dL_line_16 rfl ?_
      refine r_callI C (ci := 6) mm_L_58 im_yJ4_init_da8c8 rfl 20 (kq + 1 + 1) (nq + 4 + 1000) rfl rfl rfl dL_line_17 rfl rfl (As := []) rfl rfl (Nat.le_of_ble_eq_true rfl) ⟨Nat.le_of_ble_eq_true rfl, Nat.le_of_ble_eq_true rfl⟩ ⟨(by show kq + 1 + 1 ≤ 800000; omega), (by show nq + 4 + 1000 ≤ 402000000; omega)⟩ (fun o t h => k_J4_init_da8c8 l hst g _ _ o t h) h (fun w4 t3 h => ?_) (fun E t h => ?_)
      · replace h := jvV_some h
        obtain ⟨rfl, h⟩ := h
        refine r_aload_n C (x := some a3) 21 rfl 3 dL_line_20 rfl ?_
        refine r_callV C (ci := 6) mm_L_59 im_yJ4_append_15ec4 se_yJ4_append_15ec4 rfl 24 (kq + 1 + 1 + 1) (nq + 4 + 1000 + 1000) rfl rfl rfl dL_line_21 rfl rfl (As := [.ref a3]) rfl rfl (Nat.le_of_ble_eq_true rfl) ⟨Nat.le_of_ble_eq_true rfl, Nat.le_of_ble_eq_true rfl⟩ ⟨(by show kq + 1 + 1 + 1 ≤ 800000; omega), (by show nq + 4 + 1000 + 1000 ≤ 402000000; omega)⟩ (fun o t h => k_J4_append_15ec4 l hst g _ _ _ o t h) h (fun w6 t5 h => ?_) (fun E t h => ?_)
        · replace h := jvA_some h
          obtain ⟨b7, rfl, h⟩ := h
          refine r_aload_n C (x := some a0) 25 rfl 0 dL_line_24 rfl ?_
          refine r_iload_n C 26 rfl 1 dL_line_25 rfl ?_
          refine r_iload_n C 27 rfl 2 dL_line_26 rfl ?_
          refine r_iload C 29 rfl 4 dL_line_27 rfl ?_
          refine r_callV C (ci := 5) mm_L_63 im_yX5_lineAt se_yX5_lineAt rfl 32 (kq + 1 + 1 + 1 + 2) (nq + 4 + 1000 + 1000 + 12) rfl rfl rfl dL_line_29 rfl rfl (As := [.int v1, .int v2, .int v4]) rfl rfl (Nat.le_of_ble_eq_true rfl) ⟨Nat.le_of_ble_eq_true rfl, Nat.le_of_ble_eq_true rfl⟩ ⟨(by show kq + 1 + 1 + 1 + 2 ≤ 800000; omega), (by show nq + 4 + 1000 + 1000 + 12 ≤ 402000000; omega)⟩ (fun o t h => k_X5_lineAt l hst g _ _ _ _ _ o t h) h (fun w9 t8 h => ?_) (fun E t h => ?_)
          · replace h := jvI_some h
            obtain ⟨x10, rfl, h⟩ := h
            refine r_i2c C 33 rfl dL_line_32 ?_
            refine r_callV C (ci := 6) mm_L_66 im_yJ4_append_cf468 se_yJ4_append_cf468 rfl 36 (kq + 1 + 1 + 1 + 2 + 1) (nq + 4 + 1000 + 1000 + 12 + 1000) rfl rfl rfl dL_line_33 rfl rfl (As := [.int ((x10.toUInt32 % 65536).toInt32)]) rfl rfl (Nat.le_of_ble_eq_true rfl) ⟨Nat.le_of_ble_eq_true rfl, Nat.le_of_ble_eq_true rfl⟩ ⟨(by show kq + 1 + 1 + 1 + 2 + 1 ≤ 800000; omega), (by show nq + 4 + 1000 + 1000 + 12 + 1000 ≤ 402000000; omega)⟩ (fun o t h => k_J4_append_cf468 l hst g _ _ _ o t h) h (fun w12 t11 h => ?_) (fun E t h => ?_)
            · replace h := jvA_some h
              obtain ⟨b13, rfl, h⟩ := h
              refine r_callV C (ci := 6) mm_L_69 im_yJ4_toString_0e30d se_yJ4_toString_0e30d rfl 39 (kq + 1 + 1 + 1 + 2 + 1 + 2) (nq + 4 + 1000 + 1000 + 12 + 1000 + 1004) rfl rfl rfl dL_line_36 rfl rfl (As := []) rfl rfl (Nat.le_of_ble_eq_true rfl) ⟨Nat.le_of_ble_eq_true rfl, Nat.le_of_ble_eq_true rfl⟩ ⟨(by show kq + 1 + 1 + 1 + 2 + 1 + 2 ≤ 800000; omega), (by show nq + 4 + 1000 + 1000 + 12 + 1000 + 1004 ≤ 402000000; omega)⟩ (fun o t h => k_J4_toString_0e30d l hst g _ _ o t h) h (fun w15 t14 h => ?_) (fun E t h => ?_)
              · replace h := jvA_some h
                obtain ⟨b16, rfl, h⟩ := h
                refine r_astore_n C (x := some b16) 40 rfl [(3, .ref b16), (0, .ref a0), (1, .int v1), (2, .int v2), (4, .int v4)] dL_line_39 (by decide) rfl ?_
                refine r_iinc C (v := v4 + 1) 43 rfl 4 [(4, .int (v4 + 1)), (3, .ref b16), (0, .ref a0), (1, .int v1), (2, .int v2)] dL_line_40 rfl rfl (by decide) rfl ?_
                refine r_goto C 6 dL_line_43 (by decide) ?_
                refine r_lv [2, 3, 4, 1, 0] rfl ?_
                exact ih a0 v1 v2 b16 (v4 + 1) t14 (kq + 1 + 1 + 1 + 2 + 1 + 2) (nq + 4 + 1000 + 1000 + 12 + 1000 + 1004) (by omega) (by omega) h
              · by_cases hq : E = "java/util/NoSuchElementException"
                · rw [if_pos hq] at h
                  subst hq
                  refine r_catch C hT [] ⟨3, 47, 48, 44⟩ [] rfl (fun _ h => absurd h List.not_mem_nil) (by decide) (by decide) cl_L_44 (by decide +kernel) 48 rfl (fun q9 => ?_)
                  refine r_astore C (x := some q9) 50 rfl [(4, .ref q9), (0, .ref a0), (1, .int v1), (2, .int v2), (3, .ref a3)] dL_line_48 (by decide) rfl ?_
                  refine r_lv [4] rfl ?_
                  refine r_widen (k' := KE) (n' := NE) (by omega) (by omega) ?_
                  exact hk50 a3 t h
                · rw [if_neg hq] at h
                  cases h
            · by_cases hq : E = "java/util/NoSuchElementException"
              · rw [if_pos hq] at h
                subst hq
                refine r_catch C hT [] ⟨3, 47, 48, 44⟩ [] rfl (fun _ h => absurd h List.not_mem_nil) (by decide) (by decide) cl_L_44 (by decide +kernel) 48 rfl (fun q9 => ?_)
                refine r_astore C (x := some q9) 50 rfl [(4, .ref q9), (0, .ref a0), (1, .int v1), (2, .int v2), (3, .ref a3)] dL_line_48 (by decide) rfl ?_
                refine r_lv [4] rfl ?_
                refine r_widen (k' := KE) (n' := NE) (by omega) (by omega) ?_
                exact hk50 a3 t h
              · rw [if_neg hq] at h
                cases h
          · by_cases hq : E = "java/util/NoSuchElementException"
            · rw [if_pos hq] at h
              subst hq
              refine r_catch C hT [] ⟨3, 47, 48, 44⟩ [] rfl (fun _ h => absurd h List.not_mem_nil) (by decide) (by decide) cl_L_44 (by decide +kernel) 48 rfl (fun q9 => ?_)
              refine r_astore C (x := some q9) 50 rfl [(4, .ref q9), (0, .ref a0), (1, .int v1), (2, .int v2), (3, .ref a3)] dL_line_48 (by decide) rfl ?_
              refine r_lv [4] rfl ?_
              refine r_widen (k' := KE) (n' := NE) (by omega) (by omega) ?_
              exact hk50 a3 t h
            · rw [if_neg hq] at h
              cases h
        · by_cases hq : E = "java/util/NoSuchElementException"
          · rw [if_pos hq] at h
            subst hq
            refine r_catch C hT [] ⟨3, 47, 48, 44⟩ [] rfl (fun _ h => absurd h List.not_mem_nil) (by decide) (by decide) cl_L_44 (by decide +kernel) 48 rfl (fun q9 => ?_)
            refine r_astore C (x := some q9) 50 rfl [(4, .ref q9), (0, .ref a0), (1, .int v1), (2, .int v2), (3, .ref a3)] dL_line_48 (by decide) rfl ?_
            refine r_lv [4] rfl ?_
            refine r_widen (k' := KE) (n' := NE) (by omega) (by omega) ?_
            exact hk50 a3 t h
          · rw [if_neg hq] at h
            cases h
      · by_cases hq : E = "java/util/NoSuchElementException"
        · rw [if_pos hq] at h
          subst hq
          refine r_catch C hT [] ⟨3, 47, 48, 44⟩ [] rfl (fun _ h => absurd h List.not_mem_nil) (by decide) (by decide) cl_L_44 (by decide +kernel) 48 rfl (fun q9 => ?_)
          refine r_astore C (x := some q9) 50 rfl [(4, .ref q9), (0, .ref a0), (1, .int v1), (2, .int v2), (3, .ref a3)] dL_line_48 (by decide) rfl ?_
          refine r_lv [4] rfl ?_
          refine r_widen (k' := KE) (n' := NE) (by omega) (by omega) ?_
          exact hk50 a3 t h
        · rw [if_neg hq] at h
          cases h
set_option maxHeartbeats 4000000 in
set_option maxRecDepth 100000 in
theorem k_L_line (l : Launch) (hst : l.stackTraces = false) (g : jG)   (a0 : Nat) (v1 : Int32) (v2 : Int32) (σ : Hp) (o : jO) (τ : Hp) (h : J_L_line g a0 v1 v2 σ = some (o, τ)) : jMet l g yL_line (Cond.codeWith yL_line cL_line 5 (some (FieldType.object "java/lang/String")) [(3, 47, 48, 44)] :: gT) ({ frames := 8, cells := 800000, slots := 402000000, locals := 151 } : Room) 800000 402000000 [.ref a0, .int v1, .int v2] σ o τ := by
  refine j_startH l hst (own := RL) (by decide) rfl (Nat.le_of_ble_eq_true rfl) ?_
  intro p e s m args below meth c C hT
  unfold J_L_line at h
  show jW p l e ({ frames := 8, cells := 800000, slots := 402000000, locals := 151 } : Room) s m args below meth c g (jQ below g o τ args s 800000 402000000) 0 0 0 [(0, .ref a0), (1, .int v1), (2, .int v2)] [] σ
  refine r_ldcE C 2 rfl dL_line_0 ?_
  refine r_astore_n C (x := some (gKa g 0)) 3 rfl [(3, .ref (gKa g 0)), (0, .ref a0), (1, .int v1), (2, .int v2)] dL_line_2 (by decide) rfl ?_
  refine r_iconst C (v := (0 : Int32)) 4 rfl dL_line_3 (by decide) ?_
  refine r_istore C 6 rfl [(4, .int ((0 : Int32))), (3, .ref (gKa g 0)), (0, .ref a0), (1, .int v1), (2, .int v2)] dL_line_4 (by decide) rfl ?_
  refine r_lv [2, 3, 4, 1, 0] rfl ?_
  refine w_L_line_L6 l hst  C hT (KE := 800000) (NE := 402000000) (Nat.le_of_ble_eq_true rfl) (Nat.le_of_ble_eq_true rfl) _ _ (fun x17 t18 h => ?_) (fun x19 t20 h => ?_) jN a0 v1 v2 (gKa g 0) ((0 : Int32)) σ 0 0 (by rw [show Kc 8 jN = 800000 from by decide +kernel]; exact Nat.le_of_ble_eq_true rfl) (by rw [show Kc 4020 jN = 402000000 from by decide +kernel]; exact Nat.le_of_ble_eq_true rfl) h
  · refine r_aload_n C (x := some x17) 47 rfl 0 dL_line_46 rfl ?_
    exact r_aret C (Or.inl ⟨_, rfl⟩) dL_line_47 (Nat.le_refl _) (Nat.le_refl _) h
  · refine r_aload_n C (x := some x19) 51 rfl 0 dL_line_50 rfl ?_
    exact r_aret C (Or.inl ⟨_, rfl⟩) dL_line_51 (Nat.le_refl _) (Nat.le_refl _) h
