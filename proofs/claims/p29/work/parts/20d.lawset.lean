noncomputable def J_L_isSet_L88b (g : jG)  (k162 : Nat → Int32 → Int32 → Nat → Nat → Int32 → Int32 → Hp → jR) (rc : Nat → Int32 → Int32 → Nat → Nat → Int32 → Int32 → Nat → Int32 → Hp → jR) (a0 : Nat) (v1 : Int32) (v2 : Int32) (a3 : Nat) (a4 : Nat) (v5 : Int32) (v6 : Int32) (a7 : Nat) (v8 : Int32) (t0 : Hp) : jR := jcvS t0 a7 (J_J0_length_8abf5 a7 t0) (fun w13 t12 => jvI w13 (fun x14 => (if x14 ≤ v8 then k162 a0 v1 v2 a3 a4 v5 v6 t12 else jnw t12 6 (fun b15 t16 => jcv t16 b15 6 (J_J4_init_da8c8 b15 t16) (fun w18 t17 => jvV w18 (jcv t17 b15 6 (J_J4_append_15ec4 b15 a3 t17) (fun w20 t19 => jvA w20 (fun b21 => jcvS t19 a7 (J_J0_charAt_5068e a7 v8 t19) (fun w23 t22 => jvI w23 (fun x24 => jj (fun (x25 : Nat) (t26 : Hp) => jcv t26 b21 6 (J_J4_append_15ec4 b21 x25 t26) (fun w28 t27 => jvA w28 (fun b29 => jcv t27 b29 6 (J_J4_toString_0e30d b29 t27) (fun w31 t30 => jvA w31 (fun b32 => rc a0 v1 v2 b32 a4 v5 v6 a7 (v8 + 1) t30)) (fun E t => some (.inr E, t)))) (fun E t => some (.inr E, t))) (fun j149 => (if x24 = 0 then j149 (gKa g 0) t22 else jnw t22 6 (fun b33 t34 => jcv t34 b33 6 (J_J4_init_da8c8 b33 t34) (fun w36 t35 => jvV w36 (jcv t35 b33 6 (J_J4_append_15ec4 b33 (gKa g 0) t35) (fun w38 t37 => jvA w38 (fun b39 => jcvS t37 a7 (J_J0_charAt_5068e a7 v8 t37) (fun w41 t40 => jvI w41 (fun x42 => jcv t40 b39 6 (J_J4_append_cf468 b39 x42 t40) (fun w44 t43 => jvA w44 (fun b45 => jcv t43 b45 6 (J_J4_toString_0e30d b45 t43) (fun w47 t46 => jvA w47 (fun b48 => j149 b48 t46)) (fun E t => some (.inr E, t)))) (fun E t => some (.inr E, t)))) (fun E t => some (.inr E, t)))) (fun E t => some (.inr E, t)))) (fun E t => some (.inr E, t))))))) (fun E t => some (.inr E, t)))) (fun E t => some (.inr E, t)))) (fun E t => some (.inr E, t)))))) (fun E t => some (.inr E, t))
noncomputable def J_L_isSet_L88 (g : jG)  (k162 : Nat → Int32 → Int32 → Nat → Nat → Int32 → Int32 → Hp → jR) : Nat → Nat → Int32 → Int32 → Nat → Nat → Int32 → Int32 → Nat → Int32 → Hp → jR
  | 0 => fun _ _ _ _ _ _ _ _ _ _ => none
  | n + 1 => J_L_isSet_L88b g  k162 (J_L_isSet_L88 g  k162 n)
noncomputable def J_L_isSet_L13b (g : jG)  (k168 : Nat → Int32 → Nat → Nat → Int32 → Hp → jR) (rc : Nat → Int32 → Int32 → Nat → Nat → Int32 → Int32 → Hp → jR) (a0 : Nat) (v1 : Int32) (v2 : Int32) (a3 : Nat) (a4 : Nat) (v5 : Int32) (v6 : Int32) (t0 : Hp) : jR := jcv t0 a0 5 (J_X5_lines a0 v1 t0) (fun w2 t1 => jvI w2 (fun x3 => (if x3 ≤ v6 then k168 a0 v1 a3 a4 v5 t1 else (if v5 = 0 then k168 a0 v1 a3 a4 v5 t1 else jcs (J_L_line g a0 v1 v6 t1) (fun w5 t4 => jvA w5 (fun b6 => jcvS t4 b6 (J_J0_length_8abf5 b6 t4) (fun w8 t7 => jvI w8 (fun x9 => jj (fun (x10 : Int32) (t11 : Hp) => J_L_isSet_L88 g  (fun (x49 : Nat) (x50 : Int32) (x51 : Int32) (x52 : Nat) (x53 : Nat) (x54 : Int32) (x55 : Int32) (t56 : Hp) => rc x49 x50 x51 x52 x53 x54 (x55 + 1) t56) jN a0 v1 v2 a3 a4 x10 v6 b6 ((0 : Int32)) t11) (fun j83 => jj (fun (t57 : Hp) => j83 ((0 : Int32)) t57) (fun j82 => (if x9 ≤ 0 then j82 t7 else jcvS t7 b6 (J_J0_length_8abf5 b6 t7) (fun w59 t58 => jvI w59 (fun x60 => (if v2 < x60 then j82 t58 else jcvS t58 b6 (J_J0_charAt_5068e b6 ((0 : Int32)) t58) (fun w62 t61 => jvI w62 (fun x63 => (if x63 = 0 then j82 t61 else jcvS t61 b6 (J_J0_length_8abf5 b6 t61) (fun w65 t64 => jvI w65 (fun x66 => jcvS t64 b6 (J_J0_charAt_5068e b6 (x66 - ((1 : Int32))) t64) (fun w68 t67 => jvI w68 (fun x69 => (if x69 = 0 then j82 t67 else j83 ((1 : Int32)) t67))) (fun E t => some (.inr E, t)))) (fun E t => some (.inr E, t))))) (fun E t => some (.inr E, t))))) (fun E t => some (.inr E, t))))))) (fun E t => some (.inr E, t)))) (fun E t => some (.inr E, t)))))) (fun E t => some (.inr E, t))
noncomputable def J_L_isSet_L13 (g : jG)  (k168 : Nat → Int32 → Nat → Nat → Int32 → Hp → jR) : Nat → Nat → Int32 → Int32 → Nat → Nat → Int32 → Int32 → Hp → jR
  | 0 => fun _ _ _ _ _ _ _ _ => none
  | n + 1 => J_L_isSet_L13b g  k168 (J_L_isSet_L13 g  k168 n)
noncomputable def J_L_isSet_L174b (g : jG)  (k250 : Nat → Nat → Int32 → Hp → jR) (rc : Nat → Int32 → Nat → Nat → Int32 → Int32 → Int32 → Hp → jR) (a0 : Nat) (v1 : Int32) (a3 : Nat) (a4 : Nat) (v5 : Int32) (v6 : Int32) (v7 : Int32) (t0 : Hp) : jR := jcv t0 a0 5 (J_X5_words a0 v1 t0) (fun w77 t76 => jvI w77 (fun x78 => (if x78 ≤ v7 then k250 a3 a4 v5 t76 else (if v5 = 0 then k250 a3 a4 v5 t76 else jnw t76 6 (fun b79 t80 => jcv t80 b79 6 (J_J4_init_da8c8 b79 t80) (fun w82 t81 => jvV w82 (jcv t81 b79 6 (J_J4_append_15ec4 b79 a4 t81) (fun w84 t83 => jvA w84 (fun b85 => jcs (J_L_word g a0 v1 v7 t83) (fun w87 t86 => jvA w87 (fun b88 => jcv t86 b85 6 (J_J4_append_15ec4 b85 b88 t86) (fun w90 t89 => jvA w90 (fun b91 => jcv t89 b91 6 (J_J4_toString_0e30d b91 t89) (fun w93 t92 => jvA w93 (fun b94 => jcv t92 a0 5 (J_X5_lineOf a0 v1 v7 t92) (fun w96 t95 => jvI w96 (fun x97 => jj (fun (x98 : Int32) (t99 : Hp) => jcv t99 a0 5 (J_X5_lineOf a0 v1 v7 t99) (fun w101 t100 => jvI w101 (fun x102 => rc a0 v1 a3 b94 x98 x102 (v7 + 1) t100)) (fun E t => some (.inr E, t))) (fun j233 => (if x97 < v6 then j233 ((0 : Int32)) t95 else j233 ((1 : Int32)) t95)))) (fun E t => some (.inr E, t)))) (fun E t => some (.inr E, t)))) (fun E t => some (.inr E, t)))) (fun E t => some (.inr E, t)))) (fun E t => some (.inr E, t)))) (fun E t => some (.inr E, t))))))) (fun E t => some (.inr E, t))
noncomputable def J_L_isSet_L174 (g : jG)  (k250 : Nat → Nat → Int32 → Hp → jR) : Nat → Nat → Int32 → Nat → Nat → Int32 → Int32 → Int32 → Hp → jR
  | 0 => fun _ _ _ _ _ _ _ _ => none
  | n + 1 => J_L_isSet_L174b g  k250 (J_L_isSet_L174 g  k250 n)
noncomputable def J_L_isSet (g : jG)  (a0 : Nat) (v1 : Int32) (v2 : Int32) (σ : Hp) : jR := J_L_isSet_L13 g  (fun (x70 : Nat) (x71 : Int32) (x72 : Nat) (x73 : Nat) (x74 : Int32) (t75 : Hp) => J_L_isSet_L174 g  (fun (x103 : Nat) (x104 : Nat) (x105 : Int32) (t106 : Hp) => (if x105 = 0 then jrt .boolean ((0 : Int32)) t106 else jcs (J_L_areAlike g x103 x104 t106) (fun w108 t107 => jvI w108 (fun x109 => (if x109 = 0 then jrt .boolean ((0 : Int32)) t107 else jrt .boolean ((1 : Int32)) t107))) (fun E t => some (.inr E, t)))) jN x70 x71 x72 x73 x74 ((0 : Int32)) ((0 : Int32)) t75) jN a0 v1 v2 (gKa g 0) (gKa g 0) ((1 : Int32)) ((0 : Int32)) σ
set_option maxHeartbeats 4000000 in
set_option maxRecDepth 100000 in
theorem w_L_isSet_L88 (l : Launch) (hst : l.stackTraces = false) {p : Program} {e : Env} {s : State} {m : MethodId} {args : Array Value} {below : List Frame} {meth : Method} {c : Code} {g : jG} {o : jO} {τ : Hp}  (C : jC p l s m args meth c g RL cL_isSet 9 (some FieldType.boolean)) (hE : ∀ x ∈ c.exceptionTable.toList, False) {KE NE : Nat} (hKE : KE ≤ 310001200000) (hNE : NE ≤ 160740404400000) (k162 : Nat → Int32 → Int32 → Nat → Nat → Int32 → Int32 → Hp → jR) (hk162 : ∀ (a0x : Nat) (v1x : Int32) (v2x : Int32) (a3x : Nat) (a4x : Nat) (v5x : Int32) (v6x : Int32) (tx : Hp), k162 a0x v1x v2x a3x a4x v5x v6x tx = some (o, τ) → jW p l e ({ frames := 10, cells := 310001200000, slots := 160740404400000, locals := 193 } : Room) s m args below meth c g (jQ below g o τ args s 310001200000 160740404400000) KE NE 162 [(0, .ref a0x), (1, .int v1x), (2, .int v2x), (3, .ref a3x), (4, .ref a4x), (5, .int v5x), (6, .int v6x)] [] tx) : ∀ (n : Nat) (a0 : Nat) (v1 : Int32) (v2 : Int32) (a3 : Nat) (a4 : Nat) (v5 : Int32) (v6 : Int32) (a7 : Nat) (v8 : Int32) (t0 : Hp) (kq nq : Nat), kq + Kc 12 n ≤ KE → nq + Kc 8016 n ≤ NE → J_L_isSet_L88 g  k162 n a0 v1 v2 a3 a4 v5 v6 a7 v8 t0 = some (o, τ) → jW p l e ({ frames := 10, cells := 310001200000, slots := 160740404400000, locals := 193 } : Room) s m args below meth c g (jQ below g o τ args s 310001200000 160740404400000) kq nq 88 [(0, .ref a0), (1, .int v1), (2, .int v2), (3, .ref a3), (4, .ref a4), (5, .int v5), (6, .int v6), (7, .ref a7), (8, .int v8)] [] t0 := by
  intro n
  induction n with
  | zero => intro a0 v1 v2 a3 a4 v5 v6 a7 v8 t0 kq nq _ _ h; cases h
  | succ n ih =>
    intro a0 v1 v2 a3 a4 v5 v6 a7 v8 t0 kq nq hkq hnq h
    rw [Kc_t] at hkq hnq
    have h : J_L_isSet_L88b g  k162 (J_L_isSet_L88 g  k162 n) a0 v1 v2 a3 a4 v5 v6 a7 v8 t0 = some (o, τ) := h
    unfold J_L_isSet_L88b at h
    refine r_iload C 90 rfl 8 dL_isSet_88 rfl ?_
    refine r_aload C (x := some a7) 92 rfl 7 dL_isSet_90 rfl ?_
    refine r_callVS C mm_L_79 im_yJ0_length_8abf5 se_yJ0_length_8abf5 95 kq nq rfl rfl rfl dL_isSet_92 rfl rfl (As := []) rfl rfl (Nat.le_of_ble_eq_true rfl) ⟨Nat.le_of_ble_eq_true rfl, Nat.le_of_ble_eq_true rfl⟩ ⟨(by show kq ≤ 310001200000; omega), (by show nq ≤ 160740404400000; omega)⟩ (fun o t h => k_J0_length_8abf5 l hst g _ _ o t h) h (fun w13 t12 h => ?_) (fun E t h => r_out C (fun x hx => (hE x hx).elim) (by omega) (by omega) h)
    replace h := jvI_some h
    obtain ⟨x14, rfl, h⟩ := h
    refine r_icmp_ge C 162 98 rfl dL_isSet_95 (by decide) h (fun h => ?_) (fun h => ?_)
    · refine r_lv [0, 1, 2, 3, 4, 5, 6] rfl ?_
      refine r_widen (k' := KE) (n' := NE) (by omega) (by omega) ?_
      exact hk162 a0 v1 v2 a3 a4 v5 v6 t12 h
    · refine r_new C 101 rfl tyJ4 (ci := 6) rfl tyJ4_ok nw_J4 lay_J4 cl_L_56 ins_J4 ini_J4 dL_isSet_98 (by show kq + 1 ≤ 310001200000; omega) (by show nq + 4 ≤ 160740404400000; omega) h (fun b15 t16 h => ?_)
      refine r_dup C 102 rfl dL_isSet_101 rfl ?_
      refine r_callI C (ci := 6) mm_L_58 im_yJ4_init_da8c8 rfl 105 (kq + 1 + 1) (nq + 4 + 1000) rfl rfl rfl dL_isSet_102 rfl rfl (As := []) rfl rfl (Nat.le_of_ble_eq_true rfl) ⟨Nat.le_of_ble_eq_true rfl, Nat.le_of_ble_eq_true rfl⟩ ⟨(by show kq + 1 + 1 ≤ 310001200000; omega), (by show nq + 4 + 1000 ≤ 160740404400000; omega)⟩ (fun o t h => k_J4_init_da8c8 l hst g _ _ o t h) h (fun w18 t17 h => ?_) (fun E t h => r_out C (fun x hx => (hE x hx).elim) (by omega) (by omega) h)
      replace h := jvV_some h
      obtain ⟨rfl, h⟩ := h
      refine r_aload_n C (x := some a3) 106 rfl 3 dL_isSet_105 rfl ?_
      refine r_callV C (ci := 6) mm_L_59 im_yJ4_append_15ec4 se_yJ4_append_15ec4 rfl 109 (kq + 1 + 1 + 1) (nq + 4 + 1000 + 1000) rfl rfl rfl dL_isSet_106 rfl rfl (As := [.ref a3]) rfl rfl (Nat.le_of_ble_eq_true rfl) ⟨Nat.le_of_ble_eq_true rfl, Nat.le_of_ble_eq_true rfl⟩ ⟨(by show kq + 1 + 1 + 1 ≤ 310001200000; omega), (by show nq + 4 + 1000 + 1000 ≤ 160740404400000; omega)⟩ (fun o t h => k_J4_append_15ec4 l hst g _ _ _ o t h) h (fun w20 t19 h => ?_) (fun E t h => r_out C (fun x hx => (hE x hx).elim) (by omega) (by omega) h)
      replace h := jvA_some h
      obtain ⟨b21, rfl, h⟩ := h
      refine r_aload C (x := some a7) 111 rfl 7 dL_isSet_109 rfl ?_
      refine r_iload C 113 rfl 8 dL_isSet_111 rfl ?_
      refine r_callVS C mm_L_23 im_yJ0_charAt_5068e se_yJ0_charAt_5068e 116 (kq + 1 + 1 + 1) (nq + 4 + 1000 + 1000) rfl rfl rfl dL_isSet_113 rfl rfl (As := [.int v8]) rfl rfl (Nat.le_of_ble_eq_true rfl) ⟨Nat.le_of_ble_eq_true rfl, Nat.le_of_ble_eq_true rfl⟩ ⟨(by show kq + 1 + 1 + 1 ≤ 310001200000; omega), (by show nq + 4 + 1000 + 1000 ≤ 160740404400000; omega)⟩ (fun o t h => k_J0_charAt_5068e l hst g _ _ _ o t h) h (fun w23 t22 h => ?_) (fun E t h => r_out C (fun x hx => (hE x hx).elim) (by omega) (by omega) h)
      replace h := jvI_some h
      obtain ⟨x24, rfl, h⟩ := h
      obtain ⟨j149, hj149E, h⟩ := jj_some h
      have hj149 : ∀ (x25 : Nat) (t26 : Hp), j149 x25 t26 = some (o, τ) → jW p l e ({ frames := 10, cells := 310001200000, slots := 160740404400000, locals := 193 } : Room) s m args below meth c g (jQ below g o τ args s 310001200000 160740404400000) (kq + 1 + 1 + 1 + 6) (nq + 4 + 1000 + 1000 + Nv4008) 149 [(0, .ref a0), (1, .int v1), (2, .int v2), (4, .ref a4), (5, .int v5), (6, .int v6), (7, .ref a7), (8, .int v8)] [.ref x25, .ref b21] t26 := by
        subst hj149E
        intro x25 t26 h
        refine r_callV C (ci := 6) mm_L_59 im_yJ4_append_15ec4 se_yJ4_append_15ec4 rfl 152 (kq + 1 + 1 + 1 + 6 + 1) (nq + 4 + 1000 + 1000 + Nv4008 + 1000) rfl rfl rfl dL_isSet_149 rfl rfl (As := [.ref x25]) rfl rfl (Nat.le_of_ble_eq_true rfl) ⟨Nat.le_of_ble_eq_true rfl, Nat.le_of_ble_eq_true rfl⟩ ⟨(by show kq + 1 + 1 + 1 + 6 + 1 ≤ 310001200000; omega), (by show nq + 4 + 1000 + 1000 + Nv4008 + 1000 ≤ 160740404400000; unfold Nv4008; omega)⟩ (fun o t h => k_J4_append_15ec4 l hst g _ _ _ o t h) h (fun w28 t27 h => ?_) (fun E t h => r_out C (fun x hx => (hE x hx).elim) (by omega) (by unfold Nv4008; omega) h)
        replace h := jvA_some h
        obtain ⟨b29, rfl, h⟩ := h
        refine r_callV C (ci := 6) mm_L_69 im_yJ4_toString_0e30d se_yJ4_toString_0e30d rfl 155 (kq + 1 + 1 + 1 + 6 + 1 + 2) (nq + 4 + 1000 + 1000 + Nv4008 + 1000 + 1004) rfl rfl rfl dL_isSet_152 rfl rfl (As := []) rfl rfl (Nat.le_of_ble_eq_true rfl) ⟨Nat.le_of_ble_eq_true rfl, Nat.le_of_ble_eq_true rfl⟩ ⟨(by show kq + 1 + 1 + 1 + 6 + 1 + 2 ≤ 310001200000; omega), (by show nq + 4 + 1000 + 1000 + Nv4008 + 1000 + 1004 ≤ 160740404400000; unfold Nv4008; omega)⟩ (fun o t h => k_J4_toString_0e30d l hst g _ _ o t h) h (fun w31 t30 h => ?_) (fun E t h => r_out C (fun x hx => (hE x hx).elim) (by omega) (by unfold Nv4008; omega) h)
        replace h := jvA_some h
        obtain ⟨b32, rfl, h⟩ := h
        refine r_astore_n C (x := some b32) 156 rfl [(3, .ref b32), (0, .ref a0), (1, .int v1), (2, .int v2), (4, .ref a4), (5, .int v5), (6, .int v6), (7, .ref a7), (8, .int v8)] dL_isSet_155 (by decide) rfl ?_
        refine r_iinc C (v := v8 + 1) 159 rfl 8 [(8, .int (v8 + 1)), (3, .ref b32), (0, .ref a0), (1, .int v1), (2, .int v2), (4, .ref a4), (5, .int v5), (6, .int v6), (7, .ref a7)] dL_isSet_156 rfl rfl (by decide) rfl ?_
        refine r_goto C 88 dL_isSet_159 (by decide) ?_
        refine r_lv [2, 3, 4, 1, 5, 6, 7, 8, 0] rfl ?_
        exact ih a0 v1 v2 b32 a4 v5 v6 a7 (v8 + 1) t30 (kq + 1 + 1 + 1 + 6 + 1 + 2) (nq + 4 + 1000 + 1000 + Nv4008 + 1000 + 1004) (by omega) (by unfold Nv4008; omega) h
      clear hj149E
      refine r_if_ne C 124 119 rfl dL_isSet_116 (by decide) h (fun h => ?_) (fun h => ?_)
      · refine r_new C 127 rfl tyJ4 (ci := 6) rfl tyJ4_ok nw_J4 lay_J4 cl_L_56 ins_J4 ini_J4 dL_isSet_124 (by show kq + 1 + 1 + 1 + 1 ≤ 310001200000; omega) (by show nq + 4 + 1000 + 1000 + 4 ≤ 160740404400000; omega) h (fun b33 t34 h => ?_)
        refine r_dup C 128 rfl dL_isSet_127 rfl ?_
        refine r_callI C (ci := 6) mm_L_58 im_yJ4_init_da8c8 rfl 131 (kq + 1 + 1 + 1 + 1 + 1) (nq + 4 + 1000 + 1000 + 4 + 1000) rfl rfl rfl dL_isSet_128 rfl rfl (As := []) rfl rfl (Nat.le_of_ble_eq_true rfl) ⟨Nat.le_of_ble_eq_true rfl, Nat.le_of_ble_eq_true rfl⟩ ⟨(by show kq + 1 + 1 + 1 + 1 + 1 ≤ 310001200000; omega), (by show nq + 4 + 1000 + 1000 + 4 + 1000 ≤ 160740404400000; omega)⟩ (fun o t h => k_J4_init_da8c8 l hst g _ _ o t h) h (fun w36 t35 h => ?_) (fun E t h => r_out C (fun x hx => (hE x hx).elim) (by omega) (by omega) h)
        replace h := jvV_some h
        obtain ⟨rfl, h⟩ := h
        refine r_ldcE C 133 rfl dL_isSet_131 ?_
        refine r_callV C (ci := 6) mm_L_59 im_yJ4_append_15ec4 se_yJ4_append_15ec4 rfl 136 (kq + 1 + 1 + 1 + 1 + 1 + 1) (nq + 4 + 1000 + 1000 + 4 + 1000 + 1000) rfl rfl rfl dL_isSet_133 rfl rfl (As := [.ref (gKa g 0)]) rfl rfl (Nat.le_of_ble_eq_true rfl) ⟨Nat.le_of_ble_eq_true rfl, Nat.le_of_ble_eq_true rfl⟩ ⟨(by show kq + 1 + 1 + 1 + 1 + 1 + 1 ≤ 310001200000; omega), (by show nq + 4 + 1000 + 1000 + 4 + 1000 + 1000 ≤ 160740404400000; omega)⟩ (fun o t h => k_J4_append_15ec4 l hst g _ _ _ o t h) h (fun w38 t37 h => ?_) (fun E t h => r_out C (fun x hx => (hE x hx).elim) (by omega) (by omega) h)
        replace h := jvA_some h
        obtain ⟨b39, rfl, h⟩ := h
        refine r_aload C (x := some a7) 138 rfl 7 dL_isSet_136 rfl ?_
        refine r_iload C 140 rfl 8 dL_isSet_138 rfl ?_
        refine r_callVS C mm_L_23 im_yJ0_charAt_5068e se_yJ0_charAt_5068e 143 (kq + 1 + 1 + 1 + 1 + 1 + 1) (nq + 4 + 1000 + 1000 + 4 + 1000 + 1000) rfl rfl rfl dL_isSet_140 rfl rfl (As := [.int v8]) rfl rfl (Nat.le_of_ble_eq_true rfl) ⟨Nat.le_of_ble_eq_true rfl, Nat.le_of_ble_eq_true rfl⟩ ⟨(by show kq + 1 + 1 + 1 + 1 + 1 + 1 ≤ 310001200000; omega), (by show nq + 4 + 1000 + 1000 + 4 + 1000 + 1000 ≤ 160740404400000; omega)⟩ (fun o t h => k_J0_charAt_5068e l hst g _ _ _ o t h) h (fun w41 t40 h => ?_) (fun E t h => r_out C (fun x hx => (hE x hx).elim) (by omega) (by omega) h)
        replace h := jvI_some h
        obtain ⟨x42, rfl, h⟩ := h
        refine r_callV C (ci := 6) mm_L_66 im_yJ4_append_cf468 se_yJ4_append_cf468 rfl 146 (kq + 1 + 1 + 1 + 1 + 1 + 1 + 1) (nq + 4 + 1000 + 1000 + 4 + 1000 + 1000 + 1000) rfl rfl rfl dL_isSet_143 rfl rfl (As := [.int x42]) rfl rfl (Nat.le_of_ble_eq_true rfl) ⟨Nat.le_of_ble_eq_true rfl, Nat.le_of_ble_eq_true rfl⟩ ⟨(by show kq + 1 + 1 + 1 + 1 + 1 + 1 + 1 ≤ 310001200000; omega), (by show nq + 4 + 1000 + 1000 + 4 + 1000 + 1000 + 1000 ≤ 160740404400000; omega)⟩ (fun o t h => k_J4_append_cf468 l hst g _ _ _ o t h) h (fun w44 t43 h => ?_) (fun E t h => r_out C (fun x hx => (hE x hx).elim) (by omega) (by omega) h)
        replace h := jvA_some h
        obtain ⟨b45, rfl, h⟩ := h
        refine r_callV C (ci := 6) mm_L_69 im_yJ4_toString_0e30d se_yJ4_toString_0e30d rfl 149 (kq + 1 + 1 + 1 + 1 + 1 + 1 + 1 + 2) (nq + 4 + 1000 + 1000 + 4 + 1000 + 1000 + 1000 + 1004) rfl rfl rfl dL_isSet_146 rfl rfl (As := []) rfl rfl (Nat.le_of_ble_eq_true rfl) ⟨Nat.le_of_ble_eq_true rfl, Nat.le_of_ble_eq_true rfl⟩ ⟨(by show kq + 1 + 1 + 1 + 1 + 1 + 1 + 1 + 2 ≤ 310001200000; omega), (by show nq + 4 + 1000 + 1000 + 4 + 1000 + 1000 + 1000 + 1004 ≤ 160740404400000; omega)⟩ (fun o t h => k_J4_toString_0e30d l hst g _ _ o t h) h (fun w47 t46 h => ?_) (fun E t h => r_out C (fun x hx => (hE x hx).elim) (by omega) (by omega) h)
        replace h := jvA_some h
        obtain ⟨b48, rfl, h⟩ := h
        refine r_lv [0, 1, 2, 4, 5, 6, 7, 8] rfl ?_
        refine r_widen (k' := kq + 1 + 1 + 1 + 6) (n' := nq + 4 + 1000 + 1000 + Nv4008) (by omega) (by unfold Nv4008; omega) ?_
        exact hj149 b48 t46 h
      · refine r_ldcE C 121 rfl dL_isSet_119 ?_
        refine r_goto C 149 dL_isSet_121 (by decide) ?_
        refine r_lv [0, 1, 2, 4, 5, 6, 7, 8] rfl ?_
        refine r_widen (k' := kq + 1 + 1 + 1 + 6) (n' := nq + 4 + 1000 + 1000 + Nv4008) (by omega) (by unfold Nv4008; omega) ?_
        exact hj149 (gKa g 0) t22 h
set_option maxHeartbeats 4000000 in
set_option maxRecDepth 100000 in
theorem w_L_isSet_L13 (l : Launch) (hst : l.stackTraces = false) {p : Program} {e : Env} {s : State} {m : MethodId} {args : Array Value} {below : List Frame} {meth : Method} {c : Code} {g : jG} {o : jO} {τ : Hp}  (C : jC p l s m args meth c g RL cL_isSet 9 (some FieldType.boolean)) (hE : ∀ x ∈ c.exceptionTable.toList, False) {KE NE : Nat} (hKE : KE ≤ 310001200000) (hNE : NE ≤ 160740404400000) (k168 : Nat → Int32 → Nat → Nat → Int32 → Hp → jR) (hk168 : ∀ (a0x : Nat) (v1x : Int32) (a3x : Nat) (a4x : Nat) (v5x : Int32) (tx : Hp), k168 a0x v1x a3x a4x v5x tx = some (o, τ) → jW p l e ({ frames := 10, cells := 310001200000, slots := 160740404400000, locals := 193 } : Room) s m args below meth c g (jQ below g o τ args s 310001200000 160740404400000) KE NE 168 [(0, .ref a0x), (1, .int v1x), (3, .ref a3x), (4, .ref a4x), (5, .int v5x)] [] tx) : ∀ (n : Nat) (a0 : Nat) (v1 : Int32) (v2 : Int32) (a3 : Nat) (a4 : Nat) (v5 : Int32) (v6 : Int32) (t0 : Hp) (kq nq : Nat), kq + Kc 2000001 n ≤ KE → nq + Kc 1203600006 n ≤ NE → J_L_isSet_L13 g  k168 n a0 v1 v2 a3 a4 v5 v6 t0 = some (o, τ) → jW p l e ({ frames := 10, cells := 310001200000, slots := 160740404400000, locals := 193 } : Room) s m args below meth c g (jQ below g o τ args s 310001200000 160740404400000) kq nq 13 [(0, .ref a0), (1, .int v1), (2, .int v2), (3, .ref a3), (4, .ref a4), (5, .int v5), (6, .int v6)] [] t0 := by
  intro n
  induction n with
  | zero => intro a0 v1 v2 a3 a4 v5 v6 t0 kq nq _ _ h; cases h
  | succ n ih =>
    intro a0 v1 v2 a3 a4 v5 v6 t0 kq nq hkq hnq h
    rw [Kc_t] at hkq hnq
    have h : J_L_isSet_L13b g  k168 (J_L_isSet_L13 g  k168 n) a0 v1 v2 a3 a4 v5 v6 t0 = some (o, τ) := h
    unfold J_L_isSet_L13b at h
    refine r_iload C 15 rfl 6 dL_isSet_13 rfl ?_
    refine r_aload_n C (x := some a0) 16 rfl 0 dL_isSet_15 rfl ?_
    refine r_iload_n C 17 rfl 1 dL_isSet_16 rfl ?_
    refine r_callV C (ci := 5) mm_L_81 im_yX5_lines se_yX5_lines rfl 20 (kq + 1) (nq + 6) rfl rfl rfl dL_isSet_17 rfl rfl (As := [.int v1]) rfl rfl (Nat.le_of_ble_eq_true rfl) ⟨Nat.le_of_ble_eq_true rfl, Nat.le_of_ble_eq_true rfl⟩ ⟨(by show kq + 1 ≤ 310001200000; omega), (by show nq + 6 ≤ 160740404400000; omega)⟩ (fun o t h => k_X5_lines l hst g _ _ _ o t h) h (fun w2 t1 h => ?_) (fun E t h => r_out C (fun x hx => (hE x hx).elim) (by omega) (by omega) h)
    replace h := jvI_some h
    obtain ⟨x3, rfl, h⟩ := h
    refine r_icmp_ge C 168 23 rfl dL_isSet_20 (by decide) h (fun h => ?_) (fun h => ?_)
    · refine r_lv [0, 1, 3, 4, 5] rfl ?_
      refine r_widen (k' := KE) (n' := NE) (by omega) (by omega) ?_
      exact hk168 a0 v1 a3 a4 v5 t1 h
    · refine r_iload C 25 rfl 5 dL_isSet_23 rfl ?_
      refine r_if_eq C 168 28 rfl dL_isSet_25 (by decide) h (fun h => ?_) (fun h => ?_)
      · refine r_lv [0, 1, 3, 4, 5] rfl ?_
        refine r_widen (k' := KE) (n' := NE) (by omega) (by omega) ?_
        exact hk168 a0 v1 a3 a4 v5 t1 h
      · refine r_aload_n C (x := some a0) 29 rfl 0 dL_isSet_28 rfl ?_
        refine r_iload_n C 30 rfl 1 dL_isSet_29 rfl ?_
        refine r_iload C 32 rfl 6 dL_isSet_30 rfl ?_
        refine r_callSX C mm_L_84 st_yL_line 35 (kq + 1 + Nv800000) (nq + 6 + Nv402000000) rfl rfl rfl dL_isSet_32 rfl rfl (As := [.ref a0, .int v1, .int v6]) rfl rfl (Nat.le_of_ble_eq_true rfl) ⟨Nat.le_of_ble_eq_true rfl, Nat.le_of_ble_eq_true rfl⟩ ⟨(by show kq + 1 + Nv800000 ≤ 310001200000; unfold Nv800000; omega), (by show nq + 6 + Nv402000000 ≤ 160740404400000; unfold Nv402000000; omega)⟩ (fun o t h => k_L_line l hst g _ _ _ _ o t h) h (fun w5 t4 h => ?_) (fun E t h => r_out C (fun x hx => (hE x hx).elim) (by unfold Nv800000; omega) (by unfold Nv402000000; omega) h)
        replace h := jvA_some h
        obtain ⟨b6, rfl, h⟩ := h
        refine r_astore C (x := some b6) 37 rfl [(7, .ref b6), (0, .ref a0), (1, .int v1), (2, .int v2), (3, .ref a3), (4, .ref a4), (5, .int v5), (6, .int v6)] dL_isSet_35 (by decide) rfl ?_
        refine r_aload C (x := some b6) 39 rfl 0 dL_isSet_37 rfl ?_
        refine r_callVS C mm_L_79 im_yJ0_length_8abf5 se_yJ0_length_8abf5 42 (kq + 1 + Nv800000) (nq + 6 + Nv402000000) rfl rfl rfl dL_isSet_39 rfl rfl (As := []) rfl rfl (Nat.le_of_ble_eq_true rfl) ⟨Nat.le_of_ble_eq_true rfl, Nat.le_of_ble_eq_true rfl⟩ ⟨(by show kq + 1 + Nv800000 ≤ 310001200000; unfold Nv800000; omega), (by show nq + 6 + Nv402000000 ≤ 160740404400000; unfold Nv402000000; omega)⟩ (fun o t h => k_J0_length_8abf5 l hst g _ _ o t h) h (fun w8 t7 h => ?_) (fun E t h => r_out C (fun x hx => (hE x hx).elim) (by unfold Nv800000; omega) (by unfold Nv402000000; omega) h)
        replace h := jvI_some h
        obtain ⟨x9, rfl, h⟩ := h
        obtain ⟨j83, hj83E, h⟩ := jj_some h
        have hj83 : ∀ (x10 : Int32) (t11 : Hp), j83 x10 t11 = some (o, τ) → jW p l e ({ frames := 10, cells := 310001200000, slots := 160740404400000, locals := 193 } : Room) s m args below meth c g (jQ below g o τ args s 310001200000 160740404400000) (kq + 1 + Nv800000) (nq + 6 + Nv402000000) 83 [(0, .ref a0), (1, .int v1), (2, .int v2), (3, .ref a3), (4, .ref a4), (6, .int v6), (7, .ref b6)] [.int x10] t11 := by
          subst hj83E
          intro x10 t11 h
          refine r_istore C 85 rfl [(5, .int x10), (0, .ref a0), (1, .int v1), (2, .int v2), (3, .ref a3), (4, .ref a4), (6, .int v6), (7, .ref b6)] dL_isSet_83 (by decide) rfl ?_
          refine r_iconst C (v := (0 : Int32)) 86 rfl dL_isSet_85 (by decide) ?_
          refine r_istore C 88 rfl [(8, .int ((0 : Int32))), (5, .int x10), (0, .ref a0), (1, .int v1), (2, .int v2), (3, .ref a3), (4, .ref a4), (6, .int v6), (7, .ref b6)] dL_isSet_86 (by decide) rfl ?_
          refine r_lv [2, 3, 4, 5, 6, 1, 7, 8, 0] rfl ?_
          refine w_L_isSet_L88 l hst  C hE (KE := kq + 1 + Nv800000 + Nv1200000) (NE := nq + 6 + Nv402000000 + Nv801600000) (by show kq + 1 + Nv800000 + Nv1200000 ≤ 310001200000; unfold Nv1200000 Nv800000; omega) (by show nq + 6 + Nv402000000 + Nv801600000 ≤ 160740404400000; unfold Nv402000000 Nv801600000; omega) _ (fun x49 x50 x51 x52 x53 x54 x55 t56 h => ?_) jN a0 v1 v2 a3 a4 x10 v6 b6 ((0 : Int32)) t11 (kq + 1 + Nv800000) (nq + 6 + Nv402000000) (by rw [show Kc 12 jN = 1200000 from by decide +kernel]; unfold Nv1200000 Nv800000; omega) (by rw [show Kc 8016 jN = 801600000 from by decide +kernel]; unfold Nv402000000 Nv801600000; omega) h
          refine r_iinc C (v := x55 + 1) 165 rfl 6 [(6, .int (x55 + 1)), (0, .ref x49), (1, .int x50), (2, .int x51), (3, .ref x52), (4, .ref x53), (5, .int x54)] dL_isSet_162 rfl rfl (by decide) rfl ?_
          refine r_goto C 13 dL_isSet_165 (by decide) ?_
          refine r_lv [1, 2, 3, 4, 5, 6, 0] rfl ?_
          exact ih x49 x50 x51 x52 x53 x54 (x55 + 1) t56 (kq + 1 + Nv800000 + Nv1200000) (nq + 6 + Nv402000000 + Nv801600000) (by unfold Nv1200000 Nv800000; omega) (by unfold Nv402000000 Nv801600000; omega) h
        clear hj83E
        obtain ⟨j82, hj82E, h⟩ := jj_some h
        have hj82 : ∀ (t57 : Hp), j82 t57 = some (o, τ) → jW p l e ({ frames := 10, cells := 310001200000, slots := 160740404400000, locals := 193 } : Room) s m args below meth c g (jQ below g o τ args s 310001200000 160740404400000) (kq + 1 + Nv800000) (nq + 6 + Nv402000000) 82 [(0, .ref a0), (1, .int v1), (2, .int v2), (3, .ref a3), (4, .ref a4), (6, .int v6), (7, .ref b6)] [] t57 := by
          subst hj82E
          intro t57 h
          refine r_iconst C (v := (0 : Int32)) 83 rfl dL_isSet_82 (by decide) ?_
          exact hj83 ((0 : Int32)) t57 h
        clear hj82E
        refine r_if_le C 82 45 rfl dL_isSet_42 (by decide) h (fun h => ?_) (fun h => ?_)
        · refine r_lv [1, 2, 3, 4, 5, 7, 0] rfl ?_
          exact hj82 t7 h
        · refine r_aload C (x := some b6) 47 rfl 0 dL_isSet_45 rfl ?_
          refine r_callVS C mm_L_79 im_yJ0_length_8abf5 se_yJ0_length_8abf5 50 (kq + 1 + Nv800000) (nq + 6 + Nv402000000) rfl rfl rfl dL_isSet_47 rfl rfl (As := []) rfl rfl (Nat.le_of_ble_eq_true rfl) ⟨Nat.le_of_ble_eq_true rfl, Nat.le_of_ble_eq_true rfl⟩ ⟨(by show kq + 1 + Nv800000 ≤ 310001200000; unfold Nv800000; omega), (by show nq + 6 + Nv402000000 ≤ 160740404400000; unfold Nv402000000; omega)⟩ (fun o t h => k_J0_length_8abf5 l hst g _ _ o t h) h (fun w59 t58 h => ?_) (fun E t h => r_out C (fun x hx => (hE x hx).elim) (by unfold Nv800000; omega) (by unfold Nv402000000; omega) h)
          replace h := jvI_some h
          obtain ⟨x60, rfl, h⟩ := h
          refine r_iload_n C 51 rfl 3 dL_isSet_50 rfl ?_
          refine r_icmp_gt C 82 54 rfl dL_isSet_51 (by decide) h (fun h => ?_) (fun h => ?_)
          · refine r_lv [1, 2, 3, 4, 5, 7, 0] rfl ?_
            exact hj82 t58 h
          · refine r_aload C (x := some b6) 56 rfl 0 dL_isSet_54 rfl ?_
            refine r_iconst C (v := (0 : Int32)) 57 rfl dL_isSet_56 (by decide) ?_
            refine r_callVS C mm_L_23 im_yJ0_charAt_5068e se_yJ0_charAt_5068e 60 (kq + 1 + Nv800000) (nq + 6 + Nv402000000) rfl rfl rfl dL_isSet_57 rfl rfl (As := [.int ((0 : Int32))]) rfl rfl (Nat.le_of_ble_eq_true rfl) ⟨Nat.le_of_ble_eq_true rfl, Nat.le_of_ble_eq_true rfl⟩ ⟨(by show kq + 1 + Nv800000 ≤ 310001200000; unfold Nv800000; omega), (by show nq + 6 + Nv402000000 ≤ 160740404400000; unfold Nv402000000; omega)⟩ (fun o t h => k_J0_charAt_5068e l hst g _ _ _ o t h) h (fun w62 t61 h => ?_) (fun E t h => r_out C (fun x hx => (hE x hx).elim) (by unfold Nv800000; omega) (by unfold Nv402000000; omega) h)
            replace h := jvI_some h
            obtain ⟨x63, rfl, h⟩ := h
            refine r_if_eq C 82 63 rfl dL_isSet_60 (by decide) h (fun h => ?_) (fun h => ?_)
            · refine r_lv [1, 2, 3, 4, 5, 7, 0] rfl ?_
              exact hj82 t61 h
            · refine r_aload C (x := some b6) 65 rfl 0 dL_isSet_63 rfl ?_
              refine r_aload C (x := some b6) 67 rfl 0 dL_isSet_65 rfl ?_
              refine r_callVS C mm_L_79 im_yJ0_length_8abf5 se_yJ0_length_8abf5 70 (kq + 1 + Nv800000) (nq + 6 + Nv402000000) rfl rfl rfl dL_isSet_67 rfl rfl (As := []) rfl rfl (Nat.le_of_ble_eq_true rfl) ⟨Nat.le_of_ble_eq_true rfl, Nat.le_of_ble_eq_true rfl⟩ ⟨(by show kq + 1 + Nv800000 ≤ 310001200000; unfold Nv800000; omega), (by show nq + 6 + Nv402000000 ≤ 160740404400000; unfold Nv402000000; omega)⟩ (fun o t h => k_J0_length_8abf5 l hst g _ _ o t h) h (fun w65 t64 h => ?_) (fun E t h => r_out C (fun x hx => (hE x hx).elim) (by unfold Nv800000; omega) (by unfold Nv402000000; omega) h)
              replace h := jvI_some h
              obtain ⟨x66, rfl, h⟩ := h
              refine r_iconst C (v := (1 : Int32)) 71 rfl dL_isSet_70 (by decide) ?_
              refine r_isub C 72 rfl dL_isSet_71 ?_
              refine r_callVS C mm_L_23 im_yJ0_charAt_5068e se_yJ0_charAt_5068e 75 (kq + 1 + Nv800000) (nq + 6 + Nv402000000) rfl rfl rfl dL_isSet_72 rfl rfl (As := [.int (x66 - ((1 : Int32)))]) rfl rfl (Nat.le_of_ble_eq_true rfl) ⟨Nat.le_of_ble_eq_true rfl, Nat.le_of_ble_eq_true rfl⟩ ⟨(by show kq + 1 + Nv800000 ≤ 310001200000; unfold Nv800000; omega), (by show nq + 6 + Nv402000000 ≤ 160740404400000; unfold Nv402000000; omega)⟩ (fun o t h => k_J0_charAt_5068e l hst g _ _ _ o t h) h (fun w68 t67 h => ?_) (fun E t h => r_out C (fun x hx => (hE x hx).elim) (by unfold Nv800000; omega) (by unfold Nv402000000; omega) h)
              replace h := jvI_some h
              obtain ⟨x69, rfl, h⟩ := h
              refine r_if_eq C 82 78 rfl dL_isSet_75 (by decide) h (fun h => ?_) (fun h => ?_)
              · refine r_lv [1, 2, 3, 4, 5, 7, 0] rfl ?_
                exact hj82 t67 h
              · refine r_iconst C (v := (1 : Int32)) 79 rfl dL_isSet_78 (by decide) ?_
                refine r_goto C 83 dL_isSet_79 (by decide) ?_
                refine r_lv [1, 2, 3, 4, 5, 7, 0] rfl ?_
                exact hj83 ((1 : Int32)) t67 h
set_option maxHeartbeats 4000000 in
set_option maxRecDepth 100000 in
theorem w_L_isSet_L174 (l : Launch) (hst : l.stackTraces = false) {p : Program} {e : Env} {s : State} {m : MethodId} {args : Array Value} {below : List Frame} {meth : Method} {c : Code} {g : jG} {o : jO} {τ : Hp}  (C : jC p l s m args meth c g RL cL_isSet 9 (some FieldType.boolean)) (hE : ∀ x ∈ c.exceptionTable.toList, False) {KE NE : Nat} (hKE : KE ≤ 310001200000) (hNE : NE ≤ 160740404400000) (k250 : Nat → Nat → Int32 → Hp → jR) (hk250 : ∀ (a3x : Nat) (a4x : Nat) (v5x : Int32) (tx : Hp), k250 a3x a4x v5x tx = some (o, τ) → jW p l e ({ frames := 10, cells := 310001200000, slots := 160740404400000, locals := 193 } : Room) s m args below meth c g (jQ below g o τ args s 310001200000 160740404400000) KE NE 250 [(3, .ref a3x), (4, .ref a4x), (5, .int v5x)] [] tx) : ∀ (n : Nat) (a0 : Nat) (v1 : Int32) (a3 : Nat) (a4 : Nat) (v5 : Int32) (v6 : Int32) (v7 : Int32) (t0 : Hp) (kq nq : Nat), kq + Kc 1100011 n ≤ KE → nq + Kc 403804038 n ≤ NE → J_L_isSet_L174 g  k250 n a0 v1 a3 a4 v5 v6 v7 t0 = some (o, τ) → jW p l e ({ frames := 10, cells := 310001200000, slots := 160740404400000, locals := 193 } : Room) s m args below meth c g (jQ below g o τ args s 310001200000 160740404400000) kq nq 174 [(0, .ref a0), (1, .int v1), (3, .ref a3), (4, .ref a4), (5, .int v5), (6, .int v6), (7, .int v7)] [] t0 := by
  intro n
  induction n with
  | zero => intro a0 v1 a3 a4 v5 v6 v7 t0 kq nq _ _ h; cases h
  | succ n ih =>
    intro a0 v1 a3 a4 v5 v6 v7 t0 kq nq hkq hnq h
    rw [Kc_t] at hkq hnq
    have h : J_L_isSet_L174b g  k250 (J_L_isSet_L174 g  k250 n) a0 v1 a3 a4 v5 v6 v7 t0 = some (o, τ) := h
    unfold J_L_isSet_L174b at h
    refine r_iload C 176 rfl 6 dL_isSet_174 rfl ?_
    refine r_aload_n C (x := some a0) 177 rfl 0 dL_isSet_176 rfl ?_
    refine r_iload_n C 178 rfl 1 dL_isSet_177 rfl ?_
    refine r_callV C (ci := 5) mm_L_88 im_yX5_words se_yX5_words rfl 181 (kq + 1) (nq + 6) rfl rfl rfl dL_isSet_178 rfl rfl (As := [.int v1]) rfl rfl (Nat.le_of_ble_eq_true rfl) ⟨Nat.le_of_ble_eq_true rfl, Nat.le_of_ble_eq_true rfl⟩ ⟨(by show kq + 1 ≤ 310001200000; omega), (by show nq + 6 ≤ 160740404400000; omega)⟩ (fun o t h => k_X5_words l hst g _ _ _ o t h) h (fun w77 t76 h => ?_) (fun E t h => r_out C (fun x hx => (hE x hx).elim) (by omega) (by omega) h)
    replace h := jvI_some h
    obtain ⟨x78, rfl, h⟩ := h
    refine r_icmp_ge C 250 184 rfl dL_isSet_181 (by decide) h (fun h => ?_) (fun h => ?_)
    · refine r_lv [2, 3, 4] rfl ?_
      refine r_widen (k' := KE) (n' := NE) (by omega) (by omega) ?_
      exact hk250 a3 a4 v5 t76 h
    · refine r_iload C 186 rfl 4 dL_isSet_184 rfl ?_
      refine r_if_eq C 250 189 rfl dL_isSet_186 (by decide) h (fun h => ?_) (fun h => ?_)
      · refine r_lv [2, 3, 4] rfl ?_
        refine r_widen (k' := KE) (n' := NE) (by omega) (by omega) ?_
        exact hk250 a3 a4 v5 t76 h
      · refine r_new C 192 rfl tyJ4 (ci := 6) rfl tyJ4_ok nw_J4 lay_J4 cl_L_56 ins_J4 ini_J4 dL_isSet_189 (by show kq + 1 + 1 ≤ 310001200000; omega) (by show nq + 6 + 4 ≤ 160740404400000; omega) h (fun b79 t80 h => ?_)
        refine r_dup C 193 rfl dL_isSet_192 rfl ?_
        refine r_callI C (ci := 6) mm_L_58 im_yJ4_init_da8c8 rfl 196 (kq + 1 + 1 + 1) (nq + 6 + 4 + 1000) rfl rfl rfl dL_isSet_193 rfl rfl (As := []) rfl rfl (Nat.le_of_ble_eq_true rfl) ⟨Nat.le_of_ble_eq_true rfl, Nat.le_of_ble_eq_true rfl⟩ ⟨(by show kq + 1 + 1 + 1 ≤ 310001200000; omega), (by show nq + 6 + 4 + 1000 ≤ 160740404400000; omega)⟩ (fun o t h => k_J4_init_da8c8 l hst g _ _ o t h) h (fun w82 t81 h => ?_) (fun E t h => r_out C (fun x hx => (hE x hx).elim) (by omega) (by omega) h)
        replace h := jvV_some h
        obtain ⟨rfl, h⟩ := h
        refine r_aload C (x := some a4) 198 rfl 3 dL_isSet_196 rfl ?_
        refine r_callV C (ci := 6) mm_L_59 im_yJ4_append_15ec4 se_yJ4_append_15ec4 rfl 201 (kq + 1 + 1 + 1 + 1) (nq + 6 + 4 + 1000 + 1000) rfl rfl rfl dL_isSet_198 rfl rfl (As := [.ref a4]) rfl rfl (Nat.le_of_ble_eq_true rfl) ⟨Nat.le_of_ble_eq_true rfl, Nat.le_of_ble_eq_true rfl⟩ ⟨(by show kq + 1 + 1 + 1 + 1 ≤ 310001200000; omega), (by show nq + 6 + 4 + 1000 + 1000 ≤ 160740404400000; omega)⟩ (fun o t h => k_J4_append_15ec4 l hst g _ _ _ o t h) h (fun w84 t83 h => ?_) (fun E t h => r_out C (fun x hx => (hE x hx).elim) (by omega) (by omega) h)
        replace h := jvA_some h
        obtain ⟨b85, rfl, h⟩ := h
        refine r_aload_n C (x := some a0) 202 rfl 0 dL_isSet_201 rfl ?_
        refine r_iload_n C 203 rfl 1 dL_isSet_202 rfl ?_
        refine r_iload C 205 rfl 6 dL_isSet_203 rfl ?_
        refine r_callS C mm_L_91 st_yL_word 208 (kq + 1 + 1 + 1 + 1 + Nv1100000) (nq + 6 + 4 + 1000 + 1000 + Nv403800000) rfl rfl rfl dL_isSet_205 rfl rfl (As := [.ref a0, .int v1, .int v7]) rfl rfl (Nat.le_of_ble_eq_true rfl) ⟨Nat.le_of_ble_eq_true rfl, Nat.le_of_ble_eq_true rfl⟩ ⟨(by show kq + 1 + 1 + 1 + 1 + Nv1100000 ≤ 310001200000; unfold Nv1100000; omega), (by show nq + 6 + 4 + 1000 + 1000 + Nv403800000 ≤ 160740404400000; unfold Nv403800000; omega)⟩ (fun o t h => k_L_word l hst g _ _ _ _ o t h) h (fun w87 t86 h => ?_) (fun E t h => r_out C (fun x hx => (hE x hx).elim) (by unfold Nv1100000; omega) (by unfold Nv403800000; omega) h)
        replace h := jvA_some h
        obtain ⟨b88, rfl, h⟩ := h
        refine r_callV C (ci := 6) mm_L_59 im_yJ4_append_15ec4 se_yJ4_append_15ec4 rfl 211 (kq + 1 + 1 + 1 + 1 + Nv1100000 + 1) (nq + 6 + 4 + 1000 + 1000 + Nv403800000 + 1000) rfl rfl rfl dL_isSet_208 rfl rfl (As := [.ref b88]) rfl rfl (Nat.le_of_ble_eq_true rfl) ⟨Nat.le_of_ble_eq_true rfl, Nat.le_of_ble_eq_true rfl⟩ ⟨(by show kq + 1 + 1 + 1 + 1 + Nv1100000 + 1 ≤ 310001200000; unfold Nv1100000; omega), (by show nq + 6 + 4 + 1000 + 1000 + Nv403800000 + 1000 ≤ 160740404400000; unfold Nv403800000; omega)⟩ (fun o t h => k_J4_append_15ec4 l hst g _ _ _ o t h) h (fun w90 t89 h => ?_) (fun E t h => r_out C (fun x hx => (hE x hx).elim) (by unfold Nv1100000; omega) (by unfold Nv403800000; omega) h)
        replace h := jvA_some h
        obtain ⟨b91, rfl, h⟩ := h
        refine r_callV C (ci := 6) mm_L_69 im_yJ4_toString_0e30d se_yJ4_toString_0e30d rfl 214 (kq + 1 + 1 + 1 + 1 + Nv1100000 + 1 + 2) (nq + 6 + 4 + 1000 + 1000 + Nv403800000 + 1000 + 1004) rfl rfl rfl dL_isSet_211 rfl rfl (As := []) rfl rfl (Nat.le_of_ble_eq_true rfl) ⟨Nat.le_of_ble_eq_true rfl, Nat.le_of_ble_eq_true rfl⟩ ⟨(by show kq + 1 + 1 + 1 + 1 + Nv1100000 + 1 + 2 ≤ 310001200000; unfold Nv1100000; omega), (by show nq + 6 + 4 + 1000 + 1000 + Nv403800000 + 1000 + 1004 ≤ 160740404400000; unfold Nv403800000; omega)⟩ (fun o t h => k_J4_toString_0e30d l hst g _ _ o t h) h (fun w93 t92 h => ?_) (fun E t h => r_out C (fun x hx => (hE x hx).elim) (by unfold Nv1100000; omega) (by unfold Nv403800000; omega) h)
        replace h := jvA_some h
        obtain ⟨b94, rfl, h⟩ := h
        refine r_astore C (x := some b94) 216 rfl [(4, .ref b94), (0, .ref a0), (1, .int v1), (3, .ref a3), (5, .int v5), (6, .int v6), (7, .int v7)] dL_isSet_214 (by decide) rfl ?_
        refine r_aload_n C (x := some a0) 217 rfl 1 dL_isSet_216 rfl ?_
        refine r_iload_n C 218 rfl 2 dL_isSet_217 rfl ?_
        refine r_iload C 220 rfl 6 dL_isSet_218 rfl ?_
        refine r_callV C (ci := 5) mm_L_94 im_yX5_lineOf se_yX5_lineOf rfl 223 (kq + 1 + 1 + 1 + 1 + Nv1100000 + 1 + 2 + 2) (nq + 6 + 4 + 1000 + 1000 + Nv403800000 + 1000 + 1004 + 12) rfl rfl rfl dL_isSet_220 rfl rfl (As := [.int v1, .int v7]) rfl rfl (Nat.le_of_ble_eq_true rfl) ⟨Nat.le_of_ble_eq_true rfl, Nat.le_of_ble_eq_true rfl⟩ ⟨(by show kq + 1 + 1 + 1 + 1 + Nv1100000 + 1 + 2 + 2 ≤ 310001200000; unfold Nv1100000; omega), (by show nq + 6 + 4 + 1000 + 1000 + Nv403800000 + 1000 + 1004 + 12 ≤ 160740404400000; unfold Nv403800000; omega)⟩ (fun o t h => k_X5_lineOf l hst g _ _ _ _ o t h) h (fun w96 t95 h => ?_) (fun E t h => r_out C (fun x hx => (hE x hx).elim) (by unfold Nv1100000; omega) (by unfold Nv403800000; omega) h)
        replace h := jvI_some h
        obtain ⟨x97, rfl, h⟩ := h
        refine r_iload C 225 rfl 5 dL_isSet_223 rfl ?_
        obtain ⟨j233, hj233E, h⟩ := jj_some h
        have hj233 : ∀ (x98 : Int32) (t99 : Hp), j233 x98 t99 = some (o, τ) → jW p l e ({ frames := 10, cells := 310001200000, slots := 160740404400000, locals := 193 } : Room) s m args below meth c g (jQ below g o τ args s 310001200000 160740404400000) (kq + 1 + 1 + 1 + 1 + Nv1100000 + 1 + 2 + 2) (nq + 6 + 4 + 1000 + 1000 + Nv403800000 + 1000 + 1004 + 12) 233 [(0, .ref a0), (1, .int v1), (3, .ref a3), (4, .ref b94), (7, .int v7)] [.int x98] t99 := by
          subst hj233E
          intro x98 t99 h
          refine r_istore C 235 rfl [(5, .int x98), (0, .ref a0), (1, .int v1), (3, .ref a3), (4, .ref b94), (7, .int v7)] dL_isSet_233 (by decide) rfl ?_
          refine r_aload_n C (x := some a0) 236 rfl 1 dL_isSet_235 rfl ?_
          refine r_iload_n C 237 rfl 2 dL_isSet_236 rfl ?_
          refine r_iload C 239 rfl 5 dL_isSet_237 rfl ?_
          refine r_callV C (ci := 5) mm_L_94 im_yX5_lineOf se_yX5_lineOf rfl 242 (kq + 1 + 1 + 1 + 1 + Nv1100000 + 1 + 2 + 2 + 2) (nq + 6 + 4 + 1000 + 1000 + Nv403800000 + 1000 + 1004 + 12 + 12) rfl rfl rfl dL_isSet_239 rfl rfl (As := [.int v1, .int v7]) rfl rfl (Nat.le_of_ble_eq_true rfl) ⟨Nat.le_of_ble_eq_true rfl, Nat.le_of_ble_eq_true rfl⟩ ⟨(by show kq + 1 + 1 + 1 + 1 + Nv1100000 + 1 + 2 + 2 + 2 ≤ 310001200000; unfold Nv1100000; omega), (by show nq + 6 + 4 + 1000 + 1000 + Nv403800000 + 1000 + 1004 + 12 + 12 ≤ 160740404400000; unfold Nv403800000; omega)⟩ (fun o t h => k_X5_lineOf l hst g _ _ _ _ o t h) h (fun w101 t100 h => ?_) (fun E t h => r_out C (fun x hx => (hE x hx).elim) (by unfold Nv1100000; omega) (by unfold Nv403800000; omega) h)
          replace h := jvI_some h
          obtain ⟨x102, rfl, h⟩ := h
          refine r_istore C 244 rfl [(6, .int x102), (5, .int x98), (0, .ref a0), (1, .int v1), (3, .ref a3), (4, .ref b94), (7, .int v7)] dL_isSet_242 (by decide) rfl ?_
          refine r_iinc C (v := v7 + 1) 247 rfl 6 [(7, .int (v7 + 1)), (6, .int x102), (5, .int x98), (0, .ref a0), (1, .int v1), (3, .ref a3), (4, .ref b94)] dL_isSet_244 rfl rfl (by decide) rfl ?_
          refine r_goto C 174 dL_isSet_247 (by decide) ?_
          refine r_lv [3, 4, 5, 6, 2, 1, 0] rfl ?_
          exact ih a0 v1 a3 b94 x98 x102 (v7 + 1) t100 (kq + 1 + 1 + 1 + 1 + Nv1100000 + 1 + 2 + 2 + 2) (nq + 6 + 4 + 1000 + 1000 + Nv403800000 + 1000 + 1004 + 12 + 12) (by unfold Nv1100000; omega) (by unfold Nv403800000; omega) h
        clear hj233E
        refine r_icmp_lt C 232 228 rfl dL_isSet_225 (by decide) h (fun h => ?_) (fun h => ?_)
        · refine r_iconst C (v := (0 : Int32)) 233 rfl dL_isSet_232 (by decide) ?_
          refine r_lv [1, 2, 3, 0, 6] rfl ?_
          exact hj233 ((0 : Int32)) t95 h
        · refine r_iconst C (v := (1 : Int32)) 229 rfl dL_isSet_228 (by decide) ?_
          refine r_goto C 233 dL_isSet_229 (by decide) ?_
          refine r_lv [1, 2, 3, 0, 6] rfl ?_
          exact hj233 ((1 : Int32)) t95 h
set_option maxHeartbeats 4000000 in
set_option maxRecDepth 100000 in
theorem k_L_isSet (l : Launch) (hst : l.stackTraces = false) (g : jG)   (a0 : Nat) (v1 : Int32) (v2 : Int32) (σ : Hp) (o : jO) (τ : Hp) (h : J_L_isSet g a0 v1 v2 σ = some (o, τ)) : jMet l g yL_isSet (Cond.code yL_isSet cL_isSet 9 (some FieldType.boolean) :: gT) ({ frames := 10, cells := 310001200000, slots := 160740404400000, locals := 193 } : Room) 310001200000 160740404400000 [.ref a0, .int v1, .int v2] σ o τ := by
  refine j_start l hst (own := RL) (by decide) rfl (Nat.le_of_ble_eq_true rfl) ?_
  intro p e s m args below meth c C hE hin
  unfold J_L_isSet at h
  show jW p l e ({ frames := 10, cells := 310001200000, slots := 160740404400000, locals := 193 } : Room) s m args below meth c g (jQ below g o τ args s 310001200000 160740404400000) 0 0 0 [(0, .ref a0), (1, .int v1), (2, .int v2)] [] σ
  refine r_ldcE C 2 rfl dL_isSet_0 ?_
  refine r_astore_n C (x := some (gKa g 0)) 3 rfl [(3, .ref (gKa g 0)), (0, .ref a0), (1, .int v1), (2, .int v2)] dL_isSet_2 (by decide) rfl ?_
  refine r_ldcE C 5 rfl dL_isSet_3 ?_
  refine r_astore C (x := some (gKa g 0)) 7 rfl [(4, .ref (gKa g 0)), (3, .ref (gKa g 0)), (0, .ref a0), (1, .int v1), (2, .int v2)] dL_isSet_5 (by decide) rfl ?_
  refine r_iconst C (v := (1 : Int32)) 8 rfl dL_isSet_7 (by decide) ?_
  refine r_istore C 10 rfl [(5, .int ((1 : Int32))), (4, .ref (gKa g 0)), (3, .ref (gKa g 0)), (0, .ref a0), (1, .int v1), (2, .int v2)] dL_isSet_8 (by decide) rfl ?_
  refine r_iconst C (v := (0 : Int32)) 11 rfl dL_isSet_10 (by decide) ?_
  refine r_istore C 13 rfl [(6, .int ((0 : Int32))), (5, .int ((1 : Int32))), (4, .ref (gKa g 0)), (3, .ref (gKa g 0)), (0, .ref a0), (1, .int v1), (2, .int v2)] dL_isSet_11 (by decide) rfl ?_
  refine r_lv [4, 5, 6, 3, 2, 1, 0] rfl ?_
  refine w_L_isSet_L13 l hst  C hE (KE := 200000100000) (NE := 120360000600000) (Nat.le_of_ble_eq_true rfl) (Nat.le_of_ble_eq_true rfl) _ (fun x70 x71 x72 x73 x74 t75 h => ?_) jN a0 v1 v2 (gKa g 0) (gKa g 0) ((1 : Int32)) ((0 : Int32)) σ 0 0 (by rw [show Kc 2000001 jN = 200000100000 from by decide +kernel]; exact Nat.le_of_ble_eq_true rfl) (by rw [show Kc 1203600006 jN = 120360000600000 from by decide +kernel]; exact Nat.le_of_ble_eq_true rfl) h
  refine r_iconst C (v := (0 : Int32)) 169 rfl dL_isSet_168 (by decide) ?_
  refine r_istore C 171 rfl [(6, .int ((0 : Int32))), (0, .ref x70), (1, .int x71), (3, .ref x72), (4, .ref x73), (5, .int x74)] dL_isSet_169 (by decide) rfl ?_
  refine r_iconst C (v := (0 : Int32)) 172 rfl dL_isSet_171 (by decide) ?_
  refine r_istore C 174 rfl [(7, .int ((0 : Int32))), (6, .int ((0 : Int32))), (0, .ref x70), (1, .int x71), (3, .ref x72), (4, .ref x73), (5, .int x74)] dL_isSet_172 (by decide) rfl ?_
  refine r_lv [2, 3, 4, 5, 6, 1, 0] rfl ?_
  refine w_L_isSet_L174 l hst  C hE (KE := 310001200000) (NE := 160740404400000) (Nat.le_of_ble_eq_true rfl) (Nat.le_of_ble_eq_true rfl) _ (fun x103 x104 x105 t106 h => ?_) jN x70 x71 x72 x73 x74 ((0 : Int32)) ((0 : Int32)) t75 200000100000 120360000600000 (by rw [show Kc 1100011 jN = 110001100000 from by decide +kernel]; exact Nat.le_of_ble_eq_true rfl) (by rw [show Kc 403804038 jN = 40380403800000 from by decide +kernel]; exact Nat.le_of_ble_eq_true rfl) h
  refine r_iload C 252 rfl 2 dL_isSet_250 rfl ?_
  refine r_if_eq C 268 255 rfl dL_isSet_252 (by decide) h (fun h => ?_) (fun h => ?_)
  · refine r_iconst C (v := (0 : Int32)) 269 rfl dL_isSet_268 (by decide) ?_
    exact r_zret C (fun _ => rfl) dL_isSet_269 (Nat.le_refl _) (Nat.le_refl _) h
  · refine r_aload_n C (x := some x103) 256 rfl 0 dL_isSet_255 rfl ?_
    refine r_aload C (x := some x104) 258 rfl 1 dL_isSet_256 rfl ?_
    refine r_callS C mm_L_97 st_yL_areAlike 261 310001200000 160740404400000 rfl rfl rfl dL_isSet_258 rfl rfl (As := [.ref x103, .ref x104]) rfl rfl (Nat.le_of_ble_eq_true rfl) ⟨Nat.le_of_ble_eq_true rfl, Nat.le_of_ble_eq_true rfl⟩ ⟨(Nat.le_of_ble_eq_true rfl), (Nat.le_of_ble_eq_true rfl)⟩ (fun o t h => k_L_areAlike l hst g _ _ _ o t h) h (fun w108 t107 h => ?_) (fun E t h => r_out C (fun x hx => (hE x hx).elim) (Nat.le_refl _) (Nat.le_refl _) h)
    replace h := jvI_some h
    obtain ⟨x109, rfl, h⟩ := h
    refine r_if_eq C 268 264 rfl dL_isSet_261 (by decide) h (fun h => ?_) (fun h => ?_)
    · refine r_iconst C (v := (0 : Int32)) 269 rfl dL_isSet_268 (by decide) ?_
      exact r_zret C (fun _ => rfl) dL_isSet_269 (Nat.le_refl _) (Nat.le_refl _) h
    · refine r_iconst C (v := (1 : Int32)) 265 rfl dL_isSet_264 (by decide) ?_
      refine r_goto C 269 dL_isSet_265 (by decide) ?_
      exact r_zret C (fun _ => rfl) dL_isSet_269 (Nat.le_refl _) (Nat.le_refl _) h
