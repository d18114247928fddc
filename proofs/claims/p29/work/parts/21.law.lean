/-- room enough for any way through the law -/
def jRoom : Room := { frames := 15, cells := 5300020000010000400036, slots := 2415004092000060201202731, locals := 612 }
noncomputable def J_L_law_L200b (g : jG)  (k281 : Nat → Nat → Int32 → Int32 → Int32 → Nat → Nat → Nat → Int32 → Hp → jR) (rc : Nat → Nat → Int32 → Int32 → Int32 → Nat → Nat → Nat → Int32 → Int32 → Hp → jR) (a1 : Nat) (a2 : Nat) (v3 : Int32) (v6 : Int32) (v7 : Int32) (a8 : Nat) (a9 : Nat) (a10 : Nat) (v11 : Int32) (v12 : Int32) (t0 : Hp) : jR := jaI t0 a10 v11 (fun x32 => (if x32 ≤ v12 then k281 a1 a2 v3 v6 v7 a8 a9 a10 v11 t0 else jcs (J_L_word g a1 v11 v12 t0) (fun w34 t33 => jvA w34 (fun b35 => jsS t33 a8 ((((40 : Int32)) * v11) + v12) b35 (fun t36 => jcv t36 a1 5 (J_X5_markOf a1 ((0 : Int32)) v11 v12 t36) (fun w38 t37 => jvI w38 (fun x39 => jsC t37 a9 ((((80 : Int32)) * v11) + (((2 : Int32)) * v12)) x39 (fun t40 => jcv t40 a1 5 (J_X5_markOf a1 ((1 : Int32)) v11 v12 t40) (fun w42 t41 => jvI w42 (fun x43 => jsC t41 a9 (((((80 : Int32)) * v11) + (((2 : Int32)) * v12)) + ((1 : Int32))) x43 (fun t44 => rc a1 a2 v3 v6 v7 a8 a9 a10 v11 (v12 + 1) t44))) (fun _ _ => none)))) (fun _ _ => none)))) (fun _ _ => none)))
noncomputable def J_L_law_L200 (g : jG)  (k281 : Nat → Nat → Int32 → Int32 → Int32 → Nat → Nat → Nat → Int32 → Hp → jR) : Nat → Nat → Nat → Int32 → Int32 → Int32 → Nat → Nat → Nat → Int32 → Int32 → Hp → jR
  | 0 => fun _ _ _ _ _ _ _ _ _ _ _ => none
  | n + 1 => J_L_law_L200b g  k281 (J_L_law_L200 g  k281 n)
noncomputable def J_L_law_L180b (g : jG)  (k287 : Nat → Nat → Int32 → Int32 → Int32 → Nat → Nat → Nat → Hp → jR) (rc : Nat → Nat → Int32 → Int32 → Int32 → Nat → Nat → Nat → Int32 → Hp → jR) (a1 : Nat) (a2 : Nat) (v3 : Int32) (v6 : Int32) (v7 : Int32) (a8 : Nat) (a9 : Nat) (a10 : Nat) (v11 : Int32) (t0 : Hp) : jR := (if v3 ≤ v11 then k287 a1 a2 v3 v6 v7 a8 a9 a10 t0 else jcv t0 a1 5 (J_X5_words a1 v11 t0) (fun w29 t28 => jvI w29 (fun x30 => jsI t28 a10 v11 x30 (fun t31 => J_L_law_L200 g  (fun (x45 : Nat) (x46 : Nat) (x47 : Int32) (x48 : Int32) (x49 : Int32) (x50 : Nat) (x51 : Nat) (x52 : Nat) (x53 : Int32) (t54 : Hp) => rc x45 x46 x47 x48 x49 x50 x51 x52 (x53 + 1) t54) jN a1 a2 v3 v6 v7 a8 a9 a10 v11 ((0 : Int32)) t31))) (fun _ _ => none))
noncomputable def J_L_law_L180 (g : jG)  (k287 : Nat → Nat → Int32 → Int32 → Int32 → Nat → Nat → Nat → Hp → jR) : Nat → Nat → Nat → Int32 → Int32 → Int32 → Nat → Nat → Nat → Int32 → Hp → jR
  | 0 => fun _ _ _ _ _ _ _ _ _ _ => none
  | n + 1 => J_L_law_L180b g  k287 (J_L_law_L180 g  k287 n)
noncomputable def J_L_law_L333b (g : jG)  (k464 : Nat → Nat → Int32 → Int32 → Int32 → Nat → Nat → Nat → Int32 → Int32 → Hp → jR) (rc : Nat → Nat → Int32 → Int32 → Int32 → Nat → Nat → Nat → Int32 → Int32 → Int32 → Hp → jR) (a1 : Nat) (a2 : Nat) (v3 : Int32) (v4 : Int32) (v6 : Int32) (a8 : Nat) (a9 : Nat) (a10 : Nat) (v11 : Int32) (v12 : Int32) (v13 : Int32) (t0 : Hp) : jR := jaI t0 a10 v12 (fun x73 => (if x73 ≤ v13 then k464 a1 a2 v3 v4 v6 a8 a9 a10 v11 v12 t0 else (if v4 = 0 then k464 a1 a2 v3 v4 v6 a8 a9 a10 v11 v12 t0 else (if ((6 : Int32)) ≤ v11 then k464 a1 a2 v3 v4 v6 a8 a9 a10 v11 v12 t0 else jaS t0 a8 ((((40 : Int32)) * v12) + v13) (fun r74 => jdr r74 (fun b75 => jcs (J_L_word g a1 v12 v13 t0) (fun w77 t76 => jvA w77 (fun b78 => jcs (J_L_areAlike g b75 b78 t76) (fun w80 t79 => jvI w80 (fun x81 => jcv t79 a1 5 (J_X5_markOf a1 ((0 : Int32)) v12 v13 t79) (fun w83 t82 => jvI w83 (fun x84 => jj (fun (x85 : Int32) (t86 : Hp) => jj (fun (x87 : Int32) (t88 : Hp) => rc a1 a2 v3 x87 v6 a8 a9 a10 v11 v12 (v13 + 1) t88) (fun j456 => jj (fun (t89 : Hp) => j456 ((0 : Int32)) t89) (fun j455 => (if x84 = x85 then jcv t86 a1 5 (J_X5_markOf a1 ((1 : Int32)) v12 v13 t86) (fun w91 t90 => jvI w91 (fun x92 => jj (fun (x93 : Int32) (t94 : Hp) => (if x92 = x93 then j456 ((1 : Int32)) t94 else j455 t94)) (fun j448 => (if x81 = 0 then j448 ((45 : Int32)) t90 else jaC t90 a9 (((((80 : Int32)) * v12) + (((2 : Int32)) * v13)) + ((1 : Int32))) (fun x95 => j448 x95 t90))))) (fun _ _ => none) else j455 t86)))) (fun j411 => (if x81 = 0 then j411 ((45 : Int32)) t82 else jaC t82 a9 ((((80 : Int32)) * v12) + (((2 : Int32)) * v13)) (fun x96 => j411 x96 t82))))) (fun _ _ => none))) (fun _ _ => none))) (fun _ _ => none)))))))
noncomputable def J_L_law_L333 (g : jG)  (k464 : Nat → Nat → Int32 → Int32 → Int32 → Nat → Nat → Nat → Int32 → Int32 → Hp → jR) : Nat → Nat → Nat → Int32 → Int32 → Int32 → Nat → Nat → Nat → Int32 → Int32 → Int32 → Hp → jR
  | 0 => fun _ _ _ _ _ _ _ _ _ _ _ _ => none
  | n + 1 => J_L_law_L333b g  k464 (J_L_law_L333 g  k464 n)
noncomputable def J_L_law_L309b (g : jG)  (k470 : Nat → Nat → Int32 → Int32 → Int32 → Hp → jR) (rc : Nat → Nat → Int32 → Int32 → Int32 → Nat → Nat → Nat → Int32 → Int32 → Hp → jR) (a1 : Nat) (a2 : Nat) (v3 : Int32) (v4 : Int32) (v6 : Int32) (a8 : Nat) (a9 : Nat) (a10 : Nat) (v11 : Int32) (v12 : Int32) (t0 : Hp) : jR := (if v3 ≤ v12 then k470 a1 a2 v3 v4 v6 t0 else (if v4 = 0 then k470 a1 a2 v3 v4 v6 t0 else jcs (J_L_isSet g a1 v12 ((40 : Int32)) t0) (fun w71 t70 => jvI w71 (fun x72 => J_L_law_L333 g  (fun (x97 : Nat) (x98 : Nat) (x99 : Int32) (x100 : Int32) (x101 : Int32) (x102 : Nat) (x103 : Nat) (x104 : Nat) (x105 : Int32) (x106 : Int32) (t107 : Hp) => rc x97 x98 x99 x100 x101 x102 x103 x104 x105 (x106 + 1) t107) jN a1 a2 v3 x72 v6 a8 a9 a10 v11 v12 ((0 : Int32)) t70)) (fun _ _ => none)))
noncomputable def J_L_law_L309 (g : jG)  (k470 : Nat → Nat → Int32 → Int32 → Int32 → Hp → jR) : Nat → Nat → Nat → Int32 → Int32 → Int32 → Nat → Nat → Nat → Int32 → Int32 → Hp → jR
  | 0 => fun _ _ _ _ _ _ _ _ _ _ _ => none
  | n + 1 => J_L_law_L309b g  k470 (J_L_law_L309 g  k470 n)
noncomputable def J_L_law_L65b (g : jG)  (k476 : Nat → Int32 → Hp → jR) (rc : Nat → Nat → Int32 → Int32 → Int32 → Hp → jR) (a1 : Nat) (a2 : Nat) (v3 : Int32) (v4 : Int32) (v6 : Int32) (t0 : Hp) : jR := (if ((40 : Int32)) ≤ v6 then k476 a1 v4 t0 else (if v4 = 0 then k476 a1 v4 t0 else jcs (J_L_cell g (((1 : Int32)) + v6) t0) (fun w19 t18 => jvI w19 (fun x20 => jj (fun (t21 : Hp) => jnA t21 8 1000 (v3 * ((40 : Int32))) (fun b22 t23 => jnA t23 7 1000 (v3 * ((80 : Int32))) (fun b24 t25 => jnA t25 2 6 ((6 : Int32)) (fun b26 t27 => J_L_law_L180 g  (fun (x55 : Nat) (x56 : Nat) (x57 : Int32) (x58 : Int32) (x59 : Int32) (x60 : Nat) (x61 : Nat) (x62 : Nat) (t63 : Hp) => jcs (J_L_acts g x55 x59 x57 x56 t63) (fun w65 t64 => jvI w65 (fun x66 => jcs (J_L_low g x59 ((14 : Int32)) t64) (fun w68 t67 => jvI w68 (fun x69 => J_L_law_L309 g  (fun (x108 : Nat) (x109 : Nat) (x110 : Int32) (x111 : Int32) (x112 : Int32) (t113 : Hp) => rc x108 x109 x110 x111 (x112 + 1) t113) jN x55 x56 x57 x66 x58 x60 x61 x62 x69 ((0 : Int32)) t67)) (fun _ _ => none))) (fun _ _ => none)) jN a1 a2 v3 v6 x20 b22 b24 b26 ((0 : Int32)) t27)))) (fun j154 => (if ((6 : Int32)) ≤ v3 then j154 t18 else jcs (J_L_low g (x20 >>> (((18 : Int32)) &&& 31)) ((6 : Int32)) t18) (fun w115 t114 => jvI w115 (fun x116 => (if x116 = 0 then jcs (J_L_types g a1 (x20 >>> (((3 : Int32)) &&& 31)) ((60 : Int32)) ((1 : Int32)) t114) (fun w118 t117 => jvV w118 (jcs (J_L_low g (x20 >>> (((9 : Int32)) &&& 31)) ((2 : Int32)) t117) (fun w120 t119 => jvI w120 (fun x121 => jcv t119 a1 5 (J_X5_setText a1 v3 (((1 : Int32)) + x121) t119) (fun w123 t122 => jvI w123 (fun x124 => jcv t122 a1 5 (J_X5_words a1 v3 t122) (fun w126 t125 => jvI w126 (fun x127 => jj (fun (x128 : Int32) (t129 : Hp) => rc a1 a2 (v3 + 1) x128 (v6 + 1) t129) (fun j146 => (if x124 = x127 then j146 ((1 : Int32)) t125 else j146 ((0 : Int32)) t125)))) (fun _ _ => none))) (fun _ _ => none))) (fun _ _ => none))) (fun _ _ => none) else j154 t114))) (fun _ _ => none))))) (fun _ _ => none)))
noncomputable def J_L_law_L65 (g : jG)  (k476 : Nat → Int32 → Hp → jR) : Nat → Nat → Nat → Int32 → Int32 → Int32 → Hp → jR
  | 0 => fun _ _ _ _ _ _ => none
  | n + 1 => J_L_law_L65b g  k476 (J_L_law_L65 g  k476 n)
/-- the law's end: is it still so, and is the house sound? -/
def J_L_fin (a1 : Nat) (v4 : Int32) (t : Hp) : jR := if v4 = 0 then none else jcv t a1 5 (J_X5_isSound a1 t) (fun w t' => jvI w (fun x => if x = 0 then none else some (.inl (some (.int 1)), t'))) (fun _ _ => none)
theorem mm_L_168 : jLk RL 168 yX5_isSound cX5_isSound 5 (some FieldType.boolean) 0 := ⟨ml_L_168, ini_X5, cd_yX5_isSound, by decide +kernel⟩
noncomputable def J_L_law (g : jG) (σ : Hp) : jR := jnw σ 5 (fun b1 t2 => jcv t2 b1 5 (J_X5_init b1 t2) (fun w4 t3 => jvV w4 (jmu t3 (fun b5 t6 => jcs (J_L_cell g ((0 : Int32)) t6) (fun w8 t7 => jvI w8 (fun x9 => jcs (J_L_low g x9 ((3 : Int32)) t7) (fun w11 t10 => jvI w11 (fun x12 => jj (fun (x13 : Int32) (t14 : Hp) => jcv t14 b1 5 (J_X5_setBearing b1 x13 t14) (fun w16 t15 => jvI w16 (fun x17 => J_L_law_L65 g  J_L_fin jN b1 b5 ((0 : Int32)) ((1 : Int32)) ((0 : Int32)) t15)) (fun _ _ => none)) (fun j57 => (if x12 = 0 then jcs (J_L_cell g ((0 : Int32)) t10) (fun w134 t133 => jvI w134 (fun x135 => jcs (J_L_low g (x135 >>> (((2 : Int32)) &&& 31)) ((200 : Int32)) t133) (fun w137 t136 => jvI w137 (fun x138 => j57 (((10 : Int32)) + x138) t136)) (fun _ _ => none))) (fun _ _ => none) else j57 ((9999 : Int32)) t10)))) (fun _ _ => none))) (fun _ _ => none)))) (fun _ _ => none))
set_option maxHeartbeats 4000000 in
set_option maxRecDepth 100000 in
theorem w_L_law_L200 (l : Launch) (hst : l.stackTraces = false) {p : Program} {e : Env} {s : State} {m : MethodId} {args : Array Value} {below : List Frame} {meth : Method} {c : Code} {g : jG} {Q : State → Prop} {τ : Hp}  (C : jC p l s m args meth c g RL cL_law 15 (some FieldType.boolean))  {KE NE : Nat} (hKE : KE ≤ 5300020000010000400036) (hNE : NE ≤ 2415004092000060201202731) (k281 : Nat → Nat → Int32 → Int32 → Int32 → Nat → Nat → Nat → Int32 → Hp → jR) (hk281 : ∀ (a1x : Nat) (a2x : Nat) (v3x : Int32) (v6x : Int32) (v7x : Int32) (a8x : Nat) (a9x : Nat) (a10x : Nat) (v11x : Int32) (tx : Hp), k281 a1x a2x v3x v6x v7x a8x a9x a10x v11x tx = some (.inl (some (.int 1)), τ) → jW p l e jRoom s m args below meth c g (Q) KE NE 281 [(1, .ref a1x), (2, .ref a2x), (3, .int v3x), (6, .int v6x), (7, .int v7x), (8, .ref a8x), (9, .ref a9x), (10, .ref a10x), (11, .int v11x), (0, .ref (gSa g))] [] tx) : ∀ (n : Nat) (a1 : Nat) (a2 : Nat) (v3 : Int32) (v6 : Int32) (v7 : Int32) (a8 : Nat) (a9 : Nat) (a10 : Nat) (v11 : Int32) (v12 : Int32) (t0 : Hp) (kq nq : Nat), kq + Kc 1100004 n ≤ KE → nq + Kc 403800024 n ≤ NE → J_L_law_L200 g  k281 n a1 a2 v3 v6 v7 a8 a9 a10 v11 v12 t0 = some (.inl (some (.int 1)), τ) → jW p l e jRoom s m args below meth c g (Q) kq nq 200 [(1, .ref a1), (2, .ref a2), (3, .int v3), (6, .int v6), (7, .int v7), (8, .ref a8), (9, .ref a9), (10, .ref a10), (11, .int v11), (12, .int v12), (0, .ref (gSa g))] [] t0 := by
  intro n
  induction n with
  | zero => intro a1 a2 v3 v6 v7 a8 a9 a10 v11 v12 t0 kq nq _ _ h; cases h
  | succ n ih =>
    intro a1 a2 v3 v6 v7 a8 a9 a10 v11 v12 t0 kq nq hkq hnq h
    rw [Kc_t] at hkq hnq
    have h : J_L_law_L200b g  k281 (J_L_law_L200 g  k281 n) a1 a2 v3 v6 v7 a8 a9 a10 v11 v12 t0 = some (.inl (some (.int 1)), τ) := h
    unfold J_L_law_L200b at h
    refine r_iload C 202 rfl 9 dL_law_200 rfl ?_
    refine r_aload C (x := some a10) 204 rfl 7 dL_law_202 rfl ?_
    refine r_iload C 206 rfl 8 dL_law_204 rfl ?_
    refine r_iald C 207 rfl dL_law_206 h (fun x32 h => ?_)
    refine r_icmp_ge C 281 210 rfl dL_law_207 (by decide) h (fun h => ?_) (fun h => ?_)
    · refine r_lv [0, 1, 2, 3, 4, 5, 6, 7, 8, 10] rfl ?_
      refine r_widen (k' := KE) (n' := NE) (by omega) (by omega) ?_
      exact hk281 a1 a2 v3 v6 v7 a8 a9 a10 v11 t0 h
    · refine r_aload C (x := some a8) 212 rfl 5 dL_law_210 rfl ?_
      refine r_bipush C (v := (40 : Int32)) 214 rfl dL_law_212 (by decide) ?_
      refine r_iload C 216 rfl 8 dL_law_214 rfl ?_
      refine r_imul C 217 rfl dL_law_216 ?_
      refine r_iload C 219 rfl 9 dL_law_217 rfl ?_
      refine r_iadd C 220 rfl dL_law_219 ?_
      refine r_aload_n C (x := some a1) 221 rfl 0 dL_law_220 rfl ?_
      refine r_iload C 223 rfl 8 dL_law_221 rfl ?_
      refine r_iload C 225 rfl 9 dL_law_223 rfl ?_
      refine r_callS C mm_L_91 st_yL_word 228 (kq + Nv1100000) (nq + Nv403800000) rfl rfl rfl dL_law_225 rfl rfl (As := [.ref a1, .int v11, .int v12]) rfl rfl (Nat.le_of_ble_eq_true rfl) ⟨Nat.le_of_ble_eq_true rfl, Nat.le_of_ble_eq_true rfl⟩ ⟨(by show kq + Nv1100000 ≤ 5300020000010000400036; unfold Nv1100000; omega), (by show nq + Nv403800000 ≤ 2415004092000060201202731; unfold Nv403800000; omega)⟩ (fun o t h => k_L_word l hst g _ _ _ _ o t h) h (fun w34 t33 h => ?_) (fun E t h => by cases h)
      replace h := jvA_some h
      obtain ⟨b35, rfl, h⟩ := h
      refine r_aastS C 229 rfl dL_law_228 h (fun t36 h => ?_)
      refine r_aload C (x := some a9) 231 rfl 6 dL_law_229 rfl ?_
      refine r_bipush C (v := (80 : Int32)) 233 rfl dL_law_231 (by decide) ?_
      refine r_iload C 235 rfl 8 dL_law_233 rfl ?_
      refine r_imul C 236 rfl dL_law_235 ?_
      refine r_iconst C (v := (2 : Int32)) 237 rfl dL_law_236 (by decide) ?_
      refine r_iload C 239 rfl 9 dL_law_237 rfl ?_
      refine r_imul C 240 rfl dL_law_239 ?_
      refine r_iadd C 241 rfl dL_law_240 ?_
      refine r_aload_n C (x := some a1) 242 rfl 0 dL_law_241 rfl ?_
      refine r_iconst C (v := (0 : Int32)) 243 rfl dL_law_242 (by decide) ?_
      refine r_iload C 245 rfl 8 dL_law_243 rfl ?_
      refine r_iload C 247 rfl 9 dL_law_245 rfl ?_
      refine r_callV C (ci := 5) mm_L_142 im_yX5_markOf se_yX5_markOf rfl 250 (kq + Nv1100000 + 2) (nq + Nv403800000 + 12) rfl rfl rfl dL_law_247 rfl rfl (As := [.int ((0 : Int32)), .int v11, .int v12]) rfl rfl (Nat.le_of_ble_eq_true rfl) ⟨Nat.le_of_ble_eq_true rfl, Nat.le_of_ble_eq_true rfl⟩ ⟨(by show kq + Nv1100000 + 2 ≤ 5300020000010000400036; unfold Nv1100000; omega), (by show nq + Nv403800000 + 12 ≤ 2415004092000060201202731; unfold Nv403800000; omega)⟩ (fun o t h => k_X5_markOf l hst g _ _ _ _ _ o t h) h (fun w38 t37 h => ?_) (fun E t h => by cases h)
      replace h := jvI_some h
      obtain ⟨x39, rfl, h⟩ := h
      refine r_cast C 251 rfl dL_law_250 h (fun t40 h => ?_)
      refine r_aload C (x := some a9) 253 rfl 6 dL_law_251 rfl ?_
      refine r_bipush C (v := (80 : Int32)) 255 rfl dL_law_253 (by decide) ?_
      refine r_iload C 257 rfl 8 dL_law_255 rfl ?_
      refine r_imul C 258 rfl dL_law_257 ?_
      refine r_iconst C (v := (2 : Int32)) 259 rfl dL_law_258 (by decide) ?_
      refine r_iload C 261 rfl 9 dL_law_259 rfl ?_
      refine r_imul C 262 rfl dL_law_261 ?_
      refine r_iadd C 263 rfl dL_law_262 ?_
      refine r_iconst C (v := (1 : Int32)) 264 rfl dL_law_263 (by decide) ?_
      refine r_iadd C 265 rfl dL_law_264 ?_
      refine r_aload_n C (x := some a1) 266 rfl 0 dL_law_265 rfl ?_
      refine r_iconst C (v := (1 : Int32)) 267 rfl dL_law_266 (by decide) ?_
      refine r_iload C 269 rfl 8 dL_law_267 rfl ?_
      refine r_iload C 271 rfl 9 dL_law_269 rfl ?_
      refine r_callV C (ci := 5) mm_L_142 im_yX5_markOf se_yX5_markOf rfl 274 (kq + Nv1100000 + 2 + 2) (nq + Nv403800000 + 12 + 12) rfl rfl rfl dL_law_271 rfl rfl (As := [.int ((1 : Int32)), .int v11, .int v12]) rfl rfl (Nat.le_of_ble_eq_true rfl) ⟨Nat.le_of_ble_eq_true rfl, Nat.le_of_ble_eq_true rfl⟩ ⟨(by show kq + Nv1100000 + 2 + 2 ≤ 5300020000010000400036; unfold Nv1100000; omega), (by show nq + Nv403800000 + 12 + 12 ≤ 2415004092000060201202731; unfold Nv403800000; omega)⟩ (fun o t h => k_X5_markOf l hst g _ _ _ _ _ o t h) h (fun w42 t41 h => ?_) (fun E t h => by cases h)
      replace h := jvI_some h
      obtain ⟨x43, rfl, h⟩ := h
      refine r_cast C 275 rfl dL_law_274 h (fun t44 h => ?_)
      refine r_iinc C (v := v12 + 1) 278 rfl 9 [(12, .int (v12 + 1)), (1, .ref a1), (2, .ref a2), (3, .int v3), (6, .int v6), (7, .int v7), (8, .ref a8), (9, .ref a9), (10, .ref a10), (11, .int v11), (0, .ref (gSa g))] dL_law_275 rfl rfl (by decide) rfl ?_
      refine r_goto C 200 dL_law_278 (by decide) ?_
      refine r_lv [1, 2, 3, 4, 5, 6, 7, 8, 9, 0, 10] rfl ?_
      exact ih a1 a2 v3 v6 v7 a8 a9 a10 v11 (v12 + 1) t44 (kq + Nv1100000 + 2 + 2) (nq + Nv403800000 + 12 + 12) (by unfold Nv1100000; omega) (by unfold Nv403800000; omega) h
set_option maxHeartbeats 4000000 in
set_option maxRecDepth 100000 in
theorem w_L_law_L180 (l : Launch) (hst : l.stackTraces = false) {p : Program} {e : Env} {s : State} {m : MethodId} {args : Array Value} {below : List Frame} {meth : Method} {c : Code} {g : jG} {Q : State → Prop} {τ : Hp}  (C : jC p l s m args meth c g RL cL_law 15 (some FieldType.boolean))  {KE NE : Nat} (hKE : KE ≤ 5300020000010000400036) (hNE : NE ≤ 2415004092000060201202731) (k287 : Nat → Nat → Int32 → Int32 → Int32 → Nat → Nat → Nat → Hp → jR) (hk287 : ∀ (a1x : Nat) (a2x : Nat) (v3x : Int32) (v6x : Int32) (v7x : Int32) (a8x : Nat) (a9x : Nat) (a10x : Nat) (tx : Hp), k287 a1x a2x v3x v6x v7x a8x a9x a10x tx = some (.inl (some (.int 1)), τ) → jW p l e jRoom s m args below meth c g (Q) KE NE 287 [(1, .ref a1x), (2, .ref a2x), (3, .int v3x), (6, .int v6x), (7, .int v7x), (8, .ref a8x), (9, .ref a9x), (10, .ref a10x), (0, .ref (gSa g))] [] tx) : ∀ (n : Nat) (a1 : Nat) (a2 : Nat) (v3 : Int32) (v6 : Int32) (v7 : Int32) (a8 : Nat) (a9 : Nat) (a10 : Nat) (v11 : Int32) (t0 : Hp) (kq nq : Nat), kq + Kc 110000400001 n ≤ KE → nq + Kc 40380002400006 n ≤ NE → J_L_law_L180 g  k287 n a1 a2 v3 v6 v7 a8 a9 a10 v11 t0 = some (.inl (some (.int 1)), τ) → jW p l e jRoom s m args below meth c g (Q) kq nq 180 [(1, .ref a1), (2, .ref a2), (3, .int v3), (6, .int v6), (7, .int v7), (8, .ref a8), (9, .ref a9), (10, .ref a10), (11, .int v11), (0, .ref (gSa g))] [] t0 := by
  intro n
  induction n with
  | zero => intro a1 a2 v3 v6 v7 a8 a9 a10 v11 t0 kq nq _ _ h; cases h
  | succ n ih =>
    intro a1 a2 v3 v6 v7 a8 a9 a10 v11 t0 kq nq hkq hnq h
    rw [Kc_t] at hkq hnq
    have h : J_L_law_L180b g  k287 (J_L_law_L180 g  k287 n) a1 a2 v3 v6 v7 a8 a9 a10 v11 t0 = some (.inl (some (.int 1)), τ) := h
    unfold J_L_law_L180b at h
    refine r_iload C 182 rfl 8 dL_law_180 rfl ?_
    refine r_iload_n C 183 rfl 2 dL_law_182 rfl ?_
    refine r_icmp_ge C 287 186 rfl dL_law_183 (by decide) h (fun h => ?_) (fun h => ?_)
    · refine r_lv [0, 1, 2, 3, 4, 5, 6, 7, 9] rfl ?_
      refine r_widen (k' := KE) (n' := NE) (by omega) (by omega) ?_
      exact hk287 a1 a2 v3 v6 v7 a8 a9 a10 t0 h
    · refine r_aload C (x := some a10) 188 rfl 7 dL_law_186 rfl ?_
      refine r_iload C 190 rfl 8 dL_law_188 rfl ?_
      refine r_aload_n C (x := some a1) 191 rfl 0 dL_law_190 rfl ?_
      refine r_iload C 193 rfl 8 dL_law_191 rfl ?_
      refine r_callV C (ci := 5) mm_L_88 im_yX5_words se_yX5_words rfl 196 (kq + 1) (nq + 6) rfl rfl rfl dL_law_193 rfl rfl (As := [.int v11]) rfl rfl (Nat.le_of_ble_eq_true rfl) ⟨Nat.le_of_ble_eq_true rfl, Nat.le_of_ble_eq_true rfl⟩ ⟨(by show kq + 1 ≤ 5300020000010000400036; omega), (by show nq + 6 ≤ 2415004092000060201202731; omega)⟩ (fun o t h => k_X5_words l hst g _ _ _ o t h) h (fun w29 t28 h => ?_) (fun E t h => by cases h)
      replace h := jvI_some h
      obtain ⟨x30, rfl, h⟩ := h
      refine r_iast C 197 rfl dL_law_196 h (fun t31 h => ?_)
      refine r_iconst C (v := (0 : Int32)) 198 rfl dL_law_197 (by decide) ?_
      refine r_istore C 200 rfl [(12, .int ((0 : Int32))), (1, .ref a1), (2, .ref a2), (3, .int v3), (6, .int v6), (7, .int v7), (8, .ref a8), (9, .ref a9), (10, .ref a10), (11, .int v11), (0, .ref (gSa g))] dL_law_198 (by decide) rfl ?_
      refine r_lv [1, 2, 3, 4, 5, 6, 7, 8, 9, 0, 10] rfl ?_
      refine w_L_law_L200 l hst  C (KE := kq + 1 + Nv110000400000) (NE := nq + 6 + Nv40380002400000) (by show kq + 1 + Nv110000400000 ≤ 5300020000010000400036; unfold Nv110000400000; omega) (by show nq + 6 + Nv40380002400000 ≤ 2415004092000060201202731; unfold Nv40380002400000; omega) _ (fun x45 x46 x47 x48 x49 x50 x51 x52 x53 t54 h => ?_) jN a1 a2 v3 v6 v7 a8 a9 a10 v11 ((0 : Int32)) t31 (kq + 1) (nq + 6) (by rw [show Kc 1100004 jN = 110000400000 from by decide +kernel]; unfold Nv110000400000; omega) (by rw [show Kc 403800024 jN = 40380002400000 from by decide +kernel]; unfold Nv40380002400000; omega) h
      refine r_iinc C (v := x53 + 1) 284 rfl 8 [(11, .int (x53 + 1)), (1, .ref x45), (2, .ref x46), (3, .int x47), (6, .int x48), (7, .int x49), (8, .ref x50), (9, .ref x51), (10, .ref x52), (0, .ref (gSa g))] dL_law_281 rfl rfl (by decide) rfl ?_
      refine r_goto C 180 dL_law_284 (by decide) ?_
      refine r_lv [1, 2, 3, 4, 5, 6, 7, 8, 0, 9] rfl ?_
      exact ih x45 x46 x47 x48 x49 x50 x51 x52 (x53 + 1) t54 (kq + 1 + Nv110000400000) (nq + 6 + Nv40380002400000) (by unfold Nv110000400000; omega) (by unfold Nv40380002400000; omega) h
set_option maxHeartbeats 4000000 in
set_option maxRecDepth 100000 in
theorem w_L_law_L333 (l : Launch) (hst : l.stackTraces = false) {p : Program} {e : Env} {s : State} {m : MethodId} {args : Array Value} {below : List Frame} {meth : Method} {c : Code} {g : jG} {Q : State → Prop} {τ : Hp}  (C : jC p l s m args meth c g RL cL_law 15 (some FieldType.boolean))  {KE NE : Nat} (hKE : KE ≤ 5300020000010000400036) (hNE : NE ≤ 2415004092000060201202731) (k464 : Nat → Nat → Int32 → Int32 → Int32 → Nat → Nat → Nat → Int32 → Int32 → Hp → jR) (hk464 : ∀ (a1x : Nat) (a2x : Nat) (v3x : Int32) (v4x : Int32) (v6x : Int32) (a8x : Nat) (a9x : Nat) (a10x : Nat) (v11x : Int32) (v12x : Int32) (tx : Hp), k464 a1x a2x v3x v4x v6x a8x a9x a10x v11x v12x tx = some (.inl (some (.int 1)), τ) → jW p l e jRoom s m args below meth c g (Q) KE NE 464 [(1, .ref a1x), (2, .ref a2x), (3, .int v3x), (4, .int v4x), (6, .int v6x), (8, .ref a8x), (9, .ref a9x), (10, .ref a10x), (11, .int v11x), (12, .int v12x), (0, .ref (gSa g))] [] tx) : ∀ (n : Nat) (a1 : Nat) (a2 : Nat) (v3 : Int32) (v4 : Int32) (v6 : Int32) (a8 : Nat) (a9 : Nat) (a10 : Nat) (v11 : Int32) (v12 : Int32) (v13 : Int32) (t0 : Hp) (kq nq : Nat), kq + Kc 1100004 n ≤ KE → nq + Kc 403800024 n ≤ NE → J_L_law_L333 g  k464 n a1 a2 v3 v4 v6 a8 a9 a10 v11 v12 v13 t0 = some (.inl (some (.int 1)), τ) → jW p l e jRoom s m args below meth c g (Q) kq nq 333 [(1, .ref a1), (2, .ref a2), (3, .int v3), (4, .int v4), (6, .int v6), (8, .ref a8), (9, .ref a9), (10, .ref a10), (11, .int v11), (12, .int v12), (13, .int v13), (0, .ref (gSa g))] [] t0 := by
  intro n
  induction n with
  | zero => intro a1 a2 v3 v4 v6 a8 a9 a10 v11 v12 v13 t0 kq nq _ _ h; cases h
  | succ n ih =>
    intro a1 a2 v3 v4 v6 a8 a9 a10 v11 v12 v13 t0 kq nq hkq hnq h
    rw [Kc_t] at hkq hnq
    have h : J_L_law_L333b g  k464 (J_L_law_L333 g  k464 n) a1 a2 v3 v4 v6 a8 a9 a10 v11 v12 v13 t0 = some (.inl (some (.int 1)), τ) := h
    unfold J_L_law_L333b at h
    refine r_iload C 335 rfl 10 dL_law_333 rfl ?_
    refine r_aload C (x := some a10) 337 rfl 7 dL_law_335 rfl ?_
    refine r_iload C 339 rfl 9 dL_law_337 rfl ?_
    refine r_iald C 340 rfl dL_law_339 h (fun x73 h => ?_)
    refine r_icmp_ge C 464 343 rfl dL_law_340 (by decide) h (fun h => ?_) (fun h => ?_)
    · refine r_lv [0, 1, 2, 3, 4, 5, 6, 7, 8, 9, 11] rfl ?_
      refine r_widen (k' := KE) (n' := NE) (by omega) (by omega) ?_
      exact hk464 a1 a2 v3 v4 v6 a8 a9 a10 v11 v12 t0 h
    · refine r_iload C 345 rfl 3 dL_law_343 rfl ?_
      refine r_if_eq C 464 348 rfl dL_law_345 (by decide) h (fun h => ?_) (fun h => ?_)
      · refine r_lv [0, 1, 2, 3, 4, 5, 6, 7, 8, 9, 11] rfl ?_
        refine r_widen (k' := KE) (n' := NE) (by omega) (by omega) ?_
        exact hk464 a1 a2 v3 v4 v6 a8 a9 a10 v11 v12 t0 h
      · refine r_iload C 350 rfl 8 dL_law_348 rfl ?_
        refine r_bipush C (v := (6 : Int32)) 352 rfl dL_law_350 (by decide) ?_
        refine r_icmp_ge C 464 355 rfl dL_law_352 (by decide) h (fun h => ?_) (fun h => ?_)
        · refine r_lv [0, 1, 2, 3, 4, 5, 6, 7, 8, 9, 11] rfl ?_
          refine r_widen (k' := KE) (n' := NE) (by omega) (by omega) ?_
          exact hk464 a1 a2 v3 v4 v6 a8 a9 a10 v11 v12 t0 h
        · refine r_aload C (x := some a8) 357 rfl 5 dL_law_355 rfl ?_
          refine r_bipush C (v := (40 : Int32)) 359 rfl dL_law_357 (by decide) ?_
          refine r_iload C 361 rfl 9 dL_law_359 rfl ?_
          refine r_imul C 362 rfl dL_law_361 ?_
          refine r_iload C 364 rfl 10 dL_law_362 rfl ?_
          refine r_iadd C 365 rfl dL_law_364 ?_
          refine r_aaldS C 366 rfl dL_law_365 h (fun r74 h => ?_)
          refine r_aload_n C (x := some a1) 367 rfl 0 dL_law_366 rfl ?_
          refine r_iload C 369 rfl 9 dL_law_367 rfl ?_
          refine r_iload C 371 rfl 10 dL_law_369 rfl ?_
          replace h := jdr_some h
          obtain ⟨b75, hr, h⟩ := h
          rw [hr]
          refine r_callS C mm_L_91 st_yL_word 374 (kq + Nv1100000) (nq + Nv403800000) rfl rfl rfl dL_law_371 rfl rfl (As := [.ref a1, .int v12, .int v13]) rfl rfl (Nat.le_of_ble_eq_true rfl) ⟨Nat.le_of_ble_eq_true rfl, Nat.le_of_ble_eq_true rfl⟩ ⟨(by show kq + Nv1100000 ≤ 5300020000010000400036; unfold Nv1100000; omega), (by show nq + Nv403800000 ≤ 2415004092000060201202731; unfold Nv403800000; omega)⟩ (fun o t h => k_L_word l hst g _ _ _ _ o t h) h (fun w77 t76 h => ?_) (fun E t h => by cases h)
          replace h := jvA_some h
          obtain ⟨b78, rfl, h⟩ := h
          refine r_callS C mm_L_97 st_yL_areAlike 377 (kq + Nv1100000) (nq + Nv403800000) rfl rfl rfl dL_law_374 rfl rfl (As := [.ref b75, .ref b78]) rfl rfl (Nat.le_of_ble_eq_true rfl) ⟨Nat.le_of_ble_eq_true rfl, Nat.le_of_ble_eq_true rfl⟩ ⟨(by show kq + Nv1100000 ≤ 5300020000010000400036; unfold Nv1100000; omega), (by show nq + Nv403800000 ≤ 2415004092000060201202731; unfold Nv403800000; omega)⟩ (fun o t h => k_L_areAlike l hst g _ _ _ o t h) h (fun w80 t79 h => ?_) (fun E t h => by cases h)
          replace h := jvI_some h
          obtain ⟨x81, rfl, h⟩ := h
          refine r_istore C 379 rfl [(14, .int x81), (1, .ref a1), (2, .ref a2), (3, .int v3), (4, .int v4), (6, .int v6), (8, .ref a8), (9, .ref a9), (10, .ref a10), (11, .int v11), (12, .int v12), (13, .int v13), (0, .ref (gSa g))] dL_law_377 (by decide) rfl ?_
          refine r_aload_n C (x := some a1) 380 rfl 1 dL_law_379 rfl ?_
          refine r_iconst C (v := (0 : Int32)) 381 rfl dL_law_380 (by decide) ?_
          refine r_iload C 383 rfl 10 dL_law_381 rfl ?_
          refine r_iload C 385 rfl 11 dL_law_383 rfl ?_
          refine r_callV C (ci := 5) mm_L_142 im_yX5_markOf se_yX5_markOf rfl 388 (kq + Nv1100000 + 2) (nq + Nv403800000 + 12) rfl rfl rfl dL_law_385 rfl rfl (As := [.int ((0 : Int32)), .int v12, .int v13]) rfl rfl (Nat.le_of_ble_eq_true rfl) ⟨Nat.le_of_ble_eq_true rfl, Nat.le_of_ble_eq_true rfl⟩ ⟨(by show kq + Nv1100000 + 2 ≤ 5300020000010000400036; unfold Nv1100000; omega), (by show nq + Nv403800000 + 12 ≤ 2415004092000060201202731; unfold Nv403800000; omega)⟩ (fun o t h => k_X5_markOf l hst g _ _ _ _ _ o t h) h (fun w83 t82 h => ?_) (fun E t h => by cases h)
          replace h := jvI_some h
          obtain ⟨x84, rfl, h⟩ := h
          refine r_iload C 390 rfl 0 dL_law_388 rfl ?_
          obtain ⟨j411, hj411E, h⟩ := jj_some h
          have hj411 : ∀ (x85 : Int32) (t86 : Hp), j411 x85 t86 = some (.inl (some (.int 1)), τ) → jW p l e jRoom s m args below meth c g (Q) (kq + Nv1100000 + 2) (nq + Nv403800000 + 12) 411 [(0, .ref (gSa g)), (1, .ref a1), (2, .ref a2), (3, .int v3), (6, .int v6), (8, .ref a8), (9, .ref a9), (10, .ref a10), (11, .int v11), (12, .int v12), (13, .int v13), (14, .int x81)] [.int x85, .int x84] t86 := by
            subst hj411E
            intro x85 t86 h
            obtain ⟨j456, hj456E, h⟩ := jj_some h
            have hj456 : ∀ (x87 : Int32) (t88 : Hp), j456 x87 t88 = some (.inl (some (.int 1)), τ) → jW p l e jRoom s m args below meth c g (Q) (kq + Nv1100000 + 2 + 2) (nq + Nv403800000 + 12 + 12) 456 [(0, .ref (gSa g)), (1, .ref a1), (2, .ref a2), (3, .int v3), (6, .int v6), (8, .ref a8), (9, .ref a9), (10, .ref a10), (11, .int v11), (12, .int v12), (13, .int v13)] [.int x87] t88 := by
              subst hj456E
              intro x87 t88 h
              refine r_istore C 458 rfl [(4, .int x87), (0, .ref (gSa g)), (1, .ref a1), (2, .ref a2), (3, .int v3), (6, .int v6), (8, .ref a8), (9, .ref a9), (10, .ref a10), (11, .int v11), (12, .int v12), (13, .int v13)] dL_law_456 (by decide) rfl ?_
              refine r_iinc C (v := v13 + 1) 461 rfl 11 [(13, .int (v13 + 1)), (4, .int x87), (0, .ref (gSa g)), (1, .ref a1), (2, .ref a2), (3, .int v3), (6, .int v6), (8, .ref a8), (9, .ref a9), (10, .ref a10), (11, .int v11), (12, .int v12)] dL_law_458 rfl rfl (by decide) rfl ?_
              refine r_goto C 333 dL_law_461 (by decide) ?_
              refine r_lv [3, 4, 5, 1, 6, 7, 8, 9, 10, 11, 0, 2] rfl ?_
              exact ih a1 a2 v3 x87 v6 a8 a9 a10 v11 v12 (v13 + 1) t88 (kq + Nv1100000 + 2 + 2) (nq + Nv403800000 + 12 + 12) (by unfold Nv1100000; omega) (by unfold Nv403800000; omega) h
            clear hj456E
            obtain ⟨j455, hj455E, h⟩ := jj_some h
            have hj455 : ∀ (t89 : Hp), j455 t89 = some (.inl (some (.int 1)), τ) → jW p l e jRoom s m args below meth c g (Q) (kq + Nv1100000 + 2 + 2) (nq + Nv403800000 + 12 + 12) 455 [(0, .ref (gSa g)), (1, .ref a1), (2, .ref a2), (3, .int v3), (6, .int v6), (8, .ref a8), (9, .ref a9), (10, .ref a10), (11, .int v11), (12, .int v12), (13, .int v13)] [] t89 := by
              subst hj455E
              intro t89 h
              refine r_iconst C (v := (0 : Int32)) 456 rfl dL_law_455 (by decide) ?_
              exact hj456 ((0 : Int32)) t89 h
            clear hj455E
            refine r_icmp_ne C 455 414 rfl dL_law_411 (by decide) h (fun h => ?_) (fun h => ?_)
            · refine r_lv [0, 1, 2, 3, 4, 5, 6, 7, 8, 9, 10] rfl ?_
              refine r_widen (k' := kq + Nv1100000 + 2 + 2) (n' := nq + Nv403800000 + 12 + 12) (by unfold Nv1100000; omega) (by unfold Nv403800000; omega) ?_
              exact hj455 t86 h
            · refine r_aload_n C (x := some a1) 415 rfl 1 dL_law_414 rfl ?_
              refine r_iconst C (v := (1 : Int32)) 416 rfl dL_law_415 (by decide) ?_
              refine r_iload C 418 rfl 9 dL_law_416 rfl ?_
              refine r_iload C 420 rfl 10 dL_law_418 rfl ?_
              refine r_callV C (ci := 5) mm_L_142 im_yX5_markOf se_yX5_markOf rfl 423 (kq + Nv1100000 + 2 + 2) (nq + Nv403800000 + 12 + 12) rfl rfl rfl dL_law_420 rfl rfl (As := [.int ((1 : Int32)), .int v12, .int v13]) rfl rfl (Nat.le_of_ble_eq_true rfl) ⟨Nat.le_of_ble_eq_true rfl, Nat.le_of_ble_eq_true rfl⟩ ⟨(by show kq + Nv1100000 + 2 + 2 ≤ 5300020000010000400036; unfold Nv1100000; omega), (by show nq + Nv403800000 + 12 + 12 ≤ 2415004092000060201202731; unfold Nv403800000; omega)⟩ (fun o t h => k_X5_markOf l hst g _ _ _ _ _ o t h) h (fun w91 t90 h => ?_) (fun E t h => by cases h)
              replace h := jvI_some h
              obtain ⟨x92, rfl, h⟩ := h
              refine r_iload C 425 rfl 11 dL_law_423 rfl ?_
              obtain ⟨j448, hj448E, h⟩ := jj_some h
              have hj448 : ∀ (x93 : Int32) (t94 : Hp), j448 x93 t94 = some (.inl (some (.int 1)), τ) → jW p l e jRoom s m args below meth c g (Q) (kq + Nv1100000 + 2 + 2) (nq + Nv403800000 + 12 + 12) 448 [(0, .ref (gSa g)), (1, .ref a1), (2, .ref a2), (3, .int v3), (6, .int v6), (8, .ref a8), (9, .ref a9), (10, .ref a10), (11, .int v11), (12, .int v12), (13, .int v13)] [.int x93, .int x92] t94 := by
                subst hj448E
                intro x93 t94 h
                refine r_icmp_ne C 455 451 rfl dL_law_448 (by decide) h (fun h => ?_) (fun h => ?_)
                · exact hj455 t94 h
                · refine r_iconst C (v := (1 : Int32)) 452 rfl dL_law_451 (by decide) ?_
                  refine r_goto C 456 dL_law_452 (by decide) ?_
                  exact hj456 ((1 : Int32)) t94 h
              clear hj448E
              refine r_if_eq C 446 428 rfl dL_law_425 (by decide) h (fun h => ?_) (fun h => ?_)
              · refine r_bipush C (v := (45 : Int32)) 448 rfl dL_law_446 (by decide) ?_
                refine r_lv [0, 1, 2, 3, 4, 5, 6, 7, 8, 9, 10] rfl ?_
                exact hj448 ((45 : Int32)) t90 h
              · refine r_aload C (x := some a9) 430 rfl 6 dL_law_428 rfl ?_
                refine r_bipush C (v := (80 : Int32)) 432 rfl dL_law_430 (by decide) ?_
                refine r_iload C 434 rfl 9 dL_law_432 rfl ?_
                refine r_imul C 435 rfl dL_law_434 ?_
                refine r_iconst C (v := (2 : Int32)) 436 rfl dL_law_435 (by decide) ?_
                refine r_iload C 438 rfl 10 dL_law_436 rfl ?_
                refine r_imul C 439 rfl dL_law_438 ?_
                refine r_iadd C 440 rfl dL_law_439 ?_
                refine r_iconst C (v := (1 : Int32)) 441 rfl dL_law_440 (by decide) ?_
                refine r_iadd C 442 rfl dL_law_441 ?_
                refine r_cald C 443 rfl dL_law_442 h (fun x95 h => ?_)
                refine r_goto C 448 dL_law_443 (by decide) ?_
                refine r_lv [0, 1, 2, 3, 4, 5, 6, 7, 8, 9, 10] rfl ?_
                exact hj448 x95 t90 h
          clear hj411E
          refine r_if_eq C 409 393 rfl dL_law_390 (by decide) h (fun h => ?_) (fun h => ?_)
          · refine r_bipush C (v := (45 : Int32)) 411 rfl dL_law_409 (by decide) ?_
            refine r_lv [12, 1, 2, 3, 5, 6, 7, 8, 9, 10, 11, 0] rfl ?_
            exact hj411 ((45 : Int32)) t82 h
          · refine r_aload C (x := some a9) 395 rfl 7 dL_law_393 rfl ?_
            refine r_bipush C (v := (80 : Int32)) 397 rfl dL_law_395 (by decide) ?_
            refine r_iload C 399 rfl 10 dL_law_397 rfl ?_
            refine r_imul C 400 rfl dL_law_399 ?_
            refine r_iconst C (v := (2 : Int32)) 401 rfl dL_law_400 (by decide) ?_
            refine r_iload C 403 rfl 11 dL_law_401 rfl ?_
            refine r_imul C 404 rfl dL_law_403 ?_
            refine r_iadd C 405 rfl dL_law_404 ?_
            refine r_cald C 406 rfl dL_law_405 h (fun x96 h => ?_)
            refine r_goto C 411 dL_law_406 (by decide) ?_
            refine r_lv [12, 1, 2, 3, 5, 6, 7, 8, 9, 10, 11, 0] rfl ?_
            exact hj411 x96 t82 h
set_option maxHeartbeats 4000000 in
set_option maxRecDepth 100000 in
theorem w_L_law_L309 (l : Launch) (hst : l.stackTraces = false) {p : Program} {e : Env} {s : State} {m : MethodId} {args : Array Value} {below : List Frame} {meth : Method} {c : Code} {g : jG} {Q : State → Prop} {τ : Hp}  (C : jC p l s m args meth c g RL cL_law 15 (some FieldType.boolean))  {KE NE : Nat} (hKE : KE ≤ 5300020000010000400036) (hNE : NE ≤ 2415004092000060201202731) (k470 : Nat → Nat → Int32 → Int32 → Int32 → Hp → jR) (hk470 : ∀ (a1x : Nat) (a2x : Nat) (v3x : Int32) (v4x : Int32) (v6x : Int32) (tx : Hp), k470 a1x a2x v3x v4x v6x tx = some (.inl (some (.int 1)), τ) → jW p l e jRoom s m args below meth c g (Q) KE NE 470 [(1, .ref a1x), (2, .ref a2x), (3, .int v3x), (4, .int v4x), (6, .int v6x), (0, .ref (gSa g))] [] tx) : ∀ (n : Nat) (a1 : Nat) (a2 : Nat) (v3 : Int32) (v4 : Int32) (v6 : Int32) (a8 : Nat) (a9 : Nat) (a10 : Nat) (v11 : Int32) (v12 : Int32) (t0 : Hp) (kq nq : Nat), kq + Kc 420001600000 n ≤ KE → nq + Kc 201120406800000 n ≤ NE → J_L_law_L309 g  k470 n a1 a2 v3 v4 v6 a8 a9 a10 v11 v12 t0 = some (.inl (some (.int 1)), τ) → jW p l e jRoom s m args below meth c g (Q) kq nq 309 [(1, .ref a1), (2, .ref a2), (3, .int v3), (4, .int v4), (6, .int v6), (8, .ref a8), (9, .ref a9), (10, .ref a10), (11, .int v11), (12, .int v12), (0, .ref (gSa g))] [] t0 := by
  intro n
  induction n with
  | zero => intro a1 a2 v3 v4 v6 a8 a9 a10 v11 v12 t0 kq nq _ _ h; cases h
  | succ n ih =>
    intro a1 a2 v3 v4 v6 a8 a9 a10 v11 v12 t0 kq nq hkq hnq h
    rw [Kc_t] at hkq hnq
    have h : J_L_law_L309b g  k470 (J_L_law_L309 g  k470 n) a1 a2 v3 v4 v6 a8 a9 a10 v11 v12 t0 = some (.inl (some (.int 1)), τ) := h
    unfold J_L_law_L309b at h
    refine r_iload C 311 rfl 9 dL_law_309 rfl ?_
    refine r_iload_n C 312 rfl 2 dL_law_311 rfl ?_
    refine r_icmp_ge C 470 315 rfl dL_law_312 (by decide) h (fun h => ?_) (fun h => ?_)
    · refine r_lv [0, 1, 2, 3, 4, 10] rfl ?_
      refine r_widen (k' := KE) (n' := NE) (by omega) (by omega) ?_
      exact hk470 a1 a2 v3 v4 v6 t0 h
    · refine r_iload C 317 rfl 3 dL_law_315 rfl ?_
      refine r_if_eq C 470 320 rfl dL_law_317 (by decide) h (fun h => ?_) (fun h => ?_)
      · refine r_lv [0, 1, 2, 3, 4, 10] rfl ?_
        refine r_widen (k' := KE) (n' := NE) (by omega) (by omega) ?_
        exact hk470 a1 a2 v3 v4 v6 t0 h
      · refine r_aload_n C (x := some a1) 321 rfl 0 dL_law_320 rfl ?_
        refine r_iload C 323 rfl 9 dL_law_321 rfl ?_
        refine r_bipush C (v := (40 : Int32)) 325 rfl dL_law_323 (by decide) ?_
        refine r_callS C mm_L_164 st_yL_isSet 328 (kq + Nv310001200000) (nq + Nv160740404400000) rfl rfl rfl dL_law_325 rfl rfl (As := [.ref a1, .int v12, .int ((40 : Int32))]) rfl rfl (Nat.le_of_ble_eq_true rfl) ⟨Nat.le_of_ble_eq_true rfl, Nat.le_of_ble_eq_true rfl⟩ ⟨(by show kq + Nv310001200000 ≤ 5300020000010000400036; unfold Nv310001200000; omega), (by show nq + Nv160740404400000 ≤ 2415004092000060201202731; unfold Nv160740404400000; omega)⟩ (fun o t h => k_L_isSet l hst g _ _ _ _ o t h) h (fun w71 t70 h => ?_) (fun E t h => by cases h)
        replace h := jvI_some h
        obtain ⟨x72, rfl, h⟩ := h
        refine r_istore C 330 rfl [(4, .int x72), (1, .ref a1), (2, .ref a2), (3, .int v3), (6, .int v6), (8, .ref a8), (9, .ref a9), (10, .ref a10), (11, .int v11), (12, .int v12), (0, .ref (gSa g))] dL_law_328 (by decide) rfl ?_
        refine r_iconst C (v := (0 : Int32)) 331 rfl dL_law_330 (by decide) ?_
        refine r_istore C 333 rfl [(13, .int ((0 : Int32))), (4, .int x72), (1, .ref a1), (2, .ref a2), (3, .int v3), (6, .int v6), (8, .ref a8), (9, .ref a9), (10, .ref a10), (11, .int v11), (12, .int v12), (0, .ref (gSa g))] dL_law_331 (by decide) rfl ?_
        refine r_lv [2, 3, 4, 1, 5, 6, 7, 8, 9, 10, 0, 11] rfl ?_
        refine w_L_law_L333 l hst  C (KE := kq + Nv310001200000 + Nv110000400000) (NE := nq + Nv160740404400000 + Nv40380002400000) (by show kq + Nv310001200000 + Nv110000400000 ≤ 5300020000010000400036; unfold Nv110000400000 Nv310001200000; omega) (by show nq + Nv160740404400000 + Nv40380002400000 ≤ 2415004092000060201202731; unfold Nv160740404400000 Nv40380002400000; omega) _ (fun x97 x98 x99 x100 x101 x102 x103 x104 x105 x106 t107 h => ?_) jN a1 a2 v3 x72 v6 a8 a9 a10 v11 v12 ((0 : Int32)) t70 (kq + Nv310001200000) (nq + Nv160740404400000) (by rw [show Kc 1100004 jN = 110000400000 from by decide +kernel]; unfold Nv110000400000 Nv310001200000; omega) (by rw [show Kc 403800024 jN = 40380002400000 from by decide +kernel]; unfold Nv160740404400000 Nv40380002400000; omega) h
        refine r_iinc C (v := x106 + 1) 467 rfl 9 [(12, .int (x106 + 1)), (1, .ref x97), (2, .ref x98), (3, .int x99), (4, .int x100), (6, .int x101), (8, .ref x102), (9, .ref x103), (10, .ref x104), (11, .int x105), (0, .ref (gSa g))] dL_law_464 rfl rfl (by decide) rfl ?_
        refine r_goto C 309 dL_law_467 (by decide) ?_
        refine r_lv [1, 2, 3, 4, 5, 6, 7, 8, 9, 0, 10] rfl ?_
        exact ih x97 x98 x99 x100 x101 x102 x103 x104 x105 (x106 + 1) t107 (kq + Nv310001200000 + Nv110000400000) (nq + Nv160740404400000 + Nv40380002400000) (by unfold Nv110000400000 Nv310001200000; omega) (by unfold Nv160740404400000 Nv40380002400000; omega) h
set_option maxHeartbeats 4000000 in
set_option maxRecDepth 100000 in
theorem w_L_law_L65 (l : Launch) (hst : l.stackTraces = false) {p : Program} {e : Env} {s : State} {m : MethodId} {args : Array Value} {below : List Frame} {meth : Method} {c : Code} {g : jG} {Q : State → Prop} {τ : Hp}  (C : jC p l s m args meth c g RL cL_law 15 (some FieldType.boolean))  {KE NE : Nat} (hKE : KE ≤ 5300020000010000400036) (hNE : NE ≤ 2415004092000060201202731) (k476 : Nat → Int32 → Hp → jR) (hk476 : ∀ (a1x : Nat) (v4x : Int32) (tx : Hp), k476 a1x v4x tx = some (.inl (some (.int 1)), τ) → jW p l e jRoom s m args below meth c g (Q) KE NE 476 [(1, .ref a1x), (4, .int v4x)] [] tx) : ∀ (n : Nat) (a1 : Nat) (a2 : Nat) (v3 : Int32) (v4 : Int32) (v6 : Int32) (t0 : Hp) (kq nq : Nat), kq + Kc 53000200000100004 n ≤ KE → nq + Kc 24150040920000602012 n ≤ NE → J_L_law_L65 g  k476 n a1 a2 v3 v4 v6 t0 = some (.inl (some (.int 1)), τ) → jW p l e jRoom s m args below meth c g (Q) kq nq 65 [(1, .ref a1), (2, .ref a2), (3, .int v3), (4, .int v4), (6, .int v6), (0, .ref (gSa g))] [] t0 := by
  intro n
  induction n with
  | zero => intro a1 a2 v3 v4 v6 t0 kq nq _ _ h; cases h
  | succ n ih =>
    intro a1 a2 v3 v4 v6 t0 kq nq hkq hnq h
    rw [Kc_t] at hkq hnq
    have h : J_L_law_L65b g  k476 (J_L_law_L65 g  k476 n) a1 a2 v3 v4 v6 t0 = some (.inl (some (.int 1)), τ) := h
    unfold J_L_law_L65b at h
    refine r_iload C 67 rfl 4 dL_law_65 rfl ?_
    refine r_bipush C (v := (40 : Int32)) 69 rfl dL_law_67 (by decide) ?_
    refine r_icmp_ge C 476 72 rfl dL_law_69 (by decide) h (fun h => ?_) (fun h => ?_)
    · refine r_lv [0, 3] rfl ?_
      refine r_widen (k' := KE) (n' := NE) (by omega) (by omega) ?_
      exact hk476 a1 v4 t0 h
    · refine r_iload C 74 rfl 3 dL_law_72 rfl ?_
      refine r_if_eq C 476 77 rfl dL_law_74 (by decide) h (fun h => ?_) (fun h => ?_)
      · refine r_lv [0, 3] rfl ?_
        refine r_widen (k' := KE) (n' := NE) (by omega) (by omega) ?_
        exact hk476 a1 v4 t0 h
      · refine r_aload_n C (x := some (gSa g)) 78 rfl 5 dL_law_77 rfl ?_
        refine r_iconst C (v := (1 : Int32)) 79 rfl dL_law_78 (by decide) ?_
        refine r_iload C 81 rfl 4 dL_law_79 rfl ?_
        refine r_iadd C 82 rfl dL_law_81 ?_
        refine r_callS C mm_L_153 st_yL_cell 85 kq nq rfl rfl rfl dL_law_82 rfl rfl (As := [.ref (gSa g), .int (((1 : Int32)) + v6)]) rfl rfl (Nat.le_of_ble_eq_true rfl) ⟨Nat.le_of_ble_eq_true rfl, Nat.le_of_ble_eq_true rfl⟩ ⟨(by show kq ≤ 5300020000010000400036; omega), (by show nq ≤ 2415004092000060201202731; omega)⟩ (fun o t h => k_L_cell l hst g _ _ o t h) h (fun w19 t18 h => ?_) (fun E t h => by cases h)
        replace h := jvI_some h
        obtain ⟨x20, rfl, h⟩ := h
        refine r_istore C 87 rfl [(7, .int x20), (1, .ref a1), (2, .ref a2), (3, .int v3), (4, .int v4), (6, .int v6), (0, .ref (gSa g))] dL_law_85 (by decide) rfl ?_
        refine r_iload_n C 88 rfl 3 dL_law_87 rfl ?_
        refine r_bipush C (v := (6 : Int32)) 90 rfl dL_law_88 (by decide) ?_
        obtain ⟨j154, hj154E, h⟩ := jj_some h
        have hj154 : ∀ (t21 : Hp), j154 t21 = some (.inl (some (.int 1)), τ) → jW p l e jRoom s m args below meth c g (Q) kq nq 154 [(0, .ref (gSa g)), (1, .ref a1), (2, .ref a2), (3, .int v3), (6, .int v6), (7, .int x20)] [] t21 := by
          subst hj154E
          intro t21 h
          refine r_iload_n C 155 rfl 3 dL_law_154 rfl ?_
          refine r_bipush C (v := (40 : Int32)) 157 rfl dL_law_155 (by decide) ?_
          refine r_imul C 158 rfl dL_law_157 ?_
          refine r_newS C 161 rfl cl_L_24 dL_law_158 (by decide) (by show kq + 1 ≤ 5300020000010000400036; omega) (by show nq + 1000 ≤ 2415004092000060201202731; omega) h (fun b22 t23 h => ?_)
          refine r_astore C (x := some b22) 163 rfl [(8, .ref b22), (0, .ref (gSa g)), (1, .ref a1), (2, .ref a2), (3, .int v3), (6, .int v6), (7, .int x20)] dL_law_161 (by decide) rfl ?_
          refine r_iload_n C 164 rfl 4 dL_law_163 rfl ?_
          refine r_bipush C (v := (80 : Int32)) 166 rfl dL_law_164 (by decide) ?_
          refine r_imul C 167 rfl dL_law_166 ?_
          refine r_newC C 169 rfl ac_char dL_law_167 (by decide) (by show kq + 1 + 1 ≤ 5300020000010000400036; omega) (by show nq + 1000 + 1000 ≤ 2415004092000060201202731; omega) h (fun b24 t25 h => ?_)
          refine r_astore C (x := some b24) 171 rfl [(9, .ref b24), (8, .ref b22), (0, .ref (gSa g)), (1, .ref a1), (2, .ref a2), (3, .int v3), (6, .int v6), (7, .int x20)] dL_law_169 (by decide) rfl ?_
          refine r_bipush C (v := (6 : Int32)) 173 rfl dL_law_171 (by decide) ?_
          refine r_newI C 175 rfl ac_int dL_law_173 (by decide) (by show kq + 1 + 1 + 1 ≤ 5300020000010000400036; omega) (by show nq + 1000 + 1000 + 6 ≤ 2415004092000060201202731; omega) h (fun b26 t27 h => ?_)
          refine r_astore C (x := some b26) 177 rfl [(10, .ref b26), (9, .ref b24), (8, .ref b22), (0, .ref (gSa g)), (1, .ref a1), (2, .ref a2), (3, .int v3), (6, .int v6), (7, .int x20)] dL_law_175 (by decide) rfl ?_
          refine r_iconst C (v := (0 : Int32)) 178 rfl dL_law_177 (by decide) ?_
          refine r_istore C 180 rfl [(11, .int ((0 : Int32))), (10, .ref b26), (9, .ref b24), (8, .ref b22), (0, .ref (gSa g)), (1, .ref a1), (2, .ref a2), (3, .int v3), (6, .int v6), (7, .int x20)] dL_law_178 (by decide) rfl ?_
          refine r_lv [5, 6, 7, 8, 9, 3, 2, 1, 0, 4] rfl ?_
          refine w_L_law_L180 l hst  C (KE := kq + 1 + 1 + 1 + Nv11000040000100000) (NE := nq + 1000 + 1000 + 6 + Nv4038000240000600000) (by show kq + 1 + 1 + 1 + Nv11000040000100000 ≤ 5300020000010000400036; unfold Nv11000040000100000; omega) (by show nq + 1000 + 1000 + 6 + Nv4038000240000600000 ≤ 2415004092000060201202731; unfold Nv4038000240000600000; omega) _ (fun x55 x56 x57 x58 x59 x60 x61 x62 t63 h => ?_) jN a1 a2 v3 v6 x20 b22 b24 b26 ((0 : Int32)) t27 (kq + 1 + 1 + 1) (nq + 1000 + 1000 + 6) (by rw [show Kc 110000400001 jN = 11000040000100000 from by decide +kernel]; unfold Nv11000040000100000; omega) (by rw [show Kc 40380002400006 jN = 4038000240000600000 from by decide +kernel]; unfold Nv4038000240000600000; omega) h
          refine r_aload_n C (x := some x55) 288 rfl 0 dL_law_287 rfl ?_
          refine r_iload C 290 rfl 4 dL_law_288 rfl ?_
          refine r_iload_n C 291 rfl 2 dL_law_290 rfl ?_
          refine r_aload_n C (x := some x56) 292 rfl 1 dL_law_291 rfl ?_
          refine r_callS C mm_L_160 st_yL_acts 295 (kq + 1 + 1 + 1 + Nv11000040000100000 + 1) (nq + 1000 + 1000 + 6 + Nv4038000240000600000 + 6) rfl rfl rfl dL_law_292 rfl rfl (As := [.ref x55, .int x59, .int x57, .ref x56]) rfl rfl (Nat.le_of_ble_eq_true rfl) ⟨Nat.le_of_ble_eq_true rfl, Nat.le_of_ble_eq_true rfl⟩ ⟨(by show kq + 1 + 1 + 1 + Nv11000040000100000 + 1 ≤ 5300020000010000400036; unfold Nv11000040000100000; omega), (by show nq + 1000 + 1000 + 6 + Nv4038000240000600000 + 6 ≤ 2415004092000060201202731; unfold Nv4038000240000600000; omega)⟩ (fun o t h => k_L_acts l hst g _ _ _ _ _ o t h) h (fun w65 t64 h => ?_) (fun E t h => by cases h)
          replace h := jvI_some h
          obtain ⟨x66, rfl, h⟩ := h
          refine r_istore C 297 rfl [(4, .int x66), (1, .ref x55), (2, .ref x56), (3, .int x57), (6, .int x58), (7, .int x59), (8, .ref x60), (9, .ref x61), (10, .ref x62), (0, .ref (gSa g))] dL_law_295 (by decide) rfl ?_
          refine r_iload C 299 rfl 5 dL_law_297 rfl ?_
          refine r_bipush C (v := (14 : Int32)) 301 rfl dL_law_299 (by decide) ?_
          refine r_callS C mm_L_15 st_yL_low 304 (kq + 1 + 1 + 1 + Nv11000040000100000 + 1) (nq + 1000 + 1000 + 6 + Nv4038000240000600000 + 6) rfl rfl rfl dL_law_301 rfl rfl (As := [.int x59, .int ((14 : Int32))]) rfl rfl (Nat.le_of_ble_eq_true rfl) ⟨Nat.le_of_ble_eq_true rfl, Nat.le_of_ble_eq_true rfl⟩ ⟨(by show kq + 1 + 1 + 1 + Nv11000040000100000 + 1 ≤ 5300020000010000400036; unfold Nv11000040000100000; omega), (by show nq + 1000 + 1000 + 6 + Nv4038000240000600000 + 6 ≤ 2415004092000060201202731; unfold Nv4038000240000600000; omega)⟩ (fun o t h => k_L_low l hst g _ _ _ o t h) h (fun w68 t67 h => ?_) (fun E t h => by cases h)
          replace h := jvI_some h
          obtain ⟨x69, rfl, h⟩ := h
          refine r_istore C 306 rfl [(11, .int x69), (4, .int x66), (1, .ref x55), (2, .ref x56), (3, .int x57), (6, .int x58), (7, .int x59), (8, .ref x60), (9, .ref x61), (10, .ref x62), (0, .ref (gSa g))] dL_law_304 (by decide) rfl ?_
          refine r_iconst C (v := (0 : Int32)) 307 rfl dL_law_306 (by decide) ?_
          refine r_istore C 309 rfl [(12, .int ((0 : Int32))), (11, .int x69), (4, .int x66), (1, .ref x55), (2, .ref x56), (3, .int x57), (6, .int x58), (7, .int x59), (8, .ref x60), (9, .ref x61), (10, .ref x62), (0, .ref (gSa g))] dL_law_307 (by decide) rfl ?_
          refine r_lv [3, 4, 5, 2, 6, 8, 9, 10, 1, 0, 11] rfl ?_
          refine w_L_law_L309 l hst  C (KE := kq + 1 + 1 + 1 + Nv11000040000100000 + 1 + Nv42000160000000000) (NE := nq + 1000 + 1000 + 6 + Nv4038000240000600000 + 6 + Nv20112040680000000000) (by show kq + 1 + 1 + 1 + Nv11000040000100000 + 1 + Nv42000160000000000 ≤ 5300020000010000400036; unfold Nv11000040000100000 Nv42000160000000000; omega) (by show nq + 1000 + 1000 + 6 + Nv4038000240000600000 + 6 + Nv20112040680000000000 ≤ 2415004092000060201202731; unfold Nv20112040680000000000 Nv4038000240000600000; omega) _ (fun x108 x109 x110 x111 x112 t113 h => ?_) jN x55 x56 x57 x66 x58 x60 x61 x62 x69 ((0 : Int32)) t67 (kq + 1 + 1 + 1 + Nv11000040000100000 + 1) (nq + 1000 + 1000 + 6 + Nv4038000240000600000 + 6) (by rw [show Kc 420001600000 jN = 42000160000000000 from by decide +kernel]; unfold Nv11000040000100000 Nv42000160000000000; omega) (by rw [show Kc 201120406800000 jN = 20112040680000000000 from by decide +kernel]; unfold Nv20112040680000000000 Nv4038000240000600000; omega) h
          refine r_iinc C (v := x112 + 1) 473 rfl 4 [(6, .int (x112 + 1)), (1, .ref x108), (2, .ref x109), (3, .int x110), (4, .int x111), (0, .ref (gSa g))] dL_law_470 rfl rfl (by decide) rfl ?_
          refine r_goto C 65 dL_law_473 (by decide) ?_
          refine r_lv [1, 2, 3, 4, 0, 5] rfl ?_
          exact ih x108 x109 x110 x111 (x112 + 1) t113 (kq + 1 + 1 + 1 + Nv11000040000100000 + 1 + Nv42000160000000000) (nq + 1000 + 1000 + 6 + Nv4038000240000600000 + 6 + Nv20112040680000000000) (by unfold Nv11000040000100000 Nv42000160000000000; omega) (by unfold Nv20112040680000000000 Nv4038000240000600000; omega) h
        clear hj154E
        refine r_icmp_ge C 154 93 rfl dL_law_90 (by decide) h (fun h => ?_) (fun h => ?_)
        · refine r_lv [6, 1, 2, 3, 5, 0] rfl ?_
          exact hj154 t18 h
        · refine r_iload C 95 rfl 0 dL_law_93 rfl ?_
          refine r_bipush C (v := (18 : Int32)) 97 rfl dL_law_95 (by decide) ?_
          refine r_ishr C 98 rfl dL_law_97 ?_
          refine r_bipush C (v := (6 : Int32)) 100 rfl dL_law_98 (by decide) ?_
          refine r_callS C mm_L_15 st_yL_low 103 kq nq rfl rfl rfl dL_law_100 rfl rfl (As := [.int (x20 >>> (((18 : Int32)) &&& 31)), .int ((6 : Int32))]) rfl rfl (Nat.le_of_ble_eq_true rfl) ⟨Nat.le_of_ble_eq_true rfl, Nat.le_of_ble_eq_true rfl⟩ ⟨(by show kq ≤ 5300020000010000400036; omega), (by show nq ≤ 2415004092000060201202731; omega)⟩ (fun o t h => k_L_low l hst g _ _ _ o t h) h (fun w115 t114 h => ?_) (fun E t h => by cases h)
          replace h := jvI_some h
          obtain ⟨x116, rfl, h⟩ := h
          refine r_if_ne C 154 106 rfl dL_law_103 (by decide) h (fun h => ?_) (fun h => ?_)
          · refine r_lv [6, 1, 2, 3, 5, 0] rfl ?_
            exact hj154 t114 h
          · refine r_aload_n C (x := some a1) 107 rfl 1 dL_law_106 rfl ?_
            refine r_iload C 109 rfl 0 dL_law_107 rfl ?_
            refine r_iconst C (v := (3 : Int32)) 110 rfl dL_law_109 (by decide) ?_
            refine r_ishr C 111 rfl dL_law_110 ?_
            refine r_bipush C (v := (60 : Int32)) 113 rfl dL_law_111 (by decide) ?_
            refine r_iconst C (v := (1 : Int32)) 114 rfl dL_law_113 (by decide) ?_
            refine r_callS C mm_L_115 st_yL_types 117 (kq + Nv100000) (nq + Nv600000) rfl rfl rfl dL_law_114 rfl rfl (As := [.ref a1, .int (x20 >>> (((3 : Int32)) &&& 31)), .int ((60 : Int32)), .int ((1 : Int32))]) rfl rfl (Nat.le_of_ble_eq_true rfl) ⟨Nat.le_of_ble_eq_true rfl, Nat.le_of_ble_eq_true rfl⟩ ⟨(by show kq + Nv100000 ≤ 5300020000010000400036; unfold Nv100000; omega), (by show nq + Nv600000 ≤ 2415004092000060201202731; unfold Nv600000; omega)⟩ (fun o t h => k_L_types l hst g _ _ _ _ _ o t h) h (fun w118 t117 h => ?_) (fun E t h => by cases h)
            replace h := jvV_some h
            obtain ⟨rfl, h⟩ := h
            refine r_aload_n C (x := some a1) 118 rfl 1 dL_law_117 rfl ?_
            refine r_iload_n C 119 rfl 3 dL_law_118 rfl ?_
            refine r_iconst C (v := (1 : Int32)) 120 rfl dL_law_119 (by decide) ?_
            refine r_iload C 122 rfl 0 dL_law_120 rfl ?_
            refine r_bipush C (v := (9 : Int32)) 124 rfl dL_law_122 (by decide) ?_
            refine r_ishr C 125 rfl dL_law_124 ?_
            refine r_iconst C (v := (2 : Int32)) 126 rfl dL_law_125 (by decide) ?_
            refine r_callS C mm_L_15 st_yL_low 129 (kq + Nv100000) (nq + Nv600000) rfl rfl rfl dL_law_126 rfl rfl (As := [.int (x20 >>> (((9 : Int32)) &&& 31)), .int ((2 : Int32))]) rfl rfl (Nat.le_of_ble_eq_true rfl) ⟨Nat.le_of_ble_eq_true rfl, Nat.le_of_ble_eq_true rfl⟩ ⟨(by show kq + Nv100000 ≤ 5300020000010000400036; unfold Nv100000; omega), (by show nq + Nv600000 ≤ 2415004092000060201202731; unfold Nv600000; omega)⟩ (fun o t h => k_L_low l hst g _ _ _ o t h) h (fun w120 t119 h => ?_) (fun E t h => by cases h)
            replace h := jvI_some h
            obtain ⟨x121, rfl, h⟩ := h
            refine r_iadd C 130 rfl dL_law_129 ?_
            refine r_callV C (ci := 5) mm_L_132 im_yX5_setText se_yX5_setText rfl 133 (kq + Nv100000 + 25) (nq + Nv600000 + 915) rfl rfl rfl dL_law_130 rfl rfl (As := [.int v3, .int (((1 : Int32)) + x121)]) rfl rfl (Nat.le_of_ble_eq_true rfl) ⟨Nat.le_of_ble_eq_true rfl, Nat.le_of_ble_eq_true rfl⟩ ⟨(by show kq + Nv100000 + 25 ≤ 5300020000010000400036; unfold Nv100000; omega), (by show nq + Nv600000 + 915 ≤ 2415004092000060201202731; unfold Nv600000; omega)⟩ (fun o t h => k_X5_setText l hst g _ _ _ _ o t h) h (fun w123 t122 h => ?_) (fun E t h => by cases h)
            replace h := jvI_some h
            obtain ⟨x124, rfl, h⟩ := h
            refine r_aload_n C (x := some a1) 134 rfl 1 dL_law_133 rfl ?_
            refine r_iload_n C 135 rfl 3 dL_law_134 rfl ?_
            refine r_callV C (ci := 5) mm_L_88 im_yX5_words se_yX5_words rfl 138 (kq + Nv100000 + 25 + 1) (nq + Nv600000 + 915 + 6) rfl rfl rfl dL_law_135 rfl rfl (As := [.int v3]) rfl rfl (Nat.le_of_ble_eq_true rfl) ⟨Nat.le_of_ble_eq_true rfl, Nat.le_of_ble_eq_true rfl⟩ ⟨(by show kq + Nv100000 + 25 + 1 ≤ 5300020000010000400036; unfold Nv100000; omega), (by show nq + Nv600000 + 915 + 6 ≤ 2415004092000060201202731; unfold Nv600000; omega)⟩ (fun o t h => k_X5_words l hst g _ _ _ o t h) h (fun w126 t125 h => ?_) (fun E t h => by cases h)
            replace h := jvI_some h
            obtain ⟨x127, rfl, h⟩ := h
            obtain ⟨j146, hj146E, h⟩ := jj_some h
            have hj146 : ∀ (x128 : Int32) (t129 : Hp), j146 x128 t129 = some (.inl (some (.int 1)), τ) → jW p l e jRoom s m args below meth c g (Q) (kq + Nv100000 + 25 + 1) (nq + Nv600000 + 915 + 6) 146 [(0, .ref (gSa g)), (1, .ref a1), (2, .ref a2), (3, .int v3), (6, .int v6)] [.int x128] t129 := by
              subst hj146E
              intro x128 t129 h
              refine r_istore C 148 rfl [(4, .int x128), (0, .ref (gSa g)), (1, .ref a1), (2, .ref a2), (3, .int v3), (6, .int v6)] dL_law_146 (by decide) rfl ?_
              refine r_iinc C (v := v3 + 1) 151 rfl 4 [(3, .int (v3 + 1)), (4, .int x128), (0, .ref (gSa g)), (1, .ref a1), (2, .ref a2), (6, .int v6)] dL_law_148 rfl rfl (by decide) rfl ?_
              refine r_goto C 470 dL_law_151 (by decide) ?_
              refine r_iinc C (v := v6 + 1) 473 rfl 5 [(6, .int (v6 + 1)), (3, .int (v3 + 1)), (4, .int x128), (0, .ref (gSa g)), (1, .ref a1), (2, .ref a2)] dL_law_470 rfl rfl (by decide) rfl ?_
              refine r_goto C 65 dL_law_473 (by decide) ?_
              refine r_lv [4, 5, 1, 2, 0, 3] rfl ?_
              exact ih a1 a2 (v3 + 1) x128 (v6 + 1) t129 (kq + Nv100000 + 25 + 1) (nq + Nv600000 + 915 + 6) (by unfold Nv100000; omega) (by unfold Nv600000; omega) h
            clear hj146E
            refine r_icmp_ne C 145 141 rfl dL_law_138 (by decide) h (fun h => ?_) (fun h => ?_)
            · refine r_iconst C (v := (0 : Int32)) 146 rfl dL_law_145 (by decide) ?_
              refine r_lv [6, 1, 2, 3, 5] rfl ?_
              exact hj146 ((0 : Int32)) t125 h
            · refine r_iconst C (v := (1 : Int32)) 142 rfl dL_law_141 (by decide) ?_
              refine r_goto C 146 dL_law_142 (by decide) ?_
              refine r_lv [6, 1, 2, 3, 5] rfl ?_
              exact hj146 ((1 : Int32)) t125 h
set_option maxHeartbeats 8000000 in
set_option maxRecDepth 100000 in
theorem w_L_law (l : Launch) (hst : l.stackTraces = false) {p : Program} {e : Env} {s : State} {m : MethodId} {args : Array Value} {below : List Frame} {meth : Method} {c : Code} {Q : State → Prop} {g : jG} {τ : Hp} (C : jC p l s m args meth c g RL cL_law 15 (some .boolean)) (hSA : (Cond.arrayOver (.array (.object RJ0))).before args s = true) (hend : ∀ (k n : Nat) (lv : List (Nat × Value)) (t : Hp), k ≤ 5300020000010000400036 → n ≤ 2415004092000060201202731 → some ((.inl (some (.int 1)), t) : jO × Hp) = some (.inl (some (.int 1)), τ) → jW p l e jRoom s m args below meth c g Q k n 493 lv [.int 1] t) (σ : Hp) (h : J_L_law g σ = some (.inl (some (.int 1)), τ)) : jW p l e jRoom s m args below meth c g (Q) 0 0 0 [(0, .ref (gSa g))] [] σ := by
  unfold J_L_law at h
  refine r_new C 3 rfl tyX5 (ci := 5) rfl tyX5_ok nw_X5 lay_X5 cl_L_10 ins_X5 ini_X5 dL_law_0 (Nat.le_of_ble_eq_true rfl) (Nat.le_of_ble_eq_true rfl) h (fun b1 t2 h => ?_)
  refine r_dup C 4 rfl dL_law_3 rfl ?_
  refine r_callI C (ci := 5) mm_L_150 im_yX5_init rfl 7 28 2119 rfl rfl rfl dL_law_4 rfl rfl (As := []) rfl rfl (Nat.le_of_ble_eq_true rfl) ⟨Nat.le_of_ble_eq_true rfl, Nat.le_of_ble_eq_true rfl⟩ ⟨(Nat.le_of_ble_eq_true rfl), (Nat.le_of_ble_eq_true rfl)⟩ (fun o t h => k_X5_init l hst g _ _ o t h) h (fun w4 t3 h => ?_) (fun E t h => by cases h)
  replace h := jvV_some h
  obtain ⟨rfl, h⟩ := h
  refine r_astore_n C (x := some b1) 8 rfl [(1, .ref b1), (0, .ref (gSa g))] dL_law_7 (by decide) rfl ?_
  refine r_bipush C (v := (6 : Int32)) 10 rfl dL_law_8 (by decide) ?_
  refine r_bipush C (v := (100 : Int32)) 12 rfl dL_law_10 (by decide) ?_
  refine r_multi C 16 rfl cl_L_151 hSA dL_law_12 (Nat.le_of_ble_eq_true rfl) (Nat.le_of_ble_eq_true rfl) h (fun b5 t6 h => ?_)
  refine r_astore_n C (x := some b5) 17 rfl [(2, .ref b5), (1, .ref b1), (0, .ref (gSa g))] dL_law_16 (by decide) rfl ?_
  refine r_iconst C (v := (0 : Int32)) 18 rfl dL_law_17 (by decide) ?_
  refine r_istore_n C 19 rfl [(3, .int ((0 : Int32))), (2, .ref b5), (1, .ref b1), (0, .ref (gSa g))] dL_law_18 (by decide) rfl ?_
  refine r_iconst C (v := (1 : Int32)) 20 rfl dL_law_19 (by decide) ?_
  refine r_istore C 22 rfl [(4, .int ((1 : Int32))), (3, .int ((0 : Int32))), (2, .ref b5), (1, .ref b1), (0, .ref (gSa g))] dL_law_20 (by decide) rfl ?_
  refine r_aload_n C (x := some b1) 23 rfl 3 dL_law_22 rfl ?_
  refine r_aload_n C (x := some (gSa g)) 24 rfl 4 dL_law_23 rfl ?_
  refine r_iconst C (v := (0 : Int32)) 25 rfl dL_law_24 (by decide) ?_
  refine r_callS C mm_L_153 st_yL_cell 28 35 2725 rfl rfl rfl dL_law_25 rfl rfl (As := [.ref (gSa g), .int ((0 : Int32))]) rfl rfl (Nat.le_of_ble_eq_true rfl) ⟨Nat.le_of_ble_eq_true rfl, Nat.le_of_ble_eq_true rfl⟩ ⟨(Nat.le_of_ble_eq_true rfl), (Nat.le_of_ble_eq_true rfl)⟩ (fun o t h => k_L_cell l hst g _ _ o t h) h (fun w8 t7 h => ?_) (fun E t h => by cases h)
  replace h := jvI_some h
  obtain ⟨x9, rfl, h⟩ := h
  refine r_iconst C (v := (3 : Int32)) 29 rfl dL_law_28 (by decide) ?_
  refine r_callS C mm_L_15 st_yL_low 32 35 2725 rfl rfl rfl dL_law_29 rfl rfl (As := [.int x9, .int ((3 : Int32))]) rfl rfl (Nat.le_of_ble_eq_true rfl) ⟨Nat.le_of_ble_eq_true rfl, Nat.le_of_ble_eq_true rfl⟩ ⟨(Nat.le_of_ble_eq_true rfl), (Nat.le_of_ble_eq_true rfl)⟩ (fun o t h => k_L_low l hst g _ _ _ o t h) h (fun w11 t10 h => ?_) (fun E t h => by cases h)
  replace h := jvI_some h
  obtain ⟨x12, rfl, h⟩ := h
  obtain ⟨j57, hj57E, h⟩ := jj_some h
  have hj57 : ∀ (x13 : Int32) (t14 : Hp), j57 x13 t14 = some (.inl (some (.int 1)), τ) → jW p l e jRoom s m args below meth c g (Q) 35 2725 57 [(0, .ref (gSa g)), (1, .ref b1), (2, .ref b5), (3, .int ((0 : Int32))), (4, .int ((1 : Int32)))] [.int x13, .ref b1] t14 := by
    subst hj57E
    intro x13 t14 h
    refine r_callV C (ci := 5) mm_L_157 im_yX5_setBearing se_yX5_setBearing rfl 60 36 2731 rfl rfl rfl dL_law_57 rfl rfl (As := [.int x13]) rfl rfl (Nat.le_of_ble_eq_true rfl) ⟨Nat.le_of_ble_eq_true rfl, Nat.le_of_ble_eq_true rfl⟩ ⟨(Nat.le_of_ble_eq_true rfl), (Nat.le_of_ble_eq_true rfl)⟩ (fun o t h => k_X5_setBearing l hst g _ _ _ o t h) h (fun w16 t15 h => ?_) (fun E t h => by cases h)
    replace h := jvI_some h
    obtain ⟨x17, rfl, h⟩ := h
    refine r_istore C 62 rfl [(5, .int x17), (0, .ref (gSa g)), (1, .ref b1), (2, .ref b5), (3, .int ((0 : Int32))), (4, .int ((1 : Int32)))] dL_law_60 (by decide) rfl ?_
    refine r_iconst C (v := (0 : Int32)) 63 rfl dL_law_62 (by decide) ?_
    refine r_istore C 65 rfl [(6, .int ((0 : Int32))), (5, .int x17), (0, .ref (gSa g)), (1, .ref b1), (2, .ref b5), (3, .int ((0 : Int32))), (4, .int ((1 : Int32)))] dL_law_63 (by decide) rfl ?_
    refine r_lv [3, 4, 5, 6, 0, 2] rfl ?_
    refine w_L_law_L65 l hst  C (KE := 5300020000010000400036) (NE := 2415004092000060201202731) (Nat.le_of_ble_eq_true rfl) (Nat.le_of_ble_eq_true rfl) _ (fun x130 x131 t132 h => ?_) jN b1 b5 ((0 : Int32)) ((1 : Int32)) ((0 : Int32)) t15 36 2731 (by rw [show Kc 53000200000100004 jN = 5300020000010000400000 from by decide +kernel]; exact Nat.le_of_ble_eq_true rfl) (by rw [show Kc 24150040920000602012 jN = 2415004092000060201200000 from by decide +kernel]; exact Nat.le_of_ble_eq_true rfl) h
    have h : J_L_fin x130 x131 t132 = _ := h
    unfold J_L_fin at h
    refine r_iload C 478 rfl 1 dL_law_476 rfl ?_
    refine r_if_eq C 492 481 rfl dL_law_478 (by decide) h (fun h => ?_) (fun h => ?_)
    · cases h
    · refine r_aload_n C (x := some x130) 482 rfl 0 dL_law_481 rfl ?_
      refine r_callV C (ci := 5) mm_L_168 im_yX5_isSound se_yX5_isSound rfl 485 5300020000010000400036 2415004092000060201202731 rfl rfl rfl dL_law_482 rfl rfl (As := []) rfl rfl (Nat.le_of_ble_eq_true rfl) ⟨Nat.le_of_ble_eq_true rfl, Nat.le_of_ble_eq_true rfl⟩ ⟨(Nat.le_of_ble_eq_true rfl), (Nat.le_of_ble_eq_true rfl)⟩ (fun o t h => k_X5_isSound l hst g _ _ o t h) h (fun w133 t133 h => ?_) (fun E t h => by cases h)
      replace h := jvI_some h
      obtain ⟨x134, rfl, h⟩ := h
      refine r_if_eq C 492 488 rfl dL_law_485 (by decide) h (fun h => ?_) (fun h => ?_)
      · cases h
      · refine r_iconst C (v := (1 : Int32)) 489 rfl dL_law_488 (by decide) ?_
        refine r_goto C 493 dL_law_489 (by decide) ?_
        exact hend _ _ _ _ (Nat.le_refl _) (Nat.le_refl _) h
  clear hj57E
  refine r_if_ne C 54 35 rfl dL_law_32 (by decide) h (fun h => ?_) (fun h => ?_)
  · refine r_sipush C (v := (9999 : Int32)) 57 rfl dL_law_54 (by decide) ?_
    refine r_lv [4, 3, 2, 1, 0] rfl ?_
    exact hj57 ((9999 : Int32)) t10 h
  · refine r_bipush C (v := (10 : Int32)) 37 rfl dL_law_35 (by decide) ?_
    refine r_aload_n C (x := some (gSa g)) 38 rfl 4 dL_law_37 rfl ?_
    refine r_iconst C (v := (0 : Int32)) 39 rfl dL_law_38 (by decide) ?_
    refine r_callS C mm_L_153 st_yL_cell 42 35 2725 rfl rfl rfl dL_law_39 rfl rfl (As := [.ref (gSa g), .int ((0 : Int32))]) rfl rfl (Nat.le_of_ble_eq_true rfl) ⟨Nat.le_of_ble_eq_true rfl, Nat.le_of_ble_eq_true rfl⟩ ⟨(Nat.le_of_ble_eq_true rfl), (Nat.le_of_ble_eq_true rfl)⟩ (fun o t h => k_L_cell l hst g _ _ o t h) h (fun w134 t133 h => ?_) (fun E t h => by cases h)
    replace h := jvI_some h
    obtain ⟨x135, rfl, h⟩ := h
    refine r_iconst C (v := (2 : Int32)) 43 rfl dL_law_42 (by decide) ?_
    refine r_ishr C 44 rfl dL_law_43 ?_
    refine r_sipush C (v := (200 : Int32)) 47 rfl dL_law_44 (by decide) ?_
    refine r_callS C mm_L_15 st_yL_low 50 35 2725 rfl rfl rfl dL_law_47 rfl rfl (As := [.int (x135 >>> (((2 : Int32)) &&& 31)), .int ((200 : Int32))]) rfl rfl (Nat.le_of_ble_eq_true rfl) ⟨Nat.le_of_ble_eq_true rfl, Nat.le_of_ble_eq_true rfl⟩ ⟨(Nat.le_of_ble_eq_true rfl), (Nat.le_of_ble_eq_true rfl)⟩ (fun o t h => k_L_low l hst g _ _ _ o t h) h (fun w137 t136 h => ?_) (fun E t h => by cases h)
    replace h := jvI_some h
    obtain ⟨x138, rfl, h⟩ := h
    refine r_iadd C 51 rfl dL_law_50 ?_
    refine r_goto C 57 dL_law_51 (by decide) ?_
    refine r_lv [4, 3, 2, 1, 0] rfl ?_
    exact hj57 (((10 : Int32)) + x138) t136 h
