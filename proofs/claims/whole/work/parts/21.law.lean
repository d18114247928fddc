theorem mm_L_100 : jLkH RL 100 yL_type cL_type 4 (some FieldType.int) [(0, 9, 12, 13), (0, 9, 15, 15)] 3 := ⟨ml_L_100, ini_L, cw_yL_type, by decide +kernel⟩
theorem mm_L_114 : jLkH RL 114 yL_addRule cL_addRule 6 (some FieldType.int) [(0, 12, 15, 13), (0, 12, 19, 15), (0, 12, 23, 21)] 5 := ⟨ml_L_114, ini_L, cw_yL_addRule, by decide +kernel⟩
theorem mm_L_118 : jLkH RL 118 yL_mend cL_mend 6 (some FieldType.int) [(0, 12, 15, 13), (0, 12, 19, 26)] 5 := ⟨ml_L_118, ini_L, cw_yL_mend, by decide +kernel⟩
theorem mm_L_121 : jLkH RL 121 yL_removeRule cL_removeRule 4 (some FieldType.int) [(0, 9, 12, 32)] 3 := ⟨ml_L_121, ini_L, cw_yL_removeRule, by decide +kernel⟩
theorem mm_L_125 : jLkH RL 125 yL_ruleAt cL_ruleAt 5 (some FieldType.int) [(0, 10, 13, 32), (0, 10, 17, 26)] 4 := ⟨ml_L_125, ini_L, cw_yL_ruleAt, by decide +kernel⟩
theorem mm_L_129 : jLkH RL 129 yL_turnException cL_turnException 3 (some FieldType.int) [(0, 15, 18, 13), (0, 15, 21, 15)] 2 := ⟨ml_L_129, ini_L, cw_yL_turnException, by decide +kernel⟩
theorem mm_L_133 : jLkH RL 133 yL_setText cL_setText 5 (some FieldType.int) [(0, 10, 13, 32), (0, 10, 17, 13)] 4 := ⟨ml_L_133, ini_L, cw_yL_setText, by decide +kernel⟩
theorem mm_L_136 : jLkH RL 136 yL_setWidth cL_setWidth 4 (some FieldType.int) [(0, 9, 12, 13)] 3 := ⟨ml_L_136, ini_L, cw_yL_setWidth, by decide +kernel⟩
theorem mm_L_139 : jLkH RL 139 yL_words cL_words 4 (some FieldType.int) [(0, 9, 12, 32)] 3 := ⟨ml_L_139, ini_L, cw_yL_words, by decide +kernel⟩
theorem mm_L_142 : jLkH RL 142 yL_length cL_length 5 (some FieldType.int) [(0, 10, 13, 32)] 4 := ⟨ml_L_142, ini_L, cw_yL_length, by decide +kernel⟩
theorem mm_L_145 : jLkH RL 145 yL_cellOf cL_cellOf 6 (some FieldType.int) [(0, 12, 15, 32), (0, 12, 19, 26)] 5 := ⟨ml_L_145, ini_L, cw_yL_cellOf, by decide +kernel⟩
theorem mm_L_148 : jLkH RL 148 yL_lines cL_lines 4 (some FieldType.int) [(0, 9, 12, 32)] 3 := ⟨ml_L_148, ini_L, cw_yL_lines, by decide +kernel⟩
theorem mm_L_151 : jLkH RL 151 yL_lineAt cL_lineAt 6 (some FieldType.int) [(0, 12, 15, 32), (0, 12, 19, 26)] 5 := ⟨ml_L_151, ini_L, cw_yL_lineAt, by decide +kernel⟩
theorem mm_L_154 : jLkH RL 154 yL_lineOf cL_lineOf 5 (some FieldType.int) [(0, 10, 13, 32)] 4 := ⟨ml_L_154, ini_L, cw_yL_lineOf, by decide +kernel⟩
theorem mm_L_157 : jLkH RL 157 yL_emboss cL_emboss 4 (some FieldType.int) [(0, 9, 12, 32), (0, 9, 15, 15)] 3 := ⟨ml_L_157, ini_L, cw_yL_emboss, by decide +kernel⟩
theorem mm_L_160 : jLkH RL 160 yL_changed cL_changed 4 (some FieldType.int) [(0, 9, 12, 32)] 3 := ⟨ml_L_160, ini_L, cw_yL_changed, by decide +kernel⟩
theorem mm_L_163 : jLkH RL 163 yL_setBearing cL_setBearing 4 (some FieldType.int) [(0, 9, 12, 13)] 3 := ⟨ml_L_163, ini_L, cw_yL_setBearing, by decide +kernel⟩
theorem mm_L_166 : jLkH RL 166 yL_replace cL_replace 4 (some FieldType.int) [(0, 9, 12, 32)] 3 := ⟨ml_L_166, ini_L, cw_yL_replace, by decide +kernel⟩
theorem mm_L_169 : jLkH RL 169 yL_strikes cL_strikes 4 (some FieldType.int) [(0, 9, 12, 32)] 3 := ⟨ml_L_169, ini_L, cw_yL_strikes, by decide +kernel⟩
theorem mm_L_172 : jLkH RL 172 yL_mark cL_mark 7 (some FieldType.int) [(0, 21, 24, 32)] 6 := ⟨ml_L_172, ini_L, cw_yL_mark, by decide +kernel⟩
theorem mm_L_176 : jLkH RL 176 yL_markOf cL_markOf 6 (some FieldType.int) [(0, 12, 15, 32)] 5 := ⟨ml_L_176, ini_L, cw_yL_markOf, by decide +kernel⟩
theorem mm_L_184 : jLkH RL 184 yL_provedShare cL_provedShare 3 (some FieldType.int) [(0, 8, 11, 94)] 2 := ⟨ml_L_184, ini_L, cw_yL_provedShare, by decide +kernel⟩
theorem j01 {t τ : Hp} (h : some ((.inl (some (.int 0)), t) : jO × Hp) = some (.inl (some (.int 1)), τ)) : False := by
  have h1 := congrArg (fun z : jR => z.map (fun q => q.1)) h
  simp at h1
def jNL : Nat := 513
def J_L_law_c164 (g : jG) (rc : Nat → Nat → Nat → Nat → Int32 → Hp → jR) (a1 a2 a3 a4 : Nat) (v5 : Int32) (t0 : Hp) : jR := jzI g (v5 + 1) (fun x1 => jcs (J_L_type a1 ((x1.toUInt32 % 65536).toInt32) a3 t0) (fun w3 t2 => jvI w3 (fun x4 => jzI g (v5 + 1) (fun x5 => jcv t2 a2 6 (J_X6_type a2 ((x5.toUInt32 % 65536).toInt32) t2) (fun w7 t6 => jvI w7 (fun x8 => jcv t6 a2 6 (J_X6_thrown a2 t6) (fun w10 t9 => jvI w10 (fun x11 => (if x11 = x4 then jj (fun (t12 : Hp) => rc a1 a2 a3 a4 (v5 + 5) t12) (fun j219 => (if x4 = 0 then jaJ t9 a3 0 (fun x13 => (if (lg_cmp x13 x8.toInt64) = 0 then j219 t9 else some (.inl (some (.int 0)), t9))) else j219 t9)) else some (.inl (some (.int 0)), t9)))) (fun _ _ => none))) (fun _ _ => none)))) (fun _ _ => none))
set_option maxHeartbeats 4000000 in
set_option maxRecDepth 100000 in
theorem w_L_law_c164 (l : Launch) (hst : l.stackTraces = false) {p : Program} {e : Env} {s : State} {m : MethodId} {args : Array Value} {below : List Frame} {meth : Method} {c : Code} {Q : State → Prop} {g : jG} {τ : Hp} (C : jC p l s m args meth c g RL cL_law 10 (some .boolean)) (rc : Nat → Nat → Nat → Nat → Int32 → Hp → jR) (a1 a2 a3 a4 : Nat) (v5 : Int32) (t0 : Hp) (kq nq : Nat) (hkq : kq + 30 ≤ 603072) (hnq : nq + 1000 ≤ 7219306) (hrc : ∀ (v : Int32) (t : Hp), rc a1 a2 a3 a4 v t = some (.inl (some (.int 1)), τ) → jW p l e room_1 s m args below meth c g Q (kq + 30) (nq + 1000) 28 [(0, .ref (gSa g)), (1, .ref a1), (2, .ref a2), (3, .ref a3), (4, .ref a4), (5, .int v)] [] t) (h : J_L_law_c164 g rc a1 a2 a3 a4 v5 t0 = some (.inl (some (.int 1)), τ)) : jW p l e room_1 s m args below meth c g Q kq nq 164 [(0, .ref (gSa g)), (1, .ref a1), (2, .ref a2), (3, .ref a3), (4, .ref a4), (5, .int v5)] [] t0 := by
  unfold J_L_law_c164 at h
  refine r_aload_n C (x := some a1) 165 rfl 1 dL_law_164 rfl ?_
  refine r_aload_n C (x := some (gSa g)) 166 rfl 0 dL_law_165 rfl ?_
  refine r_iload C 168 rfl 5 dL_law_166 rfl ?_
  refine r_iconst C (v := 1) 169 rfl dL_law_168 (by decide) ?_
  refine r_iadd C 170 rfl dL_law_169 ?_
  refine r_zald C 171 rfl dL_law_170 h (fun x1 h => ?_)
  refine r_i2c C 172 rfl dL_law_171 ?_
  refine r_aload_n C (x := some a3) 173 rfl 3 dL_law_172 rfl ?_
  refine r_callSX C mm_L_100 st_yL_type 176 (kq + 1) (nq + 6) rfl rfl rfl dL_law_173 rfl rfl (As := [.ref a1, .int ((x1.toUInt32 % 65536).toInt32), .ref a3]) rfl rfl (Nat.le_of_ble_eq_true rfl) ⟨Nat.le_of_ble_eq_true rfl, Nat.le_of_ble_eq_true rfl⟩ ⟨(by show kq + 1 ≤ 603072; omega), (by show nq + 6 ≤ 7219306; omega)⟩ (fun o t h => k_L_type l hst g _ _ _ _ o t h) h (fun w3 t2 h => ?_) (fun E t h => by cases h)
  replace h := jvI_some h
  obtain ⟨x4, rfl, h⟩ := h
  refine r_istore C 178 rfl [(6, .int x4), (0, .ref (gSa g)), (1, .ref a1), (2, .ref a2), (3, .ref a3), (4, .ref a4), (5, .int v5)] dL_law_176 (by decide) rfl ?_
  refine r_aload_n C (x := some a2) 179 rfl 3 dL_law_178 rfl ?_
  refine r_aload_n C (x := some (gSa g)) 180 rfl 1 dL_law_179 rfl ?_
  refine r_iload C 182 rfl 6 dL_law_180 rfl ?_
  refine r_iconst C (v := 1) 183 rfl dL_law_182 (by decide) ?_
  refine r_iadd C 184 rfl dL_law_183 ?_
  refine r_zald C 185 rfl dL_law_184 h (fun x5 h => ?_)
  refine r_i2c C 186 rfl dL_law_185 ?_
  refine r_callV C (ci := 6) mm_L_105 im_yX6_type se_yX6_type rfl 189 (kq + 1) (nq + 6) rfl rfl rfl dL_law_186 rfl rfl (As := [.int ((x5.toUInt32 % 65536).toInt32)]) rfl rfl (Nat.le_of_ble_eq_true rfl) ⟨Nat.le_of_ble_eq_true rfl, Nat.le_of_ble_eq_true rfl⟩ ⟨(by show kq + 1 ≤ 603072; omega), (by show nq + 6 ≤ 7219306; omega)⟩ (fun o t h => k_X6_type l hst g _ _ _ o t h) h (fun w7 t6 h => ?_) (fun E t h => by cases h)
  replace h := jvI_some h
  obtain ⟨x8, rfl, h⟩ := h
  refine r_istore C 191 rfl [(7, .int x8), (6, .int x4), (0, .ref (gSa g)), (1, .ref a1), (2, .ref a2), (3, .ref a3), (4, .ref a4), (5, .int v5)] dL_law_189 (by decide) rfl ?_
  refine r_aload_n C (x := some a2) 192 rfl 4 dL_law_191 rfl ?_
  refine r_callV C (ci := 6) mm_L_106 im_yX6_thrown se_yX6_thrown rfl 195 (kq + 1) (nq + 6) rfl rfl rfl dL_law_192 rfl rfl (As := []) rfl rfl (Nat.le_of_ble_eq_true rfl) ⟨Nat.le_of_ble_eq_true rfl, Nat.le_of_ble_eq_true rfl⟩ ⟨(by show kq + 1 ≤ 603072; omega), (by show nq + 6 ≤ 7219306; omega)⟩ (fun o t h => k_X6_thrown l hst g _ _ o t h) h (fun w10 t9 h => ?_) (fun E t h => by cases h)
  replace h := jvI_some h
  obtain ⟨x11, rfl, h⟩ := h
  refine r_iload C 197 rfl 1 dL_law_195 rfl ?_
  refine r_icmp_eq C 202 200 rfl dL_law_197 (by decide) h (fun h => ?_) (fun h => ?_)
  · refine r_iload C 204 rfl 1 dL_law_202 rfl ?_
    obtain ⟨j219, hj219E, h⟩ := jj_some h
    have hj219 : ∀ (t12 : Hp), j219 t12 = some (.inl (some (.int 1)), τ) → jW p l e room_1 s m args below meth c g (Q) (kq + 1) (nq + 6) 219 [(0, .ref (gSa g)), (1, .ref a1), (2, .ref a2), (3, .ref a3), (4, .ref a4), (5, .int v5)] [] t12 := by
      subst hj219E
      intro t12 h
      refine r_goto C 1711 dL_law_219 (by decide) ?_
      refine r_iinc C (v := v5 + 5) 1714 rfl 5 [(5, .int (v5 + 5)), (0, .ref (gSa g)), (1, .ref a1), (2, .ref a2), (3, .ref a3), (4, .ref a4)] dL_law_1711 rfl rfl (by decide) rfl ?_
      refine r_goto C 28 dL_law_1714 (by decide) ?_
      refine r_lv [1, 2, 3, 4, 5, 0] rfl ?_
      refine r_widen (k' := kq + 30) (n' := nq + 1000) (by omega) (by omega) ?_
      exact hrc (v5 + 5) t12 h
    clear hj219E
    refine r_if_ne C 219 207 rfl dL_law_204 (by decide) h (fun h => ?_) (fun h => ?_)
    · refine r_lv [2, 3, 4, 5, 6, 7] rfl ?_
      exact hj219 t9 h
    · refine r_aload_n C (x := some a3) 208 rfl 5 dL_law_207 rfl ?_
      refine r_iconst C (v := 0) 209 rfl dL_law_208 (by decide) ?_
      refine r_lald C 210 rfl dL_law_209 h (fun x13 h => ?_)
      refine r_iload C 212 rfl 0 dL_law_210 rfl ?_
      refine r_i2l C 213 rfl dL_law_212 ?_
      refine r_lcmp C 214 rfl dL_law_213 ?_
      refine r_if_eq C 219 217 rfl dL_law_214 (by decide) h (fun h => ?_) (fun h => ?_)
      · refine r_lv [2, 3, 4, 5, 6, 7] rfl ?_
        exact hj219 t9 h
      · refine r_iconst C (v := 0) 218 rfl dL_law_217 (by decide) ?_
        exact (j01 h).elim
  · refine r_iconst C (v := 0) 201 rfl dL_law_200 (by decide) ?_
    exact (j01 h).elim
def J_L_law_c222 (g : jG) (rc : Nat → Nat → Nat → Nat → Int32 → Hp → jR) (a1 a2 a3 a4 : Nat) (v5 : Int32) (t0 : Hp) : jR := jcv t0 a1 5 (J_X5_clear a1 t0) (fun w2 t1 => jvI w2 (fun x3 => jcv t1 a2 6 (J_X6_clear a2 t1) (fun w5 t4 => jvI w5 (fun x6 => (if x3 = x6 then rc a1 a2 a3 a4 (v5 + 5) t4 else some (.inl (some (.int 0)), t4)))) (fun _ _ => none))) (fun _ _ => none)
set_option maxHeartbeats 4000000 in
set_option maxRecDepth 100000 in
theorem w_L_law_c222 (l : Launch) (hst : l.stackTraces = false) {p : Program} {e : Env} {s : State} {m : MethodId} {args : Array Value} {below : List Frame} {meth : Method} {c : Code} {Q : State → Prop} {g : jG} {τ : Hp} (C : jC p l s m args meth c g RL cL_law 10 (some .boolean)) (rc : Nat → Nat → Nat → Nat → Int32 → Hp → jR) (a1 a2 a3 a4 : Nat) (v5 : Int32) (t0 : Hp) (kq nq : Nat) (hkq : kq + 30 ≤ 603072) (hnq : nq + 1000 ≤ 7219306) (hrc : ∀ (v : Int32) (t : Hp), rc a1 a2 a3 a4 v t = some (.inl (some (.int 1)), τ) → jW p l e room_1 s m args below meth c g Q (kq + 30) (nq + 1000) 28 [(0, .ref (gSa g)), (1, .ref a1), (2, .ref a2), (3, .ref a3), (4, .ref a4), (5, .int v)] [] t) (h : J_L_law_c222 g rc a1 a2 a3 a4 v5 t0 = some (.inl (some (.int 1)), τ)) : jW p l e room_1 s m args below meth c g Q kq nq 222 [(0, .ref (gSa g)), (1, .ref a1), (2, .ref a2), (3, .ref a3), (4, .ref a4), (5, .int v5)] [] t0 := by
  unfold J_L_law_c222 at h
  refine r_aload_n C (x := some a1) 223 rfl 1 dL_law_222 rfl ?_
  refine r_callV C (ci := 5) mm_L_110 im_yX5_clear se_yX5_clear rfl 226 kq nq rfl rfl rfl dL_law_223 rfl rfl (As := []) rfl rfl (Nat.le_of_ble_eq_true rfl) ⟨Nat.le_of_ble_eq_true rfl, Nat.le_of_ble_eq_true rfl⟩ ⟨(by show kq ≤ 603072; omega), (by show nq ≤ 7219306; omega)⟩ (fun o t h => k_X5_clear l hst g _ _ o t h) h (fun w2 t1 h => ?_) (fun E t h => by cases h)
  replace h := jvI_some h
  obtain ⟨x3, rfl, h⟩ := h
  refine r_aload_n C (x := some a2) 227 rfl 2 dL_law_226 rfl ?_
  refine r_callV C (ci := 6) mm_L_113 im_yX6_clear se_yX6_clear rfl 230 kq nq rfl rfl rfl dL_law_227 rfl rfl (As := []) rfl rfl (Nat.le_of_ble_eq_true rfl) ⟨Nat.le_of_ble_eq_true rfl, Nat.le_of_ble_eq_true rfl⟩ ⟨(by show kq ≤ 603072; omega), (by show nq ≤ 7219306; omega)⟩ (fun o t h => k_X6_clear l hst g _ _ o t h) h (fun w5 t4 h => ?_) (fun E t h => by cases h)
  replace h := jvI_some h
  obtain ⟨x6, rfl, h⟩ := h
  refine r_icmp_eq C 1711 233 rfl dL_law_230 (by decide) h (fun h => ?_) (fun h => ?_)
  · refine r_iinc C (v := v5 + 5) 1714 rfl 5 [(5, .int (v5 + 5)), (0, .ref (gSa g)), (1, .ref a1), (2, .ref a2), (3, .ref a3), (4, .ref a4)] dL_law_1711 rfl rfl (by decide) rfl ?_
    refine r_goto C 28 dL_law_1714 (by decide) ?_
    refine r_lv [1, 2, 3, 4, 5, 0] rfl ?_
    refine r_widen (k' := kq + 30) (n' := nq + 1000) (by omega) (by omega) ?_
    exact hrc (v5 + 5) t4 h
  · refine r_iconst C (v := 0) 234 rfl dL_law_233 (by decide) ?_
    exact (j01 h).elim
def J_L_law_c235 (g : jG) (rc : Nat → Nat → Nat → Nat → Int32 → Hp → jR) (a1 a2 a3 a4 : Nat) (v5 : Int32) (t0 : Hp) : jR := jzI g (v5 + 1) (fun x1 => jzI g (v5 + 2) (fun x2 => jzI g (v5 + 3) (fun x3 => jcs (J_L_addRule a1 x1 x2 x3 a3 t0) (fun w5 t4 => jvI w5 (fun x6 => jzI g (v5 + 1) (fun x7 => jzI g (v5 + 2) (fun x8 => jzI g (v5 + 3) (fun x9 => jcv t4 a2 6 (J_X6_addRule a2 x7 x8 x9 t4) (fun w11 t10 => jvI w11 (fun x12 => jcv t10 a2 6 (J_X6_thrown a2 t10) (fun w14 t13 => jvI w14 (fun x15 => (if x15 = x6 then jj (fun (t16 : Hp) => rc a1 a2 a3 a4 (v5 + 5) t16) (fun j312 => (if x6 = 0 then jaJ t13 a3 0 (fun x17 => (if (lg_cmp x17 x12.toInt64) = 0 then j312 t13 else some (.inl (some (.int 0)), t13))) else j312 t13)) else some (.inl (some (.int 0)), t13)))) (fun _ _ => none))) (fun _ _ => none)))))) (fun _ _ => none))))
set_option maxHeartbeats 4000000 in
set_option maxRecDepth 100000 in
theorem w_L_law_c235 (l : Launch) (hst : l.stackTraces = false) {p : Program} {e : Env} {s : State} {m : MethodId} {args : Array Value} {below : List Frame} {meth : Method} {c : Code} {Q : State → Prop} {g : jG} {τ : Hp} (C : jC p l s m args meth c g RL cL_law 10 (some .boolean)) (rc : Nat → Nat → Nat → Nat → Int32 → Hp → jR) (a1 a2 a3 a4 : Nat) (v5 : Int32) (t0 : Hp) (kq nq : Nat) (hkq : kq + 30 ≤ 603072) (hnq : nq + 1000 ≤ 7219306) (hrc : ∀ (v : Int32) (t : Hp), rc a1 a2 a3 a4 v t = some (.inl (some (.int 1)), τ) → jW p l e room_1 s m args below meth c g Q (kq + 30) (nq + 1000) 28 [(0, .ref (gSa g)), (1, .ref a1), (2, .ref a2), (3, .ref a3), (4, .ref a4), (5, .int v)] [] t) (h : J_L_law_c235 g rc a1 a2 a3 a4 v5 t0 = some (.inl (some (.int 1)), τ)) : jW p l e room_1 s m args below meth c g Q kq nq 235 [(0, .ref (gSa g)), (1, .ref a1), (2, .ref a2), (3, .ref a3), (4, .ref a4), (5, .int v5)] [] t0 := by
  unfold J_L_law_c235 at h
  refine r_aload_n C (x := some a1) 236 rfl 1 dL_law_235 rfl ?_
  refine r_aload_n C (x := some (gSa g)) 237 rfl 0 dL_law_236 rfl ?_
  refine r_iload C 239 rfl 5 dL_law_237 rfl ?_
  refine r_iconst C (v := 1) 240 rfl dL_law_239 (by decide) ?_
  refine r_iadd C 241 rfl dL_law_240 ?_
  refine r_zald C 242 rfl dL_law_241 h (fun x1 h => ?_)
  refine r_aload_n C (x := some (gSa g)) 243 rfl 0 dL_law_242 rfl ?_
  refine r_iload C 245 rfl 5 dL_law_243 rfl ?_
  refine r_iconst C (v := 2) 246 rfl dL_law_245 (by decide) ?_
  refine r_iadd C 247 rfl dL_law_246 ?_
  refine r_zald C 248 rfl dL_law_247 h (fun x2 h => ?_)
  refine r_aload_n C (x := some (gSa g)) 249 rfl 0 dL_law_248 rfl ?_
  refine r_iload C 251 rfl 5 dL_law_249 rfl ?_
  refine r_iconst C (v := 3) 252 rfl dL_law_251 (by decide) ?_
  refine r_iadd C 253 rfl dL_law_252 ?_
  refine r_zald C 254 rfl dL_law_253 h (fun x3 h => ?_)
  refine r_aload_n C (x := some a3) 255 rfl 3 dL_law_254 rfl ?_
  refine r_callSX C mm_L_114 st_yL_addRule 258 (kq + 1) (nq + 6) rfl rfl rfl dL_law_255 rfl rfl (As := [.ref a1, .int x1, .int x2, .int x3, .ref a3]) rfl rfl (Nat.le_of_ble_eq_true rfl) ⟨Nat.le_of_ble_eq_true rfl, Nat.le_of_ble_eq_true rfl⟩ ⟨(by show kq + 1 ≤ 603072; omega), (by show nq + 6 ≤ 7219306; omega)⟩ (fun o t h => k_L_addRule l hst g _ _ _ _ _ _ o t h) h (fun w5 t4 h => ?_) (fun E t h => by cases h)
  replace h := jvI_some h
  obtain ⟨x6, rfl, h⟩ := h
  refine r_istore C 260 rfl [(6, .int x6), (0, .ref (gSa g)), (1, .ref a1), (2, .ref a2), (3, .ref a3), (4, .ref a4), (5, .int v5)] dL_law_258 (by decide) rfl ?_
  refine r_aload_n C (x := some a2) 261 rfl 3 dL_law_260 rfl ?_
  refine r_aload_n C (x := some (gSa g)) 262 rfl 1 dL_law_261 rfl ?_
  refine r_iload C 264 rfl 6 dL_law_262 rfl ?_
  refine r_iconst C (v := 1) 265 rfl dL_law_264 (by decide) ?_
  refine r_iadd C 266 rfl dL_law_265 ?_
  refine r_zald C 267 rfl dL_law_266 h (fun x7 h => ?_)
  refine r_aload_n C (x := some (gSa g)) 268 rfl 1 dL_law_267 rfl ?_
  refine r_iload C 270 rfl 6 dL_law_268 rfl ?_
  refine r_iconst C (v := 2) 271 rfl dL_law_270 (by decide) ?_
  refine r_iadd C 272 rfl dL_law_271 ?_
  refine r_zald C 273 rfl dL_law_272 h (fun x8 h => ?_)
  refine r_aload_n C (x := some (gSa g)) 274 rfl 1 dL_law_273 rfl ?_
  refine r_iload C 276 rfl 6 dL_law_274 rfl ?_
  refine r_iconst C (v := 3) 277 rfl dL_law_276 (by decide) ?_
  refine r_iadd C 278 rfl dL_law_277 ?_
  refine r_zald C 279 rfl dL_law_278 h (fun x9 h => ?_)
  refine r_callV C (ci := 6) mm_L_117 im_yX6_addRule se_yX6_addRule rfl 282 (kq + 1) (nq + 6) rfl rfl rfl dL_law_279 rfl rfl (As := [.int x7, .int x8, .int x9]) rfl rfl (Nat.le_of_ble_eq_true rfl) ⟨Nat.le_of_ble_eq_true rfl, Nat.le_of_ble_eq_true rfl⟩ ⟨(by show kq + 1 ≤ 603072; omega), (by show nq + 6 ≤ 7219306; omega)⟩ (fun o t h => k_X6_addRule l hst g _ _ _ _ _ o t h) h (fun w11 t10 h => ?_) (fun E t h => by cases h)
  replace h := jvI_some h
  obtain ⟨x12, rfl, h⟩ := h
  refine r_istore C 284 rfl [(7, .int x12), (6, .int x6), (0, .ref (gSa g)), (1, .ref a1), (2, .ref a2), (3, .ref a3), (4, .ref a4), (5, .int v5)] dL_law_282 (by decide) rfl ?_
  refine r_aload_n C (x := some a2) 285 rfl 4 dL_law_284 rfl ?_
  refine r_callV C (ci := 6) mm_L_106 im_yX6_thrown se_yX6_thrown rfl 288 (kq + 1) (nq + 6) rfl rfl rfl dL_law_285 rfl rfl (As := []) rfl rfl (Nat.le_of_ble_eq_true rfl) ⟨Nat.le_of_ble_eq_true rfl, Nat.le_of_ble_eq_true rfl⟩ ⟨(by show kq + 1 ≤ 603072; omega), (by show nq + 6 ≤ 7219306; omega)⟩ (fun o t h => k_X6_thrown l hst g _ _ o t h) h (fun w14 t13 h => ?_) (fun E t h => by cases h)
  replace h := jvI_some h
  obtain ⟨x15, rfl, h⟩ := h
  refine r_iload C 290 rfl 1 dL_law_288 rfl ?_
  refine r_icmp_eq C 295 293 rfl dL_law_290 (by decide) h (fun h => ?_) (fun h => ?_)
  · refine r_iload C 297 rfl 1 dL_law_295 rfl ?_
    obtain ⟨j312, hj312E, h⟩ := jj_some h
    have hj312 : ∀ (t16 : Hp), j312 t16 = some (.inl (some (.int 1)), τ) → jW p l e room_1 s m args below meth c g (Q) (kq + 1) (nq + 6) 312 [(0, .ref (gSa g)), (1, .ref a1), (2, .ref a2), (3, .ref a3), (4, .ref a4), (5, .int v5)] [] t16 := by
      subst hj312E
      intro t16 h
      refine r_goto C 1711 dL_law_312 (by decide) ?_
      refine r_iinc C (v := v5 + 5) 1714 rfl 5 [(5, .int (v5 + 5)), (0, .ref (gSa g)), (1, .ref a1), (2, .ref a2), (3, .ref a3), (4, .ref a4)] dL_law_1711 rfl rfl (by decide) rfl ?_
      refine r_goto C 28 dL_law_1714 (by decide) ?_
      refine r_lv [1, 2, 3, 4, 5, 0] rfl ?_
      refine r_widen (k' := kq + 30) (n' := nq + 1000) (by omega) (by omega) ?_
      exact hrc (v5 + 5) t16 h
    clear hj312E
    refine r_if_ne C 312 300 rfl dL_law_297 (by decide) h (fun h => ?_) (fun h => ?_)
    · refine r_lv [2, 3, 4, 5, 6, 7] rfl ?_
      exact hj312 t13 h
    · refine r_aload_n C (x := some a3) 301 rfl 5 dL_law_300 rfl ?_
      refine r_iconst C (v := 0) 302 rfl dL_law_301 (by decide) ?_
      refine r_lald C 303 rfl dL_law_302 h (fun x17 h => ?_)
      refine r_iload C 305 rfl 0 dL_law_303 rfl ?_
      refine r_i2l C 306 rfl dL_law_305 ?_
      refine r_lcmp C 307 rfl dL_law_306 ?_
      refine r_if_eq C 312 310 rfl dL_law_307 (by decide) h (fun h => ?_) (fun h => ?_)
      · refine r_lv [2, 3, 4, 5, 6, 7] rfl ?_
        exact hj312 t13 h
      · refine r_iconst C (v := 0) 311 rfl dL_law_310 (by decide) ?_
        exact (j01 h).elim
  · refine r_iconst C (v := 0) 294 rfl dL_law_293 (by decide) ?_
    exact (j01 h).elim
def J_L_law_c315 (g : jG) (rc : Nat → Nat → Nat → Nat → Int32 → Hp → jR) (a1 a2 a3 a4 : Nat) (v5 : Int32) (t0 : Hp) : jR := jzI g (v5 + 1) (fun x1 => jzI g (v5 + 2) (fun x2 => jzI g (v5 + 3) (fun x3 => jcs (J_L_mend a1 x1 x2 x3 a3 t0) (fun w5 t4 => jvI w5 (fun x6 => jzI g (v5 + 1) (fun x7 => jzI g (v5 + 2) (fun x8 => jzI g (v5 + 3) (fun x9 => jcv t4 a2 6 (J_X6_mend a2 x7 x8 x9 t4) (fun w11 t10 => jvI w11 (fun x12 => jcv t10 a2 6 (J_X6_thrown a2 t10) (fun w14 t13 => jvI w14 (fun x15 => (if x15 = x6 then jj (fun (t16 : Hp) => rc a1 a2 a3 a4 (v5 + 5) t16) (fun j392 => (if x6 = 0 then jaJ t13 a3 0 (fun x17 => (if (lg_cmp x17 x12.toInt64) = 0 then j392 t13 else some (.inl (some (.int 0)), t13))) else j392 t13)) else some (.inl (some (.int 0)), t13)))) (fun _ _ => none))) (fun _ _ => none)))))) (fun _ _ => none))))
set_option maxHeartbeats 4000000 in
set_option maxRecDepth 100000 in
theorem w_L_law_c315 (l : Launch) (hst : l.stackTraces = false) {p : Program} {e : Env} {s : State} {m : MethodId} {args : Array Value} {below : List Frame} {meth : Method} {c : Code} {Q : State → Prop} {g : jG} {τ : Hp} (C : jC p l s m args meth c g RL cL_law 10 (some .boolean)) (rc : Nat → Nat → Nat → Nat → Int32 → Hp → jR) (a1 a2 a3 a4 : Nat) (v5 : Int32) (t0 : Hp) (kq nq : Nat) (hkq : kq + 30 ≤ 603072) (hnq : nq + 1000 ≤ 7219306) (hrc : ∀ (v : Int32) (t : Hp), rc a1 a2 a3 a4 v t = some (.inl (some (.int 1)), τ) → jW p l e room_1 s m args below meth c g Q (kq + 30) (nq + 1000) 28 [(0, .ref (gSa g)), (1, .ref a1), (2, .ref a2), (3, .ref a3), (4, .ref a4), (5, .int v)] [] t) (h : J_L_law_c315 g rc a1 a2 a3 a4 v5 t0 = some (.inl (some (.int 1)), τ)) : jW p l e room_1 s m args below meth c g Q kq nq 315 [(0, .ref (gSa g)), (1, .ref a1), (2, .ref a2), (3, .ref a3), (4, .ref a4), (5, .int v5)] [] t0 := by
  unfold J_L_law_c315 at h
  refine r_aload_n C (x := some a1) 316 rfl 1 dL_law_315 rfl ?_
  refine r_aload_n C (x := some (gSa g)) 317 rfl 0 dL_law_316 rfl ?_
  refine r_iload C 319 rfl 5 dL_law_317 rfl ?_
  refine r_iconst C (v := 1) 320 rfl dL_law_319 (by decide) ?_
  refine r_iadd C 321 rfl dL_law_320 ?_
  refine r_zald C 322 rfl dL_law_321 h (fun x1 h => ?_)
  refine r_aload_n C (x := some (gSa g)) 323 rfl 0 dL_law_322 rfl ?_
  refine r_iload C 325 rfl 5 dL_law_323 rfl ?_
  refine r_iconst C (v := 2) 326 rfl dL_law_325 (by decide) ?_
  refine r_iadd C 327 rfl dL_law_326 ?_
  refine r_zald C 328 rfl dL_law_327 h (fun x2 h => ?_)
  refine r_aload_n C (x := some (gSa g)) 329 rfl 0 dL_law_328 rfl ?_
  refine r_iload C 331 rfl 5 dL_law_329 rfl ?_
  refine r_iconst C (v := 3) 332 rfl dL_law_331 (by decide) ?_
  refine r_iadd C 333 rfl dL_law_332 ?_
  refine r_zald C 334 rfl dL_law_333 h (fun x3 h => ?_)
  refine r_aload_n C (x := some a3) 335 rfl 3 dL_law_334 rfl ?_
  refine r_callSX C mm_L_118 st_yL_mend 338 (kq + 1) (nq + 6) rfl rfl rfl dL_law_335 rfl rfl (As := [.ref a1, .int x1, .int x2, .int x3, .ref a3]) rfl rfl (Nat.le_of_ble_eq_true rfl) ⟨Nat.le_of_ble_eq_true rfl, Nat.le_of_ble_eq_true rfl⟩ ⟨(by show kq + 1 ≤ 603072; omega), (by show nq + 6 ≤ 7219306; omega)⟩ (fun o t h => k_L_mend l hst g _ _ _ _ _ _ o t h) h (fun w5 t4 h => ?_) (fun E t h => by cases h)
  replace h := jvI_some h
  obtain ⟨x6, rfl, h⟩ := h
  refine r_istore C 340 rfl [(6, .int x6), (0, .ref (gSa g)), (1, .ref a1), (2, .ref a2), (3, .ref a3), (4, .ref a4), (5, .int v5)] dL_law_338 (by decide) rfl ?_
  refine r_aload_n C (x := some a2) 341 rfl 3 dL_law_340 rfl ?_
  refine r_aload_n C (x := some (gSa g)) 342 rfl 1 dL_law_341 rfl ?_
  refine r_iload C 344 rfl 6 dL_law_342 rfl ?_
  refine r_iconst C (v := 1) 345 rfl dL_law_344 (by decide) ?_
  refine r_iadd C 346 rfl dL_law_345 ?_
  refine r_zald C 347 rfl dL_law_346 h (fun x7 h => ?_)
  refine r_aload_n C (x := some (gSa g)) 348 rfl 1 dL_law_347 rfl ?_
  refine r_iload C 350 rfl 6 dL_law_348 rfl ?_
  refine r_iconst C (v := 2) 351 rfl dL_law_350 (by decide) ?_
  refine r_iadd C 352 rfl dL_law_351 ?_
  refine r_zald C 353 rfl dL_law_352 h (fun x8 h => ?_)
  refine r_aload_n C (x := some (gSa g)) 354 rfl 1 dL_law_353 rfl ?_
  refine r_iload C 356 rfl 6 dL_law_354 rfl ?_
  refine r_iconst C (v := 3) 357 rfl dL_law_356 (by decide) ?_
  refine r_iadd C 358 rfl dL_law_357 ?_
  refine r_zald C 359 rfl dL_law_358 h (fun x9 h => ?_)
  refine r_callV C (ci := 6) mm_L_120 im_yX6_mend se_yX6_mend rfl 362 (kq + 1) (nq + 6) rfl rfl rfl dL_law_359 rfl rfl (As := [.int x7, .int x8, .int x9]) rfl rfl (Nat.le_of_ble_eq_true rfl) ⟨Nat.le_of_ble_eq_true rfl, Nat.le_of_ble_eq_true rfl⟩ ⟨(by show kq + 1 ≤ 603072; omega), (by show nq + 6 ≤ 7219306; omega)⟩ (fun o t h => k_X6_mend l hst g _ _ _ _ _ o t h) h (fun w11 t10 h => ?_) (fun E t h => by cases h)
  replace h := jvI_some h
  obtain ⟨x12, rfl, h⟩ := h
  refine r_istore C 364 rfl [(7, .int x12), (6, .int x6), (0, .ref (gSa g)), (1, .ref a1), (2, .ref a2), (3, .ref a3), (4, .ref a4), (5, .int v5)] dL_law_362 (by decide) rfl ?_
  refine r_aload_n C (x := some a2) 365 rfl 4 dL_law_364 rfl ?_
  refine r_callV C (ci := 6) mm_L_106 im_yX6_thrown se_yX6_thrown rfl 368 (kq + 1) (nq + 6) rfl rfl rfl dL_law_365 rfl rfl (As := []) rfl rfl (Nat.le_of_ble_eq_true rfl) ⟨Nat.le_of_ble_eq_true rfl, Nat.le_of_ble_eq_true rfl⟩ ⟨(by show kq + 1 ≤ 603072; omega), (by show nq + 6 ≤ 7219306; omega)⟩ (fun o t h => k_X6_thrown l hst g _ _ o t h) h (fun w14 t13 h => ?_) (fun E t h => by cases h)
  replace h := jvI_some h
  obtain ⟨x15, rfl, h⟩ := h
  refine r_iload C 370 rfl 1 dL_law_368 rfl ?_
  refine r_icmp_eq C 375 373 rfl dL_law_370 (by decide) h (fun h => ?_) (fun h => ?_)
  · refine r_iload C 377 rfl 1 dL_law_375 rfl ?_
    obtain ⟨j392, hj392E, h⟩ := jj_some h
    have hj392 : ∀ (t16 : Hp), j392 t16 = some (.inl (some (.int 1)), τ) → jW p l e room_1 s m args below meth c g (Q) (kq + 1) (nq + 6) 392 [(0, .ref (gSa g)), (1, .ref a1), (2, .ref a2), (3, .ref a3), (4, .ref a4), (5, .int v5)] [] t16 := by
      subst hj392E
      intro t16 h
      refine r_goto C 1711 dL_law_392 (by decide) ?_
      refine r_iinc C (v := v5 + 5) 1714 rfl 5 [(5, .int (v5 + 5)), (0, .ref (gSa g)), (1, .ref a1), (2, .ref a2), (3, .ref a3), (4, .ref a4)] dL_law_1711 rfl rfl (by decide) rfl ?_
      refine r_goto C 28 dL_law_1714 (by decide) ?_
      refine r_lv [1, 2, 3, 4, 5, 0] rfl ?_
      refine r_widen (k' := kq + 30) (n' := nq + 1000) (by omega) (by omega) ?_
      exact hrc (v5 + 5) t16 h
    clear hj392E
    refine r_if_ne C 392 380 rfl dL_law_377 (by decide) h (fun h => ?_) (fun h => ?_)
    · refine r_lv [2, 3, 4, 5, 6, 7] rfl ?_
      exact hj392 t13 h
    · refine r_aload_n C (x := some a3) 381 rfl 5 dL_law_380 rfl ?_
      refine r_iconst C (v := 0) 382 rfl dL_law_381 (by decide) ?_
      refine r_lald C 383 rfl dL_law_382 h (fun x17 h => ?_)
      refine r_iload C 385 rfl 0 dL_law_383 rfl ?_
      refine r_i2l C 386 rfl dL_law_385 ?_
      refine r_lcmp C 387 rfl dL_law_386 ?_
      refine r_if_eq C 392 390 rfl dL_law_387 (by decide) h (fun h => ?_) (fun h => ?_)
      · refine r_lv [2, 3, 4, 5, 6, 7] rfl ?_
        exact hj392 t13 h
      · refine r_iconst C (v := 0) 391 rfl dL_law_390 (by decide) ?_
        exact (j01 h).elim
  · refine r_iconst C (v := 0) 374 rfl dL_law_373 (by decide) ?_
    exact (j01 h).elim
def J_L_law_c395 (g : jG) (rc : Nat → Nat → Nat → Nat → Int32 → Hp → jR) (a1 a2 a3 a4 : Nat) (v5 : Int32) (t0 : Hp) : jR := jzI g (v5 + 1) (fun x1 => jcs (J_L_removeRule a1 x1 a3 t0) (fun w3 t2 => jvI w3 (fun x4 => jzI g (v5 + 1) (fun x5 => jcv t2 a2 6 (J_X6_removeRule a2 x5 t2) (fun w7 t6 => jvI w7 (fun x8 => jcv t6 a2 6 (J_X6_thrown a2 t6) (fun w10 t9 => jvI w10 (fun x11 => (if x11 = x4 then jj (fun (t12 : Hp) => rc a1 a2 a3 a4 (v5 + 5) t12) (fun j448 => (if x4 = 0 then jaJ t9 a3 0 (fun x13 => (if (lg_cmp x13 x8.toInt64) = 0 then j448 t9 else some (.inl (some (.int 0)), t9))) else j448 t9)) else some (.inl (some (.int 0)), t9)))) (fun _ _ => none))) (fun _ _ => none)))) (fun _ _ => none))
set_option maxHeartbeats 4000000 in
set_option maxRecDepth 100000 in
theorem w_L_law_c395 (l : Launch) (hst : l.stackTraces = false) {p : Program} {e : Env} {s : State} {m : MethodId} {args : Array Value} {below : List Frame} {meth : Method} {c : Code} {Q : State → Prop} {g : jG} {τ : Hp} (C : jC p l s m args meth c g RL cL_law 10 (some .boolean)) (rc : Nat → Nat → Nat → Nat → Int32 → Hp → jR) (a1 a2 a3 a4 : Nat) (v5 : Int32) (t0 : Hp) (kq nq : Nat) (hkq : kq + 30 ≤ 603072) (hnq : nq + 1000 ≤ 7219306) (hrc : ∀ (v : Int32) (t : Hp), rc a1 a2 a3 a4 v t = some (.inl (some (.int 1)), τ) → jW p l e room_1 s m args below meth c g Q (kq + 30) (nq + 1000) 28 [(0, .ref (gSa g)), (1, .ref a1), (2, .ref a2), (3, .ref a3), (4, .ref a4), (5, .int v)] [] t) (h : J_L_law_c395 g rc a1 a2 a3 a4 v5 t0 = some (.inl (some (.int 1)), τ)) : jW p l e room_1 s m args below meth c g Q kq nq 395 [(0, .ref (gSa g)), (1, .ref a1), (2, .ref a2), (3, .ref a3), (4, .ref a4), (5, .int v5)] [] t0 := by
  unfold J_L_law_c395 at h
  refine r_aload_n C (x := some a1) 396 rfl 1 dL_law_395 rfl ?_
  refine r_aload_n C (x := some (gSa g)) 397 rfl 0 dL_law_396 rfl ?_
  refine r_iload C 399 rfl 5 dL_law_397 rfl ?_
  refine r_iconst C (v := 1) 400 rfl dL_law_399 (by decide) ?_
  refine r_iadd C 401 rfl dL_law_400 ?_
  refine r_zald C 402 rfl dL_law_401 h (fun x1 h => ?_)
  refine r_aload_n C (x := some a3) 403 rfl 3 dL_law_402 rfl ?_
  refine r_callSX C mm_L_121 st_yL_removeRule 406 (kq + 1) (nq + 6) rfl rfl rfl dL_law_403 rfl rfl (As := [.ref a1, .int x1, .ref a3]) rfl rfl (Nat.le_of_ble_eq_true rfl) ⟨Nat.le_of_ble_eq_true rfl, Nat.le_of_ble_eq_true rfl⟩ ⟨(by show kq + 1 ≤ 603072; omega), (by show nq + 6 ≤ 7219306; omega)⟩ (fun o t h => k_L_removeRule l hst g _ _ _ _ o t h) h (fun w3 t2 h => ?_) (fun E t h => by cases h)
  replace h := jvI_some h
  obtain ⟨x4, rfl, h⟩ := h
  refine r_istore C 408 rfl [(6, .int x4), (0, .ref (gSa g)), (1, .ref a1), (2, .ref a2), (3, .ref a3), (4, .ref a4), (5, .int v5)] dL_law_406 (by decide) rfl ?_
  refine r_aload_n C (x := some a2) 409 rfl 3 dL_law_408 rfl ?_
  refine r_aload_n C (x := some (gSa g)) 410 rfl 1 dL_law_409 rfl ?_
  refine r_iload C 412 rfl 6 dL_law_410 rfl ?_
  refine r_iconst C (v := 1) 413 rfl dL_law_412 (by decide) ?_
  refine r_iadd C 414 rfl dL_law_413 ?_
  refine r_zald C 415 rfl dL_law_414 h (fun x5 h => ?_)
  refine r_callV C (ci := 6) mm_L_124 im_yX6_removeRule se_yX6_removeRule rfl 418 (kq + 1) (nq + 6) rfl rfl rfl dL_law_415 rfl rfl (As := [.int x5]) rfl rfl (Nat.le_of_ble_eq_true rfl) ⟨Nat.le_of_ble_eq_true rfl, Nat.le_of_ble_eq_true rfl⟩ ⟨(by show kq + 1 ≤ 603072; omega), (by show nq + 6 ≤ 7219306; omega)⟩ (fun o t h => k_X6_removeRule l hst g _ _ _ o t h) h (fun w7 t6 h => ?_) (fun E t h => by cases h)
  replace h := jvI_some h
  obtain ⟨x8, rfl, h⟩ := h
  refine r_istore C 420 rfl [(7, .int x8), (6, .int x4), (0, .ref (gSa g)), (1, .ref a1), (2, .ref a2), (3, .ref a3), (4, .ref a4), (5, .int v5)] dL_law_418 (by decide) rfl ?_
  refine r_aload_n C (x := some a2) 421 rfl 4 dL_law_420 rfl ?_
  refine r_callV C (ci := 6) mm_L_106 im_yX6_thrown se_yX6_thrown rfl 424 (kq + 1) (nq + 6) rfl rfl rfl dL_law_421 rfl rfl (As := []) rfl rfl (Nat.le_of_ble_eq_true rfl) ⟨Nat.le_of_ble_eq_true rfl, Nat.le_of_ble_eq_true rfl⟩ ⟨(by show kq + 1 ≤ 603072; omega), (by show nq + 6 ≤ 7219306; omega)⟩ (fun o t h => k_X6_thrown l hst g _ _ o t h) h (fun w10 t9 h => ?_) (fun E t h => by cases h)
  replace h := jvI_some h
  obtain ⟨x11, rfl, h⟩ := h
  refine r_iload C 426 rfl 1 dL_law_424 rfl ?_
  refine r_icmp_eq C 431 429 rfl dL_law_426 (by decide) h (fun h => ?_) (fun h => ?_)
  · refine r_iload C 433 rfl 1 dL_law_431 rfl ?_
    obtain ⟨j448, hj448E, h⟩ := jj_some h
    have hj448 : ∀ (t12 : Hp), j448 t12 = some (.inl (some (.int 1)), τ) → jW p l e room_1 s m args below meth c g (Q) (kq + 1) (nq + 6) 448 [(0, .ref (gSa g)), (1, .ref a1), (2, .ref a2), (3, .ref a3), (4, .ref a4), (5, .int v5)] [] t12 := by
      subst hj448E
      intro t12 h
      refine r_goto C 1711 dL_law_448 (by decide) ?_
      refine r_iinc C (v := v5 + 5) 1714 rfl 5 [(5, .int (v5 + 5)), (0, .ref (gSa g)), (1, .ref a1), (2, .ref a2), (3, .ref a3), (4, .ref a4)] dL_law_1711 rfl rfl (by decide) rfl ?_
      refine r_goto C 28 dL_law_1714 (by decide) ?_
      refine r_lv [1, 2, 3, 4, 5, 0] rfl ?_
      refine r_widen (k' := kq + 30) (n' := nq + 1000) (by omega) (by omega) ?_
      exact hrc (v5 + 5) t12 h
    clear hj448E
    refine r_if_ne C 448 436 rfl dL_law_433 (by decide) h (fun h => ?_) (fun h => ?_)
    · refine r_lv [2, 3, 4, 5, 6, 7] rfl ?_
      exact hj448 t9 h
    · refine r_aload_n C (x := some a3) 437 rfl 5 dL_law_436 rfl ?_
      refine r_iconst C (v := 0) 438 rfl dL_law_437 (by decide) ?_
      refine r_lald C 439 rfl dL_law_438 h (fun x13 h => ?_)
      refine r_iload C 441 rfl 0 dL_law_439 rfl ?_
      refine r_i2l C 442 rfl dL_law_441 ?_
      refine r_lcmp C 443 rfl dL_law_442 ?_
      refine r_if_eq C 448 446 rfl dL_law_443 (by decide) h (fun h => ?_) (fun h => ?_)
      · refine r_lv [2, 3, 4, 5, 6, 7] rfl ?_
        exact hj448 t9 h
      · refine r_iconst C (v := 0) 447 rfl dL_law_446 (by decide) ?_
        exact (j01 h).elim
  · refine r_iconst C (v := 0) 430 rfl dL_law_429 (by decide) ?_
    exact (j01 h).elim
def J_L_law_c451 (g : jG) (rc : Nat → Nat → Nat → Nat → Int32 → Hp → jR) (a1 a2 a3 a4 : Nat) (v5 : Int32) (t0 : Hp) : jR := jzI g (v5 + 1) (fun x1 => jzI g (v5 + 2) (fun x2 => jcs (J_L_ruleAt a1 x1 x2 a3 t0) (fun w4 t3 => jvI w4 (fun x5 => jzI g (v5 + 1) (fun x6 => jzI g (v5 + 2) (fun x7 => jcv t3 a2 6 (J_X6_ruleAt a2 x6 x7 t3) (fun w9 t8 => jvI w9 (fun x10 => jcv t8 a2 6 (J_X6_thrown a2 t8) (fun w12 t11 => jvI w12 (fun x13 => (if x13 = x5 then jj (fun (t14 : Hp) => rc a1 a2 a3 a4 (v5 + 5) t14) (fun j516 => (if x5 = 0 then jaJ t11 a3 0 (fun x15 => (if (lg_cmp x15 x10.toInt64) = 0 then j516 t11 else some (.inl (some (.int 0)), t11))) else j516 t11)) else some (.inl (some (.int 0)), t11)))) (fun _ _ => none))) (fun _ _ => none))))) (fun _ _ => none)))
set_option maxHeartbeats 4000000 in
set_option maxRecDepth 100000 in
theorem w_L_law_c451 (l : Launch) (hst : l.stackTraces = false) {p : Program} {e : Env} {s : State} {m : MethodId} {args : Array Value} {below : List Frame} {meth : Method} {c : Code} {Q : State → Prop} {g : jG} {τ : Hp} (C : jC p l s m args meth c g RL cL_law 10 (some .boolean)) (rc : Nat → Nat → Nat → Nat → Int32 → Hp → jR) (a1 a2 a3 a4 : Nat) (v5 : Int32) (t0 : Hp) (kq nq : Nat) (hkq : kq + 30 ≤ 603072) (hnq : nq + 1000 ≤ 7219306) (hrc : ∀ (v : Int32) (t : Hp), rc a1 a2 a3 a4 v t = some (.inl (some (.int 1)), τ) → jW p l e room_1 s m args below meth c g Q (kq + 30) (nq + 1000) 28 [(0, .ref (gSa g)), (1, .ref a1), (2, .ref a2), (3, .ref a3), (4, .ref a4), (5, .int v)] [] t) (h : J_L_law_c451 g rc a1 a2 a3 a4 v5 t0 = some (.inl (some (.int 1)), τ)) : jW p l e room_1 s m args below meth c g Q kq nq 451 [(0, .ref (gSa g)), (1, .ref a1), (2, .ref a2), (3, .ref a3), (4, .ref a4), (5, .int v5)] [] t0 := by
  unfold J_L_law_c451 at h
  refine r_aload_n C (x := some a1) 452 rfl 1 dL_law_451 rfl ?_
  refine r_aload_n C (x := some (gSa g)) 453 rfl 0 dL_law_452 rfl ?_
  refine r_iload C 455 rfl 5 dL_law_453 rfl ?_
  refine r_iconst C (v := 1) 456 rfl dL_law_455 (by decide) ?_
  refine r_iadd C 457 rfl dL_law_456 ?_
  refine r_zald C 458 rfl dL_law_457 h (fun x1 h => ?_)
  refine r_aload_n C (x := some (gSa g)) 459 rfl 0 dL_law_458 rfl ?_
  refine r_iload C 461 rfl 5 dL_law_459 rfl ?_
  refine r_iconst C (v := 2) 462 rfl dL_law_461 (by decide) ?_
  refine r_iadd C 463 rfl dL_law_462 ?_
  refine r_zald C 464 rfl dL_law_463 h (fun x2 h => ?_)
  refine r_aload_n C (x := some a3) 465 rfl 3 dL_law_464 rfl ?_
  refine r_callSX C mm_L_125 st_yL_ruleAt 468 (kq + 1) (nq + 6) rfl rfl rfl dL_law_465 rfl rfl (As := [.ref a1, .int x1, .int x2, .ref a3]) rfl rfl (Nat.le_of_ble_eq_true rfl) ⟨Nat.le_of_ble_eq_true rfl, Nat.le_of_ble_eq_true rfl⟩ ⟨(by show kq + 1 ≤ 603072; omega), (by show nq + 6 ≤ 7219306; omega)⟩ (fun o t h => k_L_ruleAt l hst g _ _ _ _ _ o t h) h (fun w4 t3 h => ?_) (fun E t h => by cases h)
  replace h := jvI_some h
  obtain ⟨x5, rfl, h⟩ := h
  refine r_istore C 470 rfl [(6, .int x5), (0, .ref (gSa g)), (1, .ref a1), (2, .ref a2), (3, .ref a3), (4, .ref a4), (5, .int v5)] dL_law_468 (by decide) rfl ?_
  refine r_aload_n C (x := some a2) 471 rfl 3 dL_law_470 rfl ?_
  refine r_aload_n C (x := some (gSa g)) 472 rfl 1 dL_law_471 rfl ?_
  refine r_iload C 474 rfl 6 dL_law_472 rfl ?_
  refine r_iconst C (v := 1) 475 rfl dL_law_474 (by decide) ?_
  refine r_iadd C 476 rfl dL_law_475 ?_
  refine r_zald C 477 rfl dL_law_476 h (fun x6 h => ?_)
  refine r_aload_n C (x := some (gSa g)) 478 rfl 1 dL_law_477 rfl ?_
  refine r_iload C 480 rfl 6 dL_law_478 rfl ?_
  refine r_iconst C (v := 2) 481 rfl dL_law_480 (by decide) ?_
  refine r_iadd C 482 rfl dL_law_481 ?_
  refine r_zald C 483 rfl dL_law_482 h (fun x7 h => ?_)
  refine r_callV C (ci := 6) mm_L_128 im_yX6_ruleAt se_yX6_ruleAt rfl 486 (kq + 1) (nq + 6) rfl rfl rfl dL_law_483 rfl rfl (As := [.int x6, .int x7]) rfl rfl (Nat.le_of_ble_eq_true rfl) ⟨Nat.le_of_ble_eq_true rfl, Nat.le_of_ble_eq_true rfl⟩ ⟨(by show kq + 1 ≤ 603072; omega), (by show nq + 6 ≤ 7219306; omega)⟩ (fun o t h => k_X6_ruleAt l hst g _ _ _ _ o t h) h (fun w9 t8 h => ?_) (fun E t h => by cases h)
  replace h := jvI_some h
  obtain ⟨x10, rfl, h⟩ := h
  refine r_istore C 488 rfl [(7, .int x10), (6, .int x5), (0, .ref (gSa g)), (1, .ref a1), (2, .ref a2), (3, .ref a3), (4, .ref a4), (5, .int v5)] dL_law_486 (by decide) rfl ?_
  refine r_aload_n C (x := some a2) 489 rfl 4 dL_law_488 rfl ?_
  refine r_callV C (ci := 6) mm_L_106 im_yX6_thrown se_yX6_thrown rfl 492 (kq + 1) (nq + 6) rfl rfl rfl dL_law_489 rfl rfl (As := []) rfl rfl (Nat.le_of_ble_eq_true rfl) ⟨Nat.le_of_ble_eq_true rfl, Nat.le_of_ble_eq_true rfl⟩ ⟨(by show kq + 1 ≤ 603072; omega), (by show nq + 6 ≤ 7219306; omega)⟩ (fun o t h => k_X6_thrown l hst g _ _ o t h) h (fun w12 t11 h => ?_) (fun E t h => by cases h)
  replace h := jvI_some h
  obtain ⟨x13, rfl, h⟩ := h
  refine r_iload C 494 rfl 1 dL_law_492 rfl ?_
  refine r_icmp_eq C 499 497 rfl dL_law_494 (by decide) h (fun h => ?_) (fun h => ?_)
  · refine r_iload C 501 rfl 1 dL_law_499 rfl ?_
    obtain ⟨j516, hj516E, h⟩ := jj_some h
    have hj516 : ∀ (t14 : Hp), j516 t14 = some (.inl (some (.int 1)), τ) → jW p l e room_1 s m args below meth c g (Q) (kq + 1) (nq + 6) 516 [(0, .ref (gSa g)), (1, .ref a1), (2, .ref a2), (3, .ref a3), (4, .ref a4), (5, .int v5)] [] t14 := by
      subst hj516E
      intro t14 h
      refine r_goto C 1711 dL_law_516 (by decide) ?_
      refine r_iinc C (v := v5 + 5) 1714 rfl 5 [(5, .int (v5 + 5)), (0, .ref (gSa g)), (1, .ref a1), (2, .ref a2), (3, .ref a3), (4, .ref a4)] dL_law_1711 rfl rfl (by decide) rfl ?_
      refine r_goto C 28 dL_law_1714 (by decide) ?_
      refine r_lv [1, 2, 3, 4, 5, 0] rfl ?_
      refine r_widen (k' := kq + 30) (n' := nq + 1000) (by omega) (by omega) ?_
      exact hrc (v5 + 5) t14 h
    clear hj516E
    refine r_if_ne C 516 504 rfl dL_law_501 (by decide) h (fun h => ?_) (fun h => ?_)
    · refine r_lv [2, 3, 4, 5, 6, 7] rfl ?_
      exact hj516 t11 h
    · refine r_aload_n C (x := some a3) 505 rfl 5 dL_law_504 rfl ?_
      refine r_iconst C (v := 0) 506 rfl dL_law_505 (by decide) ?_
      refine r_lald C 507 rfl dL_law_506 h (fun x15 h => ?_)
      refine r_iload C 509 rfl 0 dL_law_507 rfl ?_
      refine r_i2l C 510 rfl dL_law_509 ?_
      refine r_lcmp C 511 rfl dL_law_510 ?_
      refine r_if_eq C 516 514 rfl dL_law_511 (by decide) h (fun h => ?_) (fun h => ?_)
      · refine r_lv [2, 3, 4, 5, 6, 7] rfl ?_
        exact hj516 t11 h
      · refine r_iconst C (v := 0) 515 rfl dL_law_514 (by decide) ?_
        exact (j01 h).elim
  · refine r_iconst C (v := 0) 498 rfl dL_law_497 (by decide) ?_
    exact (j01 h).elim
def J_L_law_c519 (g : jG) (rc : Nat → Nat → Nat → Nat → Int32 → Hp → jR) (a1 a2 a3 a4 : Nat) (v5 : Int32) (t0 : Hp) : jR := jcs (J_L_turnException a1 a3 t0) (fun w2 t1 => jvI w2 (fun x3 => jcv t1 a2 6 (J_X6_turnException a2 t1) (fun w5 t4 => jvI w5 (fun x6 => jcv t4 a2 6 (J_X6_thrown a2 t4) (fun w8 t7 => jvI w8 (fun x9 => (if x9 = x3 then jj (fun (t10 : Hp) => rc a1 a2 a3 a4 (v5 + 5) t10) (fun j567 => (if x3 = 0 then jaJ t7 a3 0 (fun x11 => jj (fun (x12 : Int64) (t13 : Hp) => (if (lg_cmp x11 x12) = 0 then j567 t13 else some (.inl (some (.int 0)), t13))) (fun j561 => (if x6 = 0 then j561 0 t7 else j561 1 t7))) else j567 t7)) else some (.inl (some (.int 0)), t7)))) (fun _ _ => none))) (fun _ _ => none))) (fun _ _ => none)
set_option maxHeartbeats 4000000 in
set_option maxRecDepth 100000 in
theorem w_L_law_c519 (l : Launch) (hst : l.stackTraces = false) {p : Program} {e : Env} {s : State} {m : MethodId} {args : Array Value} {below : List Frame} {meth : Method} {c : Code} {Q : State → Prop} {g : jG} {τ : Hp} (C : jC p l s m args meth c g RL cL_law 10 (some .boolean)) (rc : Nat → Nat → Nat → Nat → Int32 → Hp → jR) (a1 a2 a3 a4 : Nat) (v5 : Int32) (t0 : Hp) (kq nq : Nat) (hkq : kq + 30 ≤ 603072) (hnq : nq + 1000 ≤ 7219306) (hrc : ∀ (v : Int32) (t : Hp), rc a1 a2 a3 a4 v t = some (.inl (some (.int 1)), τ) → jW p l e room_1 s m args below meth c g Q (kq + 30) (nq + 1000) 28 [(0, .ref (gSa g)), (1, .ref a1), (2, .ref a2), (3, .ref a3), (4, .ref a4), (5, .int v)] [] t) (h : J_L_law_c519 g rc a1 a2 a3 a4 v5 t0 = some (.inl (some (.int 1)), τ)) : jW p l e room_1 s m args below meth c g Q kq nq 519 [(0, .ref (gSa g)), (1, .ref a1), (2, .ref a2), (3, .ref a3), (4, .ref a4), (5, .int v5)] [] t0 := by
  unfold J_L_law_c519 at h
  refine r_aload_n C (x := some a1) 520 rfl 1 dL_law_519 rfl ?_
  refine r_aload_n C (x := some a3) 521 rfl 3 dL_law_520 rfl ?_
  refine r_callSX C mm_L_129 st_yL_turnException 524 (kq + 1) (nq + 6) rfl rfl rfl dL_law_521 rfl rfl (As := [.ref a1, .ref a3]) rfl rfl (Nat.le_of_ble_eq_true rfl) ⟨Nat.le_of_ble_eq_true rfl, Nat.le_of_ble_eq_true rfl⟩ ⟨(by show kq + 1 ≤ 603072; omega), (by show nq + 6 ≤ 7219306; omega)⟩ (fun o t h => k_L_turnException l hst g _ _ _ o t h) h (fun w2 t1 h => ?_) (fun E t h => by cases h)
  replace h := jvI_some h
  obtain ⟨x3, rfl, h⟩ := h
  refine r_istore C 526 rfl [(6, .int x3), (0, .ref (gSa g)), (1, .ref a1), (2, .ref a2), (3, .ref a3), (4, .ref a4), (5, .int v5)] dL_law_524 (by decide) rfl ?_
  refine r_aload_n C (x := some a2) 527 rfl 3 dL_law_526 rfl ?_
  refine r_callV C (ci := 6) mm_L_132 im_yX6_turnException se_yX6_turnException rfl 530 (kq + 1) (nq + 6) rfl rfl rfl dL_law_527 rfl rfl (As := []) rfl rfl (Nat.le_of_ble_eq_true rfl) ⟨Nat.le_of_ble_eq_true rfl, Nat.le_of_ble_eq_true rfl⟩ ⟨(by show kq + 1 ≤ 603072; omega), (by show nq + 6 ≤ 7219306; omega)⟩ (fun o t h => k_X6_turnException l hst g _ _ o t h) h (fun w5 t4 h => ?_) (fun E t h => by cases h)
  replace h := jvI_some h
  obtain ⟨x6, rfl, h⟩ := h
  refine r_istore C 532 rfl [(7, .int x6), (6, .int x3), (0, .ref (gSa g)), (1, .ref a1), (2, .ref a2), (3, .ref a3), (4, .ref a4), (5, .int v5)] dL_law_530 (by decide) rfl ?_
  refine r_aload_n C (x := some a2) 533 rfl 4 dL_law_532 rfl ?_
  refine r_callV C (ci := 6) mm_L_106 im_yX6_thrown se_yX6_thrown rfl 536 (kq + 1) (nq + 6) rfl rfl rfl dL_law_533 rfl rfl (As := []) rfl rfl (Nat.le_of_ble_eq_true rfl) ⟨Nat.le_of_ble_eq_true rfl, Nat.le_of_ble_eq_true rfl⟩ ⟨(by show kq + 1 ≤ 603072; omega), (by show nq + 6 ≤ 7219306; omega)⟩ (fun o t h => k_X6_thrown l hst g _ _ o t h) h (fun w8 t7 h => ?_) (fun E t h => by cases h)
  replace h := jvI_some h
  obtain ⟨x9, rfl, h⟩ := h
  refine r_iload C 538 rfl 1 dL_law_536 rfl ?_
  refine r_icmp_eq C 543 541 rfl dL_law_538 (by decide) h (fun h => ?_) (fun h => ?_)
  · refine r_iload C 545 rfl 1 dL_law_543 rfl ?_
    obtain ⟨j567, hj567E, h⟩ := jj_some h
    have hj567 : ∀ (t10 : Hp), j567 t10 = some (.inl (some (.int 1)), τ) → jW p l e room_1 s m args below meth c g (Q) (kq + 1) (nq + 6) 567 [(0, .ref (gSa g)), (1, .ref a1), (2, .ref a2), (3, .ref a3), (4, .ref a4), (5, .int v5)] [] t10 := by
      subst hj567E
      intro t10 h
      refine r_goto C 1711 dL_law_567 (by decide) ?_
      refine r_iinc C (v := v5 + 5) 1714 rfl 5 [(5, .int (v5 + 5)), (0, .ref (gSa g)), (1, .ref a1), (2, .ref a2), (3, .ref a3), (4, .ref a4)] dL_law_1711 rfl rfl (by decide) rfl ?_
      refine r_goto C 28 dL_law_1714 (by decide) ?_
      refine r_lv [1, 2, 3, 4, 5, 0] rfl ?_
      refine r_widen (k' := kq + 30) (n' := nq + 1000) (by omega) (by omega) ?_
      exact hrc (v5 + 5) t10 h
    clear hj567E
    refine r_if_ne C 567 548 rfl dL_law_545 (by decide) h (fun h => ?_) (fun h => ?_)
    · refine r_lv [2, 3, 4, 5, 6, 7] rfl ?_
      exact hj567 t7 h
    · refine r_aload_n C (x := some a3) 549 rfl 5 dL_law_548 rfl ?_
      refine r_iconst C (v := 0) 550 rfl dL_law_549 (by decide) ?_
      refine r_lald C 551 rfl dL_law_550 h (fun x11 h => ?_)
      refine r_iload C 553 rfl 0 dL_law_551 rfl ?_
      obtain ⟨j561, hj561E, h⟩ := jj_some h
      have hj561 : ∀ (x12 : Int64) (t13 : Hp), j561 x12 t13 = some (.inl (some (.int 1)), τ) → jW p l e room_1 s m args below meth c g (Q) (kq + 1) (nq + 6) 561 [(0, .ref (gSa g)), (1, .ref a1), (2, .ref a2), (3, .ref a3), (4, .ref a4), (5, .int v5)] [.long x12, .long x11] t13 := by
        subst hj561E
        intro x12 t13 h
        refine r_lcmp C 562 rfl dL_law_561 ?_
        refine r_if_eq C 567 565 rfl dL_law_562 (by decide) h (fun h => ?_) (fun h => ?_)
        · exact hj567 t13 h
        · refine r_iconst C (v := 0) 566 rfl dL_law_565 (by decide) ?_
          exact (j01 h).elim
      clear hj561E
      refine r_if_eq C 560 556 rfl dL_law_553 (by decide) h (fun h => ?_) (fun h => ?_)
      · refine r_lconst C (v := 0) 561 rfl dL_law_560 (by decide) ?_
        refine r_lv [2, 3, 4, 5, 6, 7] rfl ?_
        exact hj561 0 t7 h
      · refine r_lconst C (v := 1) 557 rfl dL_law_556 (by decide) ?_
        refine r_goto C 561 dL_law_557 (by decide) ?_
        refine r_lv [2, 3, 4, 5, 6, 7] rfl ?_
        exact hj561 1 t7 h
  · refine r_iconst C (v := 0) 542 rfl dL_law_541 (by decide) ?_
    exact (j01 h).elim
def J_L_law_c570 (g : jG) (rc : Nat → Nat → Nat → Nat → Int32 → Hp → jR) (a1 a2 a3 a4 : Nat) (v5 : Int32) (t0 : Hp) : jR := jzI g (v5 + 1) (fun x1 => jzI g (v5 + 2) (fun x2 => jcs (J_L_setText a1 x1 x2 a3 t0) (fun w4 t3 => jvI w4 (fun x5 => jzI g (v5 + 1) (fun x6 => jzI g (v5 + 2) (fun x7 => jcv t3 a2 6 (J_X6_setText a2 x6 x7 t3) (fun w9 t8 => jvI w9 (fun x10 => jcv t8 a2 6 (J_X6_thrown a2 t8) (fun w12 t11 => jvI w12 (fun x13 => (if x13 = x5 then jj (fun (t14 : Hp) => rc a1 a2 a3 a4 (v5 + 5) t14) (fun j635 => (if x5 = 0 then jaJ t11 a3 0 (fun x15 => (if (lg_cmp x15 x10.toInt64) = 0 then j635 t11 else some (.inl (some (.int 0)), t11))) else j635 t11)) else some (.inl (some (.int 0)), t11)))) (fun _ _ => none))) (fun _ _ => none))))) (fun _ _ => none)))
set_option maxHeartbeats 4000000 in
set_option maxRecDepth 100000 in
theorem w_L_law_c570 (l : Launch) (hst : l.stackTraces = false) {p : Program} {e : Env} {s : State} {m : MethodId} {args : Array Value} {below : List Frame} {meth : Method} {c : Code} {Q : State → Prop} {g : jG} {τ : Hp} (C : jC p l s m args meth c g RL cL_law 10 (some .boolean)) (rc : Nat → Nat → Nat → Nat → Int32 → Hp → jR) (a1 a2 a3 a4 : Nat) (v5 : Int32) (t0 : Hp) (kq nq : Nat) (hkq : kq + 30 ≤ 603072) (hnq : nq + 1000 ≤ 7219306) (hrc : ∀ (v : Int32) (t : Hp), rc a1 a2 a3 a4 v t = some (.inl (some (.int 1)), τ) → jW p l e room_1 s m args below meth c g Q (kq + 30) (nq + 1000) 28 [(0, .ref (gSa g)), (1, .ref a1), (2, .ref a2), (3, .ref a3), (4, .ref a4), (5, .int v)] [] t) (h : J_L_law_c570 g rc a1 a2 a3 a4 v5 t0 = some (.inl (some (.int 1)), τ)) : jW p l e room_1 s m args below meth c g Q kq nq 570 [(0, .ref (gSa g)), (1, .ref a1), (2, .ref a2), (3, .ref a3), (4, .ref a4), (5, .int v5)] [] t0 := by
  unfold J_L_law_c570 at h
  refine r_aload_n C (x := some a1) 571 rfl 1 dL_law_570 rfl ?_
  refine r_aload_n C (x := some (gSa g)) 572 rfl 0 dL_law_571 rfl ?_
  refine r_iload C 574 rfl 5 dL_law_572 rfl ?_
  refine r_iconst C (v := 1) 575 rfl dL_law_574 (by decide) ?_
  refine r_iadd C 576 rfl dL_law_575 ?_
  refine r_zald C 577 rfl dL_law_576 h (fun x1 h => ?_)
  refine r_aload_n C (x := some (gSa g)) 578 rfl 0 dL_law_577 rfl ?_
  refine r_iload C 580 rfl 5 dL_law_578 rfl ?_
  refine r_iconst C (v := 2) 581 rfl dL_law_580 (by decide) ?_
  refine r_iadd C 582 rfl dL_law_581 ?_
  refine r_zald C 583 rfl dL_law_582 h (fun x2 h => ?_)
  refine r_aload_n C (x := some a3) 584 rfl 3 dL_law_583 rfl ?_
  refine r_callSX C mm_L_133 st_yL_setText 587 (kq + 25) (nq + 915) rfl rfl rfl dL_law_584 rfl rfl (As := [.ref a1, .int x1, .int x2, .ref a3]) rfl rfl (Nat.le_of_ble_eq_true rfl) ⟨Nat.le_of_ble_eq_true rfl, Nat.le_of_ble_eq_true rfl⟩ ⟨(by show kq + 25 ≤ 603072; omega), (by show nq + 915 ≤ 7219306; omega)⟩ (fun o t h => k_L_setText l hst g _ _ _ _ _ o t h) h (fun w4 t3 h => ?_) (fun E t h => by cases h)
  replace h := jvI_some h
  obtain ⟨x5, rfl, h⟩ := h
  refine r_istore C 589 rfl [(6, .int x5), (0, .ref (gSa g)), (1, .ref a1), (2, .ref a2), (3, .ref a3), (4, .ref a4), (5, .int v5)] dL_law_587 (by decide) rfl ?_
  refine r_aload_n C (x := some a2) 590 rfl 3 dL_law_589 rfl ?_
  refine r_aload_n C (x := some (gSa g)) 591 rfl 1 dL_law_590 rfl ?_
  refine r_iload C 593 rfl 6 dL_law_591 rfl ?_
  refine r_iconst C (v := 1) 594 rfl dL_law_593 (by decide) ?_
  refine r_iadd C 595 rfl dL_law_594 ?_
  refine r_zald C 596 rfl dL_law_595 h (fun x6 h => ?_)
  refine r_aload_n C (x := some (gSa g)) 597 rfl 1 dL_law_596 rfl ?_
  refine r_iload C 599 rfl 6 dL_law_597 rfl ?_
  refine r_iconst C (v := 2) 600 rfl dL_law_599 (by decide) ?_
  refine r_iadd C 601 rfl dL_law_600 ?_
  refine r_zald C 602 rfl dL_law_601 h (fun x7 h => ?_)
  refine r_callV C (ci := 6) mm_L_135 im_yX6_setText se_yX6_setText rfl 605 (kq + 25) (nq + 915) rfl rfl rfl dL_law_602 rfl rfl (As := [.int x6, .int x7]) rfl rfl (Nat.le_of_ble_eq_true rfl) ⟨Nat.le_of_ble_eq_true rfl, Nat.le_of_ble_eq_true rfl⟩ ⟨(by show kq + 25 ≤ 603072; omega), (by show nq + 915 ≤ 7219306; omega)⟩ (fun o t h => k_X6_setText l hst g _ _ _ _ o t h) h (fun w9 t8 h => ?_) (fun E t h => by cases h)
  replace h := jvI_some h
  obtain ⟨x10, rfl, h⟩ := h
  refine r_istore C 607 rfl [(7, .int x10), (6, .int x5), (0, .ref (gSa g)), (1, .ref a1), (2, .ref a2), (3, .ref a3), (4, .ref a4), (5, .int v5)] dL_law_605 (by decide) rfl ?_
  refine r_aload_n C (x := some a2) 608 rfl 4 dL_law_607 rfl ?_
  refine r_callV C (ci := 6) mm_L_106 im_yX6_thrown se_yX6_thrown rfl 611 (kq + 25) (nq + 915) rfl rfl rfl dL_law_608 rfl rfl (As := []) rfl rfl (Nat.le_of_ble_eq_true rfl) ⟨Nat.le_of_ble_eq_true rfl, Nat.le_of_ble_eq_true rfl⟩ ⟨(by show kq + 25 ≤ 603072; omega), (by show nq + 915 ≤ 7219306; omega)⟩ (fun o t h => k_X6_thrown l hst g _ _ o t h) h (fun w12 t11 h => ?_) (fun E t h => by cases h)
  replace h := jvI_some h
  obtain ⟨x13, rfl, h⟩ := h
  refine r_iload C 613 rfl 1 dL_law_611 rfl ?_
  refine r_icmp_eq C 618 616 rfl dL_law_613 (by decide) h (fun h => ?_) (fun h => ?_)
  · refine r_iload C 620 rfl 1 dL_law_618 rfl ?_
    obtain ⟨j635, hj635E, h⟩ := jj_some h
    have hj635 : ∀ (t14 : Hp), j635 t14 = some (.inl (some (.int 1)), τ) → jW p l e room_1 s m args below meth c g (Q) (kq + 25) (nq + 915) 635 [(0, .ref (gSa g)), (1, .ref a1), (2, .ref a2), (3, .ref a3), (4, .ref a4), (5, .int v5)] [] t14 := by
      subst hj635E
      intro t14 h
      refine r_goto C 1711 dL_law_635 (by decide) ?_
      refine r_iinc C (v := v5 + 5) 1714 rfl 5 [(5, .int (v5 + 5)), (0, .ref (gSa g)), (1, .ref a1), (2, .ref a2), (3, .ref a3), (4, .ref a4)] dL_law_1711 rfl rfl (by decide) rfl ?_
      refine r_goto C 28 dL_law_1714 (by decide) ?_
      refine r_lv [1, 2, 3, 4, 5, 0] rfl ?_
      refine r_widen (k' := kq + 30) (n' := nq + 1000) (by omega) (by omega) ?_
      exact hrc (v5 + 5) t14 h
    clear hj635E
    refine r_if_ne C 635 623 rfl dL_law_620 (by decide) h (fun h => ?_) (fun h => ?_)
    · refine r_lv [2, 3, 4, 5, 6, 7] rfl ?_
      exact hj635 t11 h
    · refine r_aload_n C (x := some a3) 624 rfl 5 dL_law_623 rfl ?_
      refine r_iconst C (v := 0) 625 rfl dL_law_624 (by decide) ?_
      refine r_lald C 626 rfl dL_law_625 h (fun x15 h => ?_)
      refine r_iload C 628 rfl 0 dL_law_626 rfl ?_
      refine r_i2l C 629 rfl dL_law_628 ?_
      refine r_lcmp C 630 rfl dL_law_629 ?_
      refine r_if_eq C 635 633 rfl dL_law_630 (by decide) h (fun h => ?_) (fun h => ?_)
      · refine r_lv [2, 3, 4, 5, 6, 7] rfl ?_
        exact hj635 t11 h
      · refine r_iconst C (v := 0) 634 rfl dL_law_633 (by decide) ?_
        exact (j01 h).elim
  · refine r_iconst C (v := 0) 617 rfl dL_law_616 (by decide) ?_
    exact (j01 h).elim
def J_L_law_c638 (g : jG) (rc : Nat → Nat → Nat → Nat → Int32 → Hp → jR) (a1 a2 a3 a4 : Nat) (v5 : Int32) (t0 : Hp) : jR := jzI g (v5 + 1) (fun x1 => jcs (J_L_setWidth a1 x1 a3 t0) (fun w3 t2 => jvI w3 (fun x4 => jzI g (v5 + 1) (fun x5 => jcv t2 a2 6 (J_X6_setWidth a2 x5 t2) (fun w7 t6 => jvI w7 (fun x8 => jcv t6 a2 6 (J_X6_thrown a2 t6) (fun w10 t9 => jvI w10 (fun x11 => (if x11 = x4 then jj (fun (t12 : Hp) => rc a1 a2 a3 a4 (v5 + 5) t12) (fun j691 => (if x4 = 0 then jaJ t9 a3 0 (fun x13 => (if (lg_cmp x13 x8.toInt64) = 0 then j691 t9 else some (.inl (some (.int 0)), t9))) else j691 t9)) else some (.inl (some (.int 0)), t9)))) (fun _ _ => none))) (fun _ _ => none)))) (fun _ _ => none))
set_option maxHeartbeats 4000000 in
set_option maxRecDepth 100000 in
theorem w_L_law_c638 (l : Launch) (hst : l.stackTraces = false) {p : Program} {e : Env} {s : State} {m : MethodId} {args : Array Value} {below : List Frame} {meth : Method} {c : Code} {Q : State → Prop} {g : jG} {τ : Hp} (C : jC p l s m args meth c g RL cL_law 10 (some .boolean)) (rc : Nat → Nat → Nat → Nat → Int32 → Hp → jR) (a1 a2 a3 a4 : Nat) (v5 : Int32) (t0 : Hp) (kq nq : Nat) (hkq : kq + 30 ≤ 603072) (hnq : nq + 1000 ≤ 7219306) (hrc : ∀ (v : Int32) (t : Hp), rc a1 a2 a3 a4 v t = some (.inl (some (.int 1)), τ) → jW p l e room_1 s m args below meth c g Q (kq + 30) (nq + 1000) 28 [(0, .ref (gSa g)), (1, .ref a1), (2, .ref a2), (3, .ref a3), (4, .ref a4), (5, .int v)] [] t) (h : J_L_law_c638 g rc a1 a2 a3 a4 v5 t0 = some (.inl (some (.int 1)), τ)) : jW p l e room_1 s m args below meth c g Q kq nq 638 [(0, .ref (gSa g)), (1, .ref a1), (2, .ref a2), (3, .ref a3), (4, .ref a4), (5, .int v5)] [] t0 := by
  unfold J_L_law_c638 at h
  refine r_aload_n C (x := some a1) 639 rfl 1 dL_law_638 rfl ?_
  refine r_aload_n C (x := some (gSa g)) 640 rfl 0 dL_law_639 rfl ?_
  refine r_iload C 642 rfl 5 dL_law_640 rfl ?_
  refine r_iconst C (v := 1) 643 rfl dL_law_642 (by decide) ?_
  refine r_iadd C 644 rfl dL_law_643 ?_
  refine r_zald C 645 rfl dL_law_644 h (fun x1 h => ?_)
  refine r_aload_n C (x := some a3) 646 rfl 3 dL_law_645 rfl ?_
  refine r_callSX C mm_L_136 st_yL_setWidth 649 (kq + 1) (nq + 6) rfl rfl rfl dL_law_646 rfl rfl (As := [.ref a1, .int x1, .ref a3]) rfl rfl (Nat.le_of_ble_eq_true rfl) ⟨Nat.le_of_ble_eq_true rfl, Nat.le_of_ble_eq_true rfl⟩ ⟨(by show kq + 1 ≤ 603072; omega), (by show nq + 6 ≤ 7219306; omega)⟩ (fun o t h => k_L_setWidth l hst g _ _ _ _ o t h) h (fun w3 t2 h => ?_) (fun E t h => by cases h)
  replace h := jvI_some h
  obtain ⟨x4, rfl, h⟩ := h
  refine r_istore C 651 rfl [(6, .int x4), (0, .ref (gSa g)), (1, .ref a1), (2, .ref a2), (3, .ref a3), (4, .ref a4), (5, .int v5)] dL_law_649 (by decide) rfl ?_
  refine r_aload_n C (x := some a2) 652 rfl 3 dL_law_651 rfl ?_
  refine r_aload_n C (x := some (gSa g)) 653 rfl 1 dL_law_652 rfl ?_
  refine r_iload C 655 rfl 6 dL_law_653 rfl ?_
  refine r_iconst C (v := 1) 656 rfl dL_law_655 (by decide) ?_
  refine r_iadd C 657 rfl dL_law_656 ?_
  refine r_zald C 658 rfl dL_law_657 h (fun x5 h => ?_)
  refine r_callV C (ci := 6) mm_L_138 im_yX6_setWidth se_yX6_setWidth rfl 661 (kq + 1) (nq + 6) rfl rfl rfl dL_law_658 rfl rfl (As := [.int x5]) rfl rfl (Nat.le_of_ble_eq_true rfl) ⟨Nat.le_of_ble_eq_true rfl, Nat.le_of_ble_eq_true rfl⟩ ⟨(by show kq + 1 ≤ 603072; omega), (by show nq + 6 ≤ 7219306; omega)⟩ (fun o t h => k_X6_setWidth l hst g _ _ _ o t h) h (fun w7 t6 h => ?_) (fun E t h => by cases h)
  replace h := jvI_some h
  obtain ⟨x8, rfl, h⟩ := h
  refine r_istore C 663 rfl [(7, .int x8), (6, .int x4), (0, .ref (gSa g)), (1, .ref a1), (2, .ref a2), (3, .ref a3), (4, .ref a4), (5, .int v5)] dL_law_661 (by decide) rfl ?_
  refine r_aload_n C (x := some a2) 664 rfl 4 dL_law_663 rfl ?_
  refine r_callV C (ci := 6) mm_L_106 im_yX6_thrown se_yX6_thrown rfl 667 (kq + 1) (nq + 6) rfl rfl rfl dL_law_664 rfl rfl (As := []) rfl rfl (Nat.le_of_ble_eq_true rfl) ⟨Nat.le_of_ble_eq_true rfl, Nat.le_of_ble_eq_true rfl⟩ ⟨(by show kq + 1 ≤ 603072; omega), (by show nq + 6 ≤ 7219306; omega)⟩ (fun o t h => k_X6_thrown l hst g _ _ o t h) h (fun w10 t9 h => ?_) (fun E t h => by cases h)
  replace h := jvI_some h
  obtain ⟨x11, rfl, h⟩ := h
  refine r_iload C 669 rfl 1 dL_law_667 rfl ?_
  refine r_icmp_eq C 674 672 rfl dL_law_669 (by decide) h (fun h => ?_) (fun h => ?_)
  · refine r_iload C 676 rfl 1 dL_law_674 rfl ?_
    obtain ⟨j691, hj691E, h⟩ := jj_some h
    have hj691 : ∀ (t12 : Hp), j691 t12 = some (.inl (some (.int 1)), τ) → jW p l e room_1 s m args below meth c g (Q) (kq + 1) (nq + 6) 691 [(0, .ref (gSa g)), (1, .ref a1), (2, .ref a2), (3, .ref a3), (4, .ref a4), (5, .int v5)] [] t12 := by
      subst hj691E
      intro t12 h
      refine r_goto C 1711 dL_law_691 (by decide) ?_
      refine r_iinc C (v := v5 + 5) 1714 rfl 5 [(5, .int (v5 + 5)), (0, .ref (gSa g)), (1, .ref a1), (2, .ref a2), (3, .ref a3), (4, .ref a4)] dL_law_1711 rfl rfl (by decide) rfl ?_
      refine r_goto C 28 dL_law_1714 (by decide) ?_
      refine r_lv [1, 2, 3, 4, 5, 0] rfl ?_
      refine r_widen (k' := kq + 30) (n' := nq + 1000) (by omega) (by omega) ?_
      exact hrc (v5 + 5) t12 h
    clear hj691E
    refine r_if_ne C 691 679 rfl dL_law_676 (by decide) h (fun h => ?_) (fun h => ?_)
    · refine r_lv [2, 3, 4, 5, 6, 7] rfl ?_
      exact hj691 t9 h
    · refine r_aload_n C (x := some a3) 680 rfl 5 dL_law_679 rfl ?_
      refine r_iconst C (v := 0) 681 rfl dL_law_680 (by decide) ?_
      refine r_lald C 682 rfl dL_law_681 h (fun x13 h => ?_)
      refine r_iload C 684 rfl 0 dL_law_682 rfl ?_
      refine r_i2l C 685 rfl dL_law_684 ?_
      refine r_lcmp C 686 rfl dL_law_685 ?_
      refine r_if_eq C 691 689 rfl dL_law_686 (by decide) h (fun h => ?_) (fun h => ?_)
      · refine r_lv [2, 3, 4, 5, 6, 7] rfl ?_
        exact hj691 t9 h
      · refine r_iconst C (v := 0) 690 rfl dL_law_689 (by decide) ?_
        exact (j01 h).elim
  · refine r_iconst C (v := 0) 673 rfl dL_law_672 (by decide) ?_
    exact (j01 h).elim
def J_L_law_c694 (g : jG) (rc : Nat → Nat → Nat → Nat → Int32 → Hp → jR) (a1 a2 a3 a4 : Nat) (v5 : Int32) (t0 : Hp) : jR := jzI g (v5 + 1) (fun x1 => jcs (J_L_words a1 x1 a3 t0) (fun w3 t2 => jvI w3 (fun x4 => jzI g (v5 + 1) (fun x5 => jcv t2 a2 6 (J_X6_words a2 x5 t2) (fun w7 t6 => jvI w7 (fun x8 => jcv t6 a2 6 (J_X6_thrown a2 t6) (fun w10 t9 => jvI w10 (fun x11 => (if x11 = x4 then jj (fun (t12 : Hp) => rc a1 a2 a3 a4 (v5 + 5) t12) (fun j747 => (if x4 = 0 then jaJ t9 a3 0 (fun x13 => (if (lg_cmp x13 x8.toInt64) = 0 then j747 t9 else some (.inl (some (.int 0)), t9))) else j747 t9)) else some (.inl (some (.int 0)), t9)))) (fun _ _ => none))) (fun _ _ => none)))) (fun _ _ => none))
set_option maxHeartbeats 4000000 in
set_option maxRecDepth 100000 in
theorem w_L_law_c694 (l : Launch) (hst : l.stackTraces = false) {p : Program} {e : Env} {s : State} {m : MethodId} {args : Array Value} {below : List Frame} {meth : Method} {c : Code} {Q : State → Prop} {g : jG} {τ : Hp} (C : jC p l s m args meth c g RL cL_law 10 (some .boolean)) (rc : Nat → Nat → Nat → Nat → Int32 → Hp → jR) (a1 a2 a3 a4 : Nat) (v5 : Int32) (t0 : Hp) (kq nq : Nat) (hkq : kq + 30 ≤ 603072) (hnq : nq + 1000 ≤ 7219306) (hrc : ∀ (v : Int32) (t : Hp), rc a1 a2 a3 a4 v t = some (.inl (some (.int 1)), τ) → jW p l e room_1 s m args below meth c g Q (kq + 30) (nq + 1000) 28 [(0, .ref (gSa g)), (1, .ref a1), (2, .ref a2), (3, .ref a3), (4, .ref a4), (5, .int v)] [] t) (h : J_L_law_c694 g rc a1 a2 a3 a4 v5 t0 = some (.inl (some (.int 1)), τ)) : jW p l e room_1 s m args below meth c g Q kq nq 694 [(0, .ref (gSa g)), (1, .ref a1), (2, .ref a2), (3, .ref a3), (4, .ref a4), (5, .int v5)] [] t0 := by
  unfold J_L_law_c694 at h
  refine r_aload_n C (x := some a1) 695 rfl 1 dL_law_694 rfl ?_
  refine r_aload_n C (x := some (gSa g)) 696 rfl 0 dL_law_695 rfl ?_
  refine r_iload C 698 rfl 5 dL_law_696 rfl ?_
  refine r_iconst C (v := 1) 699 rfl dL_law_698 (by decide) ?_
  refine r_iadd C 700 rfl dL_law_699 ?_
  refine r_zald C 701 rfl dL_law_700 h (fun x1 h => ?_)
  refine r_aload_n C (x := some a3) 702 rfl 3 dL_law_701 rfl ?_
  refine r_callSX C mm_L_139 st_yL_words 705 (kq + 1) (nq + 6) rfl rfl rfl dL_law_702 rfl rfl (As := [.ref a1, .int x1, .ref a3]) rfl rfl (Nat.le_of_ble_eq_true rfl) ⟨Nat.le_of_ble_eq_true rfl, Nat.le_of_ble_eq_true rfl⟩ ⟨(by show kq + 1 ≤ 603072; omega), (by show nq + 6 ≤ 7219306; omega)⟩ (fun o t h => k_L_words l hst g _ _ _ _ o t h) h (fun w3 t2 h => ?_) (fun E t h => by cases h)
  replace h := jvI_some h
  obtain ⟨x4, rfl, h⟩ := h
  refine r_istore C 707 rfl [(6, .int x4), (0, .ref (gSa g)), (1, .ref a1), (2, .ref a2), (3, .ref a3), (4, .ref a4), (5, .int v5)] dL_law_705 (by decide) rfl ?_
  refine r_aload_n C (x := some a2) 708 rfl 3 dL_law_707 rfl ?_
  refine r_aload_n C (x := some (gSa g)) 709 rfl 1 dL_law_708 rfl ?_
  refine r_iload C 711 rfl 6 dL_law_709 rfl ?_
  refine r_iconst C (v := 1) 712 rfl dL_law_711 (by decide) ?_
  refine r_iadd C 713 rfl dL_law_712 ?_
  refine r_zald C 714 rfl dL_law_713 h (fun x5 h => ?_)
  refine r_callV C (ci := 6) mm_L_141 im_yX6_words se_yX6_words rfl 717 (kq + 1) (nq + 6) rfl rfl rfl dL_law_714 rfl rfl (As := [.int x5]) rfl rfl (Nat.le_of_ble_eq_true rfl) ⟨Nat.le_of_ble_eq_true rfl, Nat.le_of_ble_eq_true rfl⟩ ⟨(by show kq + 1 ≤ 603072; omega), (by show nq + 6 ≤ 7219306; omega)⟩ (fun o t h => k_X6_words l hst g _ _ _ o t h) h (fun w7 t6 h => ?_) (fun E t h => by cases h)
  replace h := jvI_some h
  obtain ⟨x8, rfl, h⟩ := h
  refine r_istore C 719 rfl [(7, .int x8), (6, .int x4), (0, .ref (gSa g)), (1, .ref a1), (2, .ref a2), (3, .ref a3), (4, .ref a4), (5, .int v5)] dL_law_717 (by decide) rfl ?_
  refine r_aload_n C (x := some a2) 720 rfl 4 dL_law_719 rfl ?_
  refine r_callV C (ci := 6) mm_L_106 im_yX6_thrown se_yX6_thrown rfl 723 (kq + 1) (nq + 6) rfl rfl rfl dL_law_720 rfl rfl (As := []) rfl rfl (Nat.le_of_ble_eq_true rfl) ⟨Nat.le_of_ble_eq_true rfl, Nat.le_of_ble_eq_true rfl⟩ ⟨(by show kq + 1 ≤ 603072; omega), (by show nq + 6 ≤ 7219306; omega)⟩ (fun o t h => k_X6_thrown l hst g _ _ o t h) h (fun w10 t9 h => ?_) (fun E t h => by cases h)
  replace h := jvI_some h
  obtain ⟨x11, rfl, h⟩ := h
  refine r_iload C 725 rfl 1 dL_law_723 rfl ?_
  refine r_icmp_eq C 730 728 rfl dL_law_725 (by decide) h (fun h => ?_) (fun h => ?_)
  · refine r_iload C 732 rfl 1 dL_law_730 rfl ?_
    obtain ⟨j747, hj747E, h⟩ := jj_some h
    have hj747 : ∀ (t12 : Hp), j747 t12 = some (.inl (some (.int 1)), τ) → jW p l e room_1 s m args below meth c g (Q) (kq + 1) (nq + 6) 747 [(0, .ref (gSa g)), (1, .ref a1), (2, .ref a2), (3, .ref a3), (4, .ref a4), (5, .int v5)] [] t12 := by
      subst hj747E
      intro t12 h
      refine r_goto C 1711 dL_law_747 (by decide) ?_
      refine r_iinc C (v := v5 + 5) 1714 rfl 5 [(5, .int (v5 + 5)), (0, .ref (gSa g)), (1, .ref a1), (2, .ref a2), (3, .ref a3), (4, .ref a4)] dL_law_1711 rfl rfl (by decide) rfl ?_
      refine r_goto C 28 dL_law_1714 (by decide) ?_
      refine r_lv [1, 2, 3, 4, 5, 0] rfl ?_
      refine r_widen (k' := kq + 30) (n' := nq + 1000) (by omega) (by omega) ?_
      exact hrc (v5 + 5) t12 h
    clear hj747E
    refine r_if_ne C 747 735 rfl dL_law_732 (by decide) h (fun h => ?_) (fun h => ?_)
    · refine r_lv [2, 3, 4, 5, 6, 7] rfl ?_
      exact hj747 t9 h
    · refine r_aload_n C (x := some a3) 736 rfl 5 dL_law_735 rfl ?_
      refine r_iconst C (v := 0) 737 rfl dL_law_736 (by decide) ?_
      refine r_lald C 738 rfl dL_law_737 h (fun x13 h => ?_)
      refine r_iload C 740 rfl 0 dL_law_738 rfl ?_
      refine r_i2l C 741 rfl dL_law_740 ?_
      refine r_lcmp C 742 rfl dL_law_741 ?_
      refine r_if_eq C 747 745 rfl dL_law_742 (by decide) h (fun h => ?_) (fun h => ?_)
      · refine r_lv [2, 3, 4, 5, 6, 7] rfl ?_
        exact hj747 t9 h
      · refine r_iconst C (v := 0) 746 rfl dL_law_745 (by decide) ?_
        exact (j01 h).elim
  · refine r_iconst C (v := 0) 729 rfl dL_law_728 (by decide) ?_
    exact (j01 h).elim
def J_L_law_c750 (g : jG) (rc : Nat → Nat → Nat → Nat → Int32 → Hp → jR) (a1 a2 a3 a4 : Nat) (v5 : Int32) (t0 : Hp) : jR := jzI g (v5 + 1) (fun x1 => jzI g (v5 + 2) (fun x2 => jcs (J_L_length a1 x1 x2 a3 t0) (fun w4 t3 => jvI w4 (fun x5 => jzI g (v5 + 1) (fun x6 => jzI g (v5 + 2) (fun x7 => jcv t3 a2 6 (J_X6_length a2 x6 x7 t3) (fun w9 t8 => jvI w9 (fun x10 => jcv t8 a2 6 (J_X6_thrown a2 t8) (fun w12 t11 => jvI w12 (fun x13 => (if x13 = x5 then jj (fun (t14 : Hp) => rc a1 a2 a3 a4 (v5 + 5) t14) (fun j815 => (if x5 = 0 then jaJ t11 a3 0 (fun x15 => (if (lg_cmp x15 x10.toInt64) = 0 then j815 t11 else some (.inl (some (.int 0)), t11))) else j815 t11)) else some (.inl (some (.int 0)), t11)))) (fun _ _ => none))) (fun _ _ => none))))) (fun _ _ => none)))
set_option maxHeartbeats 4000000 in
set_option maxRecDepth 100000 in
theorem w_L_law_c750 (l : Launch) (hst : l.stackTraces = false) {p : Program} {e : Env} {s : State} {m : MethodId} {args : Array Value} {below : List Frame} {meth : Method} {c : Code} {Q : State → Prop} {g : jG} {τ : Hp} (C : jC p l s m args meth c g RL cL_law 10 (some .boolean)) (rc : Nat → Nat → Nat → Nat → Int32 → Hp → jR) (a1 a2 a3 a4 : Nat) (v5 : Int32) (t0 : Hp) (kq nq : Nat) (hkq : kq + 30 ≤ 603072) (hnq : nq + 1000 ≤ 7219306) (hrc : ∀ (v : Int32) (t : Hp), rc a1 a2 a3 a4 v t = some (.inl (some (.int 1)), τ) → jW p l e room_1 s m args below meth c g Q (kq + 30) (nq + 1000) 28 [(0, .ref (gSa g)), (1, .ref a1), (2, .ref a2), (3, .ref a3), (4, .ref a4), (5, .int v)] [] t) (h : J_L_law_c750 g rc a1 a2 a3 a4 v5 t0 = some (.inl (some (.int 1)), τ)) : jW p l e room_1 s m args below meth c g Q kq nq 750 [(0, .ref (gSa g)), (1, .ref a1), (2, .ref a2), (3, .ref a3), (4, .ref a4), (5, .int v5)] [] t0 := by
  unfold J_L_law_c750 at h
  refine r_aload_n C (x := some a1) 751 rfl 1 dL_law_750 rfl ?_
  refine r_aload_n C (x := some (gSa g)) 752 rfl 0 dL_law_751 rfl ?_
  refine r_iload C 754 rfl 5 dL_law_752 rfl ?_
  refine r_iconst C (v := 1) 755 rfl dL_law_754 (by decide) ?_
  refine r_iadd C 756 rfl dL_law_755 ?_
  refine r_zald C 757 rfl dL_law_756 h (fun x1 h => ?_)
  refine r_aload_n C (x := some (gSa g)) 758 rfl 0 dL_law_757 rfl ?_
  refine r_iload C 760 rfl 5 dL_law_758 rfl ?_
  refine r_iconst C (v := 2) 761 rfl dL_law_760 (by decide) ?_
  refine r_iadd C 762 rfl dL_law_761 ?_
  refine r_zald C 763 rfl dL_law_762 h (fun x2 h => ?_)
  refine r_aload_n C (x := some a3) 764 rfl 3 dL_law_763 rfl ?_
  refine r_callSX C mm_L_142 st_yL_length 767 (kq + 2) (nq + 12) rfl rfl rfl dL_law_764 rfl rfl (As := [.ref a1, .int x1, .int x2, .ref a3]) rfl rfl (Nat.le_of_ble_eq_true rfl) ⟨Nat.le_of_ble_eq_true rfl, Nat.le_of_ble_eq_true rfl⟩ ⟨(by show kq + 2 ≤ 603072; omega), (by show nq + 12 ≤ 7219306; omega)⟩ (fun o t h => k_L_length l hst g _ _ _ _ _ o t h) h (fun w4 t3 h => ?_) (fun E t h => by cases h)
  replace h := jvI_some h
  obtain ⟨x5, rfl, h⟩ := h
  refine r_istore C 769 rfl [(6, .int x5), (0, .ref (gSa g)), (1, .ref a1), (2, .ref a2), (3, .ref a3), (4, .ref a4), (5, .int v5)] dL_law_767 (by decide) rfl ?_
  refine r_aload_n C (x := some a2) 770 rfl 3 dL_law_769 rfl ?_
  refine r_aload_n C (x := some (gSa g)) 771 rfl 1 dL_law_770 rfl ?_
  refine r_iload C 773 rfl 6 dL_law_771 rfl ?_
  refine r_iconst C (v := 1) 774 rfl dL_law_773 (by decide) ?_
  refine r_iadd C 775 rfl dL_law_774 ?_
  refine r_zald C 776 rfl dL_law_775 h (fun x6 h => ?_)
  refine r_aload_n C (x := some (gSa g)) 777 rfl 1 dL_law_776 rfl ?_
  refine r_iload C 779 rfl 6 dL_law_777 rfl ?_
  refine r_iconst C (v := 2) 780 rfl dL_law_779 (by decide) ?_
  refine r_iadd C 781 rfl dL_law_780 ?_
  refine r_zald C 782 rfl dL_law_781 h (fun x7 h => ?_)
  refine r_callV C (ci := 6) mm_L_144 im_yX6_length se_yX6_length rfl 785 (kq + 2) (nq + 12) rfl rfl rfl dL_law_782 rfl rfl (As := [.int x6, .int x7]) rfl rfl (Nat.le_of_ble_eq_true rfl) ⟨Nat.le_of_ble_eq_true rfl, Nat.le_of_ble_eq_true rfl⟩ ⟨(by show kq + 2 ≤ 603072; omega), (by show nq + 12 ≤ 7219306; omega)⟩ (fun o t h => k_X6_length l hst g _ _ _ _ o t h) h (fun w9 t8 h => ?_) (fun E t h => by cases h)
  replace h := jvI_some h
  obtain ⟨x10, rfl, h⟩ := h
  refine r_istore C 787 rfl [(7, .int x10), (6, .int x5), (0, .ref (gSa g)), (1, .ref a1), (2, .ref a2), (3, .ref a3), (4, .ref a4), (5, .int v5)] dL_law_785 (by decide) rfl ?_
  refine r_aload_n C (x := some a2) 788 rfl 4 dL_law_787 rfl ?_
  refine r_callV C (ci := 6) mm_L_106 im_yX6_thrown se_yX6_thrown rfl 791 (kq + 2) (nq + 12) rfl rfl rfl dL_law_788 rfl rfl (As := []) rfl rfl (Nat.le_of_ble_eq_true rfl) ⟨Nat.le_of_ble_eq_true rfl, Nat.le_of_ble_eq_true rfl⟩ ⟨(by show kq + 2 ≤ 603072; omega), (by show nq + 12 ≤ 7219306; omega)⟩ (fun o t h => k_X6_thrown l hst g _ _ o t h) h (fun w12 t11 h => ?_) (fun E t h => by cases h)
  replace h := jvI_some h
  obtain ⟨x13, rfl, h⟩ := h
  refine r_iload C 793 rfl 1 dL_law_791 rfl ?_
  refine r_icmp_eq C 798 796 rfl dL_law_793 (by decide) h (fun h => ?_) (fun h => ?_)
  · refine r_iload C 800 rfl 1 dL_law_798 rfl ?_
    obtain ⟨j815, hj815E, h⟩ := jj_some h
    have hj815 : ∀ (t14 : Hp), j815 t14 = some (.inl (some (.int 1)), τ) → jW p l e room_1 s m args below meth c g (Q) (kq + 2) (nq + 12) 815 [(0, .ref (gSa g)), (1, .ref a1), (2, .ref a2), (3, .ref a3), (4, .ref a4), (5, .int v5)] [] t14 := by
      subst hj815E
      intro t14 h
      refine r_goto C 1711 dL_law_815 (by decide) ?_
      refine r_iinc C (v := v5 + 5) 1714 rfl 5 [(5, .int (v5 + 5)), (0, .ref (gSa g)), (1, .ref a1), (2, .ref a2), (3, .ref a3), (4, .ref a4)] dL_law_1711 rfl rfl (by decide) rfl ?_
      refine r_goto C 28 dL_law_1714 (by decide) ?_
      refine r_lv [1, 2, 3, 4, 5, 0] rfl ?_
      refine r_widen (k' := kq + 30) (n' := nq + 1000) (by omega) (by omega) ?_
      exact hrc (v5 + 5) t14 h
    clear hj815E
    refine r_if_ne C 815 803 rfl dL_law_800 (by decide) h (fun h => ?_) (fun h => ?_)
    · refine r_lv [2, 3, 4, 5, 6, 7] rfl ?_
      exact hj815 t11 h
    · refine r_aload_n C (x := some a3) 804 rfl 5 dL_law_803 rfl ?_
      refine r_iconst C (v := 0) 805 rfl dL_law_804 (by decide) ?_
      refine r_lald C 806 rfl dL_law_805 h (fun x15 h => ?_)
      refine r_iload C 808 rfl 0 dL_law_806 rfl ?_
      refine r_i2l C 809 rfl dL_law_808 ?_
      refine r_lcmp C 810 rfl dL_law_809 ?_
      refine r_if_eq C 815 813 rfl dL_law_810 (by decide) h (fun h => ?_) (fun h => ?_)
      · refine r_lv [2, 3, 4, 5, 6, 7] rfl ?_
        exact hj815 t11 h
      · refine r_iconst C (v := 0) 814 rfl dL_law_813 (by decide) ?_
        exact (j01 h).elim
  · refine r_iconst C (v := 0) 797 rfl dL_law_796 (by decide) ?_
    exact (j01 h).elim
def J_L_law_c818 (g : jG) (rc : Nat → Nat → Nat → Nat → Int32 → Hp → jR) (a1 a2 a3 a4 : Nat) (v5 : Int32) (t0 : Hp) : jR := jzI g (v5 + 1) (fun x1 => jzI g (v5 + 2) (fun x2 => jzI g (v5 + 3) (fun x3 => jcs (J_L_cellOf a1 x1 x2 x3 a3 t0) (fun w5 t4 => jvI w5 (fun x6 => jzI g (v5 + 1) (fun x7 => jzI g (v5 + 2) (fun x8 => jzI g (v5 + 3) (fun x9 => jcv t4 a2 6 (J_X6_cellOf a2 x7 x8 x9 t4) (fun w11 t10 => jvI w11 (fun x12 => jcv t10 a2 6 (J_X6_thrown a2 t10) (fun w14 t13 => jvI w14 (fun x15 => (if x15 = x6 then jj (fun (t16 : Hp) => rc a1 a2 a3 a4 (v5 + 5) t16) (fun j895 => (if x6 = 0 then jaJ t13 a3 0 (fun x17 => (if (lg_cmp x17 x12.toInt64) = 0 then j895 t13 else some (.inl (some (.int 0)), t13))) else j895 t13)) else some (.inl (some (.int 0)), t13)))) (fun _ _ => none))) (fun _ _ => none)))))) (fun _ _ => none))))
set_option maxHeartbeats 4000000 in
set_option maxRecDepth 100000 in
theorem w_L_law_c818 (l : Launch) (hst : l.stackTraces = false) {p : Program} {e : Env} {s : State} {m : MethodId} {args : Array Value} {below : List Frame} {meth : Method} {c : Code} {Q : State → Prop} {g : jG} {τ : Hp} (C : jC p l s m args meth c g RL cL_law 10 (some .boolean)) (rc : Nat → Nat → Nat → Nat → Int32 → Hp → jR) (a1 a2 a3 a4 : Nat) (v5 : Int32) (t0 : Hp) (kq nq : Nat) (hkq : kq + 30 ≤ 603072) (hnq : nq + 1000 ≤ 7219306) (hrc : ∀ (v : Int32) (t : Hp), rc a1 a2 a3 a4 v t = some (.inl (some (.int 1)), τ) → jW p l e room_1 s m args below meth c g Q (kq + 30) (nq + 1000) 28 [(0, .ref (gSa g)), (1, .ref a1), (2, .ref a2), (3, .ref a3), (4, .ref a4), (5, .int v)] [] t) (h : J_L_law_c818 g rc a1 a2 a3 a4 v5 t0 = some (.inl (some (.int 1)), τ)) : jW p l e room_1 s m args below meth c g Q kq nq 818 [(0, .ref (gSa g)), (1, .ref a1), (2, .ref a2), (3, .ref a3), (4, .ref a4), (5, .int v5)] [] t0 := by
  unfold J_L_law_c818 at h
  refine r_aload_n C (x := some a1) 819 rfl 1 dL_law_818 rfl ?_
  refine r_aload_n C (x := some (gSa g)) 820 rfl 0 dL_law_819 rfl ?_
  refine r_iload C 822 rfl 5 dL_law_820 rfl ?_
  refine r_iconst C (v := 1) 823 rfl dL_law_822 (by decide) ?_
  refine r_iadd C 824 rfl dL_law_823 ?_
  refine r_zald C 825 rfl dL_law_824 h (fun x1 h => ?_)
  refine r_aload_n C (x := some (gSa g)) 826 rfl 0 dL_law_825 rfl ?_
  refine r_iload C 828 rfl 5 dL_law_826 rfl ?_
  refine r_iconst C (v := 2) 829 rfl dL_law_828 (by decide) ?_
  refine r_iadd C 830 rfl dL_law_829 ?_
  refine r_zald C 831 rfl dL_law_830 h (fun x2 h => ?_)
  refine r_aload_n C (x := some (gSa g)) 832 rfl 0 dL_law_831 rfl ?_
  refine r_iload C 834 rfl 5 dL_law_832 rfl ?_
  refine r_iconst C (v := 3) 835 rfl dL_law_834 (by decide) ?_
  refine r_iadd C 836 rfl dL_law_835 ?_
  refine r_zald C 837 rfl dL_law_836 h (fun x3 h => ?_)
  refine r_aload_n C (x := some a3) 838 rfl 3 dL_law_837 rfl ?_
  refine r_callSX C mm_L_145 st_yL_cellOf 841 (kq + 3) (nq + 18) rfl rfl rfl dL_law_838 rfl rfl (As := [.ref a1, .int x1, .int x2, .int x3, .ref a3]) rfl rfl (Nat.le_of_ble_eq_true rfl) ⟨Nat.le_of_ble_eq_true rfl, Nat.le_of_ble_eq_true rfl⟩ ⟨(by show kq + 3 ≤ 603072; omega), (by show nq + 18 ≤ 7219306; omega)⟩ (fun o t h => k_L_cellOf l hst g _ _ _ _ _ _ o t h) h (fun w5 t4 h => ?_) (fun E t h => by cases h)
  replace h := jvI_some h
  obtain ⟨x6, rfl, h⟩ := h
  refine r_istore C 843 rfl [(6, .int x6), (0, .ref (gSa g)), (1, .ref a1), (2, .ref a2), (3, .ref a3), (4, .ref a4), (5, .int v5)] dL_law_841 (by decide) rfl ?_
  refine r_aload_n C (x := some a2) 844 rfl 3 dL_law_843 rfl ?_
  refine r_aload_n C (x := some (gSa g)) 845 rfl 1 dL_law_844 rfl ?_
  refine r_iload C 847 rfl 6 dL_law_845 rfl ?_
  refine r_iconst C (v := 1) 848 rfl dL_law_847 (by decide) ?_
  refine r_iadd C 849 rfl dL_law_848 ?_
  refine r_zald C 850 rfl dL_law_849 h (fun x7 h => ?_)
  refine r_aload_n C (x := some (gSa g)) 851 rfl 1 dL_law_850 rfl ?_
  refine r_iload C 853 rfl 6 dL_law_851 rfl ?_
  refine r_iconst C (v := 2) 854 rfl dL_law_853 (by decide) ?_
  refine r_iadd C 855 rfl dL_law_854 ?_
  refine r_zald C 856 rfl dL_law_855 h (fun x8 h => ?_)
  refine r_aload_n C (x := some (gSa g)) 857 rfl 1 dL_law_856 rfl ?_
  refine r_iload C 859 rfl 6 dL_law_857 rfl ?_
  refine r_iconst C (v := 3) 860 rfl dL_law_859 (by decide) ?_
  refine r_iadd C 861 rfl dL_law_860 ?_
  refine r_zald C 862 rfl dL_law_861 h (fun x9 h => ?_)
  refine r_callV C (ci := 6) mm_L_147 im_yX6_cellOf se_yX6_cellOf rfl 865 (kq + 3) (nq + 18) rfl rfl rfl dL_law_862 rfl rfl (As := [.int x7, .int x8, .int x9]) rfl rfl (Nat.le_of_ble_eq_true rfl) ⟨Nat.le_of_ble_eq_true rfl, Nat.le_of_ble_eq_true rfl⟩ ⟨(by show kq + 3 ≤ 603072; omega), (by show nq + 18 ≤ 7219306; omega)⟩ (fun o t h => k_X6_cellOf l hst g _ _ _ _ _ o t h) h (fun w11 t10 h => ?_) (fun E t h => by cases h)
  replace h := jvI_some h
  obtain ⟨x12, rfl, h⟩ := h
  refine r_istore C 867 rfl [(7, .int x12), (6, .int x6), (0, .ref (gSa g)), (1, .ref a1), (2, .ref a2), (3, .ref a3), (4, .ref a4), (5, .int v5)] dL_law_865 (by decide) rfl ?_
  refine r_aload_n C (x := some a2) 868 rfl 4 dL_law_867 rfl ?_
  refine r_callV C (ci := 6) mm_L_106 im_yX6_thrown se_yX6_thrown rfl 871 (kq + 3) (nq + 18) rfl rfl rfl dL_law_868 rfl rfl (As := []) rfl rfl (Nat.le_of_ble_eq_true rfl) ⟨Nat.le_of_ble_eq_true rfl, Nat.le_of_ble_eq_true rfl⟩ ⟨(by show kq + 3 ≤ 603072; omega), (by show nq + 18 ≤ 7219306; omega)⟩ (fun o t h => k_X6_thrown l hst g _ _ o t h) h (fun w14 t13 h => ?_) (fun E t h => by cases h)
  replace h := jvI_some h
  obtain ⟨x15, rfl, h⟩ := h
  refine r_iload C 873 rfl 1 dL_law_871 rfl ?_
  refine r_icmp_eq C 878 876 rfl dL_law_873 (by decide) h (fun h => ?_) (fun h => ?_)
  · refine r_iload C 880 rfl 1 dL_law_878 rfl ?_
    obtain ⟨j895, hj895E, h⟩ := jj_some h
    have hj895 : ∀ (t16 : Hp), j895 t16 = some (.inl (some (.int 1)), τ) → jW p l e room_1 s m args below meth c g (Q) (kq + 3) (nq + 18) 895 [(0, .ref (gSa g)), (1, .ref a1), (2, .ref a2), (3, .ref a3), (4, .ref a4), (5, .int v5)] [] t16 := by
      subst hj895E
      intro t16 h
      refine r_goto C 1711 dL_law_895 (by decide) ?_
      refine r_iinc C (v := v5 + 5) 1714 rfl 5 [(5, .int (v5 + 5)), (0, .ref (gSa g)), (1, .ref a1), (2, .ref a2), (3, .ref a3), (4, .ref a4)] dL_law_1711 rfl rfl (by decide) rfl ?_
      refine r_goto C 28 dL_law_1714 (by decide) ?_
      refine r_lv [1, 2, 3, 4, 5, 0] rfl ?_
      refine r_widen (k' := kq + 30) (n' := nq + 1000) (by omega) (by omega) ?_
      exact hrc (v5 + 5) t16 h
    clear hj895E
    refine r_if_ne C 895 883 rfl dL_law_880 (by decide) h (fun h => ?_) (fun h => ?_)
    · refine r_lv [2, 3, 4, 5, 6, 7] rfl ?_
      exact hj895 t13 h
    · refine r_aload_n C (x := some a3) 884 rfl 5 dL_law_883 rfl ?_
      refine r_iconst C (v := 0) 885 rfl dL_law_884 (by decide) ?_
      refine r_lald C 886 rfl dL_law_885 h (fun x17 h => ?_)
      refine r_iload C 888 rfl 0 dL_law_886 rfl ?_
      refine r_i2l C 889 rfl dL_law_888 ?_
      refine r_lcmp C 890 rfl dL_law_889 ?_
      refine r_if_eq C 895 893 rfl dL_law_890 (by decide) h (fun h => ?_) (fun h => ?_)
      · refine r_lv [2, 3, 4, 5, 6, 7] rfl ?_
        exact hj895 t13 h
      · refine r_iconst C (v := 0) 894 rfl dL_law_893 (by decide) ?_
        exact (j01 h).elim
  · refine r_iconst C (v := 0) 877 rfl dL_law_876 (by decide) ?_
    exact (j01 h).elim
def J_L_law_c898 (g : jG) (rc : Nat → Nat → Nat → Nat → Int32 → Hp → jR) (a1 a2 a3 a4 : Nat) (v5 : Int32) (t0 : Hp) : jR := jzI g (v5 + 1) (fun x1 => jcs (J_L_lines a1 x1 a3 t0) (fun w3 t2 => jvI w3 (fun x4 => jzI g (v5 + 1) (fun x5 => jcv t2 a2 6 (J_X6_lines a2 x5 t2) (fun w7 t6 => jvI w7 (fun x8 => jcv t6 a2 6 (J_X6_thrown a2 t6) (fun w10 t9 => jvI w10 (fun x11 => (if x11 = x4 then jj (fun (t12 : Hp) => rc a1 a2 a3 a4 (v5 + 5) t12) (fun j951 => (if x4 = 0 then jaJ t9 a3 0 (fun x13 => (if (lg_cmp x13 x8.toInt64) = 0 then j951 t9 else some (.inl (some (.int 0)), t9))) else j951 t9)) else some (.inl (some (.int 0)), t9)))) (fun _ _ => none))) (fun _ _ => none)))) (fun _ _ => none))
set_option maxHeartbeats 4000000 in
set_option maxRecDepth 100000 in
theorem w_L_law_c898 (l : Launch) (hst : l.stackTraces = false) {p : Program} {e : Env} {s : State} {m : MethodId} {args : Array Value} {below : List Frame} {meth : Method} {c : Code} {Q : State → Prop} {g : jG} {τ : Hp} (C : jC p l s m args meth c g RL cL_law 10 (some .boolean)) (rc : Nat → Nat → Nat → Nat → Int32 → Hp → jR) (a1 a2 a3 a4 : Nat) (v5 : Int32) (t0 : Hp) (kq nq : Nat) (hkq : kq + 30 ≤ 603072) (hnq : nq + 1000 ≤ 7219306) (hrc : ∀ (v : Int32) (t : Hp), rc a1 a2 a3 a4 v t = some (.inl (some (.int 1)), τ) → jW p l e room_1 s m args below meth c g Q (kq + 30) (nq + 1000) 28 [(0, .ref (gSa g)), (1, .ref a1), (2, .ref a2), (3, .ref a3), (4, .ref a4), (5, .int v)] [] t) (h : J_L_law_c898 g rc a1 a2 a3 a4 v5 t0 = some (.inl (some (.int 1)), τ)) : jW p l e room_1 s m args below meth c g Q kq nq 898 [(0, .ref (gSa g)), (1, .ref a1), (2, .ref a2), (3, .ref a3), (4, .ref a4), (5, .int v5)] [] t0 := by
  unfold J_L_law_c898 at h
  refine r_aload_n C (x := some a1) 899 rfl 1 dL_law_898 rfl ?_
  refine r_aload_n C (x := some (gSa g)) 900 rfl 0 dL_law_899 rfl ?_
  refine r_iload C 902 rfl 5 dL_law_900 rfl ?_
  refine r_iconst C (v := 1) 903 rfl dL_law_902 (by decide) ?_
  refine r_iadd C 904 rfl dL_law_903 ?_
  refine r_zald C 905 rfl dL_law_904 h (fun x1 h => ?_)
  refine r_aload_n C (x := some a3) 906 rfl 3 dL_law_905 rfl ?_
  refine r_callSX C mm_L_148 st_yL_lines 909 (kq + 1) (nq + 6) rfl rfl rfl dL_law_906 rfl rfl (As := [.ref a1, .int x1, .ref a3]) rfl rfl (Nat.le_of_ble_eq_true rfl) ⟨Nat.le_of_ble_eq_true rfl, Nat.le_of_ble_eq_true rfl⟩ ⟨(by show kq + 1 ≤ 603072; omega), (by show nq + 6 ≤ 7219306; omega)⟩ (fun o t h => k_L_lines l hst g _ _ _ _ o t h) h (fun w3 t2 h => ?_) (fun E t h => by cases h)
  replace h := jvI_some h
  obtain ⟨x4, rfl, h⟩ := h
  refine r_istore C 911 rfl [(6, .int x4), (0, .ref (gSa g)), (1, .ref a1), (2, .ref a2), (3, .ref a3), (4, .ref a4), (5, .int v5)] dL_law_909 (by decide) rfl ?_
  refine r_aload_n C (x := some a2) 912 rfl 3 dL_law_911 rfl ?_
  refine r_aload_n C (x := some (gSa g)) 913 rfl 1 dL_law_912 rfl ?_
  refine r_iload C 915 rfl 6 dL_law_913 rfl ?_
  refine r_iconst C (v := 1) 916 rfl dL_law_915 (by decide) ?_
  refine r_iadd C 917 rfl dL_law_916 ?_
  refine r_zald C 918 rfl dL_law_917 h (fun x5 h => ?_)
  refine r_callV C (ci := 6) mm_L_150 im_yX6_lines se_yX6_lines rfl 921 (kq + 1) (nq + 6) rfl rfl rfl dL_law_918 rfl rfl (As := [.int x5]) rfl rfl (Nat.le_of_ble_eq_true rfl) ⟨Nat.le_of_ble_eq_true rfl, Nat.le_of_ble_eq_true rfl⟩ ⟨(by show kq + 1 ≤ 603072; omega), (by show nq + 6 ≤ 7219306; omega)⟩ (fun o t h => k_X6_lines l hst g _ _ _ o t h) h (fun w7 t6 h => ?_) (fun E t h => by cases h)
  replace h := jvI_some h
  obtain ⟨x8, rfl, h⟩ := h
  refine r_istore C 923 rfl [(7, .int x8), (6, .int x4), (0, .ref (gSa g)), (1, .ref a1), (2, .ref a2), (3, .ref a3), (4, .ref a4), (5, .int v5)] dL_law_921 (by decide) rfl ?_
  refine r_aload_n C (x := some a2) 924 rfl 4 dL_law_923 rfl ?_
  refine r_callV C (ci := 6) mm_L_106 im_yX6_thrown se_yX6_thrown rfl 927 (kq + 1) (nq + 6) rfl rfl rfl dL_law_924 rfl rfl (As := []) rfl rfl (Nat.le_of_ble_eq_true rfl) ⟨Nat.le_of_ble_eq_true rfl, Nat.le_of_ble_eq_true rfl⟩ ⟨(by show kq + 1 ≤ 603072; omega), (by show nq + 6 ≤ 7219306; omega)⟩ (fun o t h => k_X6_thrown l hst g _ _ o t h) h (fun w10 t9 h => ?_) (fun E t h => by cases h)
  replace h := jvI_some h
  obtain ⟨x11, rfl, h⟩ := h
  refine r_iload C 929 rfl 1 dL_law_927 rfl ?_
  refine r_icmp_eq C 934 932 rfl dL_law_929 (by decide) h (fun h => ?_) (fun h => ?_)
  · refine r_iload C 936 rfl 1 dL_law_934 rfl ?_
    obtain ⟨j951, hj951E, h⟩ := jj_some h
    have hj951 : ∀ (t12 : Hp), j951 t12 = some (.inl (some (.int 1)), τ) → jW p l e room_1 s m args below meth c g (Q) (kq + 1) (nq + 6) 951 [(0, .ref (gSa g)), (1, .ref a1), (2, .ref a2), (3, .ref a3), (4, .ref a4), (5, .int v5)] [] t12 := by
      subst hj951E
      intro t12 h
      refine r_goto C 1711 dL_law_951 (by decide) ?_
      refine r_iinc C (v := v5 + 5) 1714 rfl 5 [(5, .int (v5 + 5)), (0, .ref (gSa g)), (1, .ref a1), (2, .ref a2), (3, .ref a3), (4, .ref a4)] dL_law_1711 rfl rfl (by decide) rfl ?_
      refine r_goto C 28 dL_law_1714 (by decide) ?_
      refine r_lv [1, 2, 3, 4, 5, 0] rfl ?_
      refine r_widen (k' := kq + 30) (n' := nq + 1000) (by omega) (by omega) ?_
      exact hrc (v5 + 5) t12 h
    clear hj951E
    refine r_if_ne C 951 939 rfl dL_law_936 (by decide) h (fun h => ?_) (fun h => ?_)
    · refine r_lv [2, 3, 4, 5, 6, 7] rfl ?_
      exact hj951 t9 h
    · refine r_aload_n C (x := some a3) 940 rfl 5 dL_law_939 rfl ?_
      refine r_iconst C (v := 0) 941 rfl dL_law_940 (by decide) ?_
      refine r_lald C 942 rfl dL_law_941 h (fun x13 h => ?_)
      refine r_iload C 944 rfl 0 dL_law_942 rfl ?_
      refine r_i2l C 945 rfl dL_law_944 ?_
      refine r_lcmp C 946 rfl dL_law_945 ?_
      refine r_if_eq C 951 949 rfl dL_law_946 (by decide) h (fun h => ?_) (fun h => ?_)
      · refine r_lv [2, 3, 4, 5, 6, 7] rfl ?_
        exact hj951 t9 h
      · refine r_iconst C (v := 0) 950 rfl dL_law_949 (by decide) ?_
        exact (j01 h).elim
  · refine r_iconst C (v := 0) 933 rfl dL_law_932 (by decide) ?_
    exact (j01 h).elim
def J_L_law_c954 (g : jG) (rc : Nat → Nat → Nat → Nat → Int32 → Hp → jR) (a1 a2 a3 a4 : Nat) (v5 : Int32) (t0 : Hp) : jR := jzI g (v5 + 1) (fun x1 => jzI g (v5 + 2) (fun x2 => jzI g (v5 + 3) (fun x3 => jcs (J_L_lineAt a1 x1 x2 x3 a3 t0) (fun w5 t4 => jvI w5 (fun x6 => jzI g (v5 + 1) (fun x7 => jzI g (v5 + 2) (fun x8 => jzI g (v5 + 3) (fun x9 => jcv t4 a2 6 (J_X6_lineAt a2 x7 x8 x9 t4) (fun w11 t10 => jvI w11 (fun x12 => jcv t10 a2 6 (J_X6_thrown a2 t10) (fun w14 t13 => jvI w14 (fun x15 => (if x15 = x6 then jj (fun (t16 : Hp) => rc a1 a2 a3 a4 (v5 + 5) t16) (fun j1031 => (if x6 = 0 then jaJ t13 a3 0 (fun x17 => (if (lg_cmp x17 x12.toInt64) = 0 then j1031 t13 else some (.inl (some (.int 0)), t13))) else j1031 t13)) else some (.inl (some (.int 0)), t13)))) (fun _ _ => none))) (fun _ _ => none)))))) (fun _ _ => none))))
set_option maxHeartbeats 4000000 in
set_option maxRecDepth 100000 in
theorem w_L_law_c954 (l : Launch) (hst : l.stackTraces = false) {p : Program} {e : Env} {s : State} {m : MethodId} {args : Array Value} {below : List Frame} {meth : Method} {c : Code} {Q : State → Prop} {g : jG} {τ : Hp} (C : jC p l s m args meth c g RL cL_law 10 (some .boolean)) (rc : Nat → Nat → Nat → Nat → Int32 → Hp → jR) (a1 a2 a3 a4 : Nat) (v5 : Int32) (t0 : Hp) (kq nq : Nat) (hkq : kq + 30 ≤ 603072) (hnq : nq + 1000 ≤ 7219306) (hrc : ∀ (v : Int32) (t : Hp), rc a1 a2 a3 a4 v t = some (.inl (some (.int 1)), τ) → jW p l e room_1 s m args below meth c g Q (kq + 30) (nq + 1000) 28 [(0, .ref (gSa g)), (1, .ref a1), (2, .ref a2), (3, .ref a3), (4, .ref a4), (5, .int v)] [] t) (h : J_L_law_c954 g rc a1 a2 a3 a4 v5 t0 = some (.inl (some (.int 1)), τ)) : jW p l e room_1 s m args below meth c g Q kq nq 954 [(0, .ref (gSa g)), (1, .ref a1), (2, .ref a2), (3, .ref a3), (4, .ref a4), (5, .int v5)] [] t0 := by
  unfold J_L_law_c954 at h
  refine r_aload_n C (x := some a1) 955 rfl 1 dL_law_954 rfl ?_
  refine r_aload_n C (x := some (gSa g)) 956 rfl 0 dL_law_955 rfl ?_
  refine r_iload C 958 rfl 5 dL_law_956 rfl ?_
  refine r_iconst C (v := 1) 959 rfl dL_law_958 (by decide) ?_
  refine r_iadd C 960 rfl dL_law_959 ?_
  refine r_zald C 961 rfl dL_law_960 h (fun x1 h => ?_)
  refine r_aload_n C (x := some (gSa g)) 962 rfl 0 dL_law_961 rfl ?_
  refine r_iload C 964 rfl 5 dL_law_962 rfl ?_
  refine r_iconst C (v := 2) 965 rfl dL_law_964 (by decide) ?_
  refine r_iadd C 966 rfl dL_law_965 ?_
  refine r_zald C 967 rfl dL_law_966 h (fun x2 h => ?_)
  refine r_aload_n C (x := some (gSa g)) 968 rfl 0 dL_law_967 rfl ?_
  refine r_iload C 970 rfl 5 dL_law_968 rfl ?_
  refine r_iconst C (v := 3) 971 rfl dL_law_970 (by decide) ?_
  refine r_iadd C 972 rfl dL_law_971 ?_
  refine r_zald C 973 rfl dL_law_972 h (fun x3 h => ?_)
  refine r_aload_n C (x := some a3) 974 rfl 3 dL_law_973 rfl ?_
  refine r_callSX C mm_L_151 st_yL_lineAt 977 (kq + 2) (nq + 12) rfl rfl rfl dL_law_974 rfl rfl (As := [.ref a1, .int x1, .int x2, .int x3, .ref a3]) rfl rfl (Nat.le_of_ble_eq_true rfl) ⟨Nat.le_of_ble_eq_true rfl, Nat.le_of_ble_eq_true rfl⟩ ⟨(by show kq + 2 ≤ 603072; omega), (by show nq + 12 ≤ 7219306; omega)⟩ (fun o t h => k_L_lineAt l hst g _ _ _ _ _ _ o t h) h (fun w5 t4 h => ?_) (fun E t h => by cases h)
  replace h := jvI_some h
  obtain ⟨x6, rfl, h⟩ := h
  refine r_istore C 979 rfl [(6, .int x6), (0, .ref (gSa g)), (1, .ref a1), (2, .ref a2), (3, .ref a3), (4, .ref a4), (5, .int v5)] dL_law_977 (by decide) rfl ?_
  refine r_aload_n C (x := some a2) 980 rfl 3 dL_law_979 rfl ?_
  refine r_aload_n C (x := some (gSa g)) 981 rfl 1 dL_law_980 rfl ?_
  refine r_iload C 983 rfl 6 dL_law_981 rfl ?_
  refine r_iconst C (v := 1) 984 rfl dL_law_983 (by decide) ?_
  refine r_iadd C 985 rfl dL_law_984 ?_
  refine r_zald C 986 rfl dL_law_985 h (fun x7 h => ?_)
  refine r_aload_n C (x := some (gSa g)) 987 rfl 1 dL_law_986 rfl ?_
  refine r_iload C 989 rfl 6 dL_law_987 rfl ?_
  refine r_iconst C (v := 2) 990 rfl dL_law_989 (by decide) ?_
  refine r_iadd C 991 rfl dL_law_990 ?_
  refine r_zald C 992 rfl dL_law_991 h (fun x8 h => ?_)
  refine r_aload_n C (x := some (gSa g)) 993 rfl 1 dL_law_992 rfl ?_
  refine r_iload C 995 rfl 6 dL_law_993 rfl ?_
  refine r_iconst C (v := 3) 996 rfl dL_law_995 (by decide) ?_
  refine r_iadd C 997 rfl dL_law_996 ?_
  refine r_zald C 998 rfl dL_law_997 h (fun x9 h => ?_)
  refine r_callV C (ci := 6) mm_L_153 im_yX6_lineAt se_yX6_lineAt rfl 1001 (kq + 2) (nq + 12) rfl rfl rfl dL_law_998 rfl rfl (As := [.int x7, .int x8, .int x9]) rfl rfl (Nat.le_of_ble_eq_true rfl) ⟨Nat.le_of_ble_eq_true rfl, Nat.le_of_ble_eq_true rfl⟩ ⟨(by show kq + 2 ≤ 603072; omega), (by show nq + 12 ≤ 7219306; omega)⟩ (fun o t h => k_X6_lineAt l hst g _ _ _ _ _ o t h) h (fun w11 t10 h => ?_) (fun E t h => by cases h)
  replace h := jvI_some h
  obtain ⟨x12, rfl, h⟩ := h
  refine r_istore C 1003 rfl [(7, .int x12), (6, .int x6), (0, .ref (gSa g)), (1, .ref a1), (2, .ref a2), (3, .ref a3), (4, .ref a4), (5, .int v5)] dL_law_1001 (by decide) rfl ?_
  refine r_aload_n C (x := some a2) 1004 rfl 4 dL_law_1003 rfl ?_
  refine r_callV C (ci := 6) mm_L_106 im_yX6_thrown se_yX6_thrown rfl 1007 (kq + 2) (nq + 12) rfl rfl rfl dL_law_1004 rfl rfl (As := []) rfl rfl (Nat.le_of_ble_eq_true rfl) ⟨Nat.le_of_ble_eq_true rfl, Nat.le_of_ble_eq_true rfl⟩ ⟨(by show kq + 2 ≤ 603072; omega), (by show nq + 12 ≤ 7219306; omega)⟩ (fun o t h => k_X6_thrown l hst g _ _ o t h) h (fun w14 t13 h => ?_) (fun E t h => by cases h)
  replace h := jvI_some h
  obtain ⟨x15, rfl, h⟩ := h
  refine r_iload C 1009 rfl 1 dL_law_1007 rfl ?_
  refine r_icmp_eq C 1014 1012 rfl dL_law_1009 (by decide) h (fun h => ?_) (fun h => ?_)
  · refine r_iload C 1016 rfl 1 dL_law_1014 rfl ?_
    obtain ⟨j1031, hj1031E, h⟩ := jj_some h
    have hj1031 : ∀ (t16 : Hp), j1031 t16 = some (.inl (some (.int 1)), τ) → jW p l e room_1 s m args below meth c g (Q) (kq + 2) (nq + 12) 1031 [(0, .ref (gSa g)), (1, .ref a1), (2, .ref a2), (3, .ref a3), (4, .ref a4), (5, .int v5)] [] t16 := by
      subst hj1031E
      intro t16 h
      refine r_goto C 1711 dL_law_1031 (by decide) ?_
      refine r_iinc C (v := v5 + 5) 1714 rfl 5 [(5, .int (v5 + 5)), (0, .ref (gSa g)), (1, .ref a1), (2, .ref a2), (3, .ref a3), (4, .ref a4)] dL_law_1711 rfl rfl (by decide) rfl ?_
      refine r_goto C 28 dL_law_1714 (by decide) ?_
      refine r_lv [1, 2, 3, 4, 5, 0] rfl ?_
      refine r_widen (k' := kq + 30) (n' := nq + 1000) (by omega) (by omega) ?_
      exact hrc (v5 + 5) t16 h
    clear hj1031E
    refine r_if_ne C 1031 1019 rfl dL_law_1016 (by decide) h (fun h => ?_) (fun h => ?_)
    · refine r_lv [2, 3, 4, 5, 6, 7] rfl ?_
      exact hj1031 t13 h
    · refine r_aload_n C (x := some a3) 1020 rfl 5 dL_law_1019 rfl ?_
      refine r_iconst C (v := 0) 1021 rfl dL_law_1020 (by decide) ?_
      refine r_lald C 1022 rfl dL_law_1021 h (fun x17 h => ?_)
      refine r_iload C 1024 rfl 0 dL_law_1022 rfl ?_
      refine r_i2l C 1025 rfl dL_law_1024 ?_
      refine r_lcmp C 1026 rfl dL_law_1025 ?_
      refine r_if_eq C 1031 1029 rfl dL_law_1026 (by decide) h (fun h => ?_) (fun h => ?_)
      · refine r_lv [2, 3, 4, 5, 6, 7] rfl ?_
        exact hj1031 t13 h
      · refine r_iconst C (v := 0) 1030 rfl dL_law_1029 (by decide) ?_
        exact (j01 h).elim
  · refine r_iconst C (v := 0) 1013 rfl dL_law_1012 (by decide) ?_
    exact (j01 h).elim
def J_L_law_c1034 (g : jG) (rc : Nat → Nat → Nat → Nat → Int32 → Hp → jR) (a1 a2 a3 a4 : Nat) (v5 : Int32) (t0 : Hp) : jR := jzI g (v5 + 1) (fun x1 => jzI g (v5 + 2) (fun x2 => jcs (J_L_lineOf a1 x1 x2 a3 t0) (fun w4 t3 => jvI w4 (fun x5 => jzI g (v5 + 1) (fun x6 => jzI g (v5 + 2) (fun x7 => jcv t3 a2 6 (J_X6_lineOf a2 x6 x7 t3) (fun w9 t8 => jvI w9 (fun x10 => jcv t8 a2 6 (J_X6_thrown a2 t8) (fun w12 t11 => jvI w12 (fun x13 => (if x13 = x5 then jj (fun (t14 : Hp) => rc a1 a2 a3 a4 (v5 + 5) t14) (fun j1099 => (if x5 = 0 then jaJ t11 a3 0 (fun x15 => (if (lg_cmp x15 x10.toInt64) = 0 then j1099 t11 else some (.inl (some (.int 0)), t11))) else j1099 t11)) else some (.inl (some (.int 0)), t11)))) (fun _ _ => none))) (fun _ _ => none))))) (fun _ _ => none)))
set_option maxHeartbeats 4000000 in
set_option maxRecDepth 100000 in
theorem w_L_law_c1034 (l : Launch) (hst : l.stackTraces = false) {p : Program} {e : Env} {s : State} {m : MethodId} {args : Array Value} {below : List Frame} {meth : Method} {c : Code} {Q : State → Prop} {g : jG} {τ : Hp} (C : jC p l s m args meth c g RL cL_law 10 (some .boolean)) (rc : Nat → Nat → Nat → Nat → Int32 → Hp → jR) (a1 a2 a3 a4 : Nat) (v5 : Int32) (t0 : Hp) (kq nq : Nat) (hkq : kq + 30 ≤ 603072) (hnq : nq + 1000 ≤ 7219306) (hrc : ∀ (v : Int32) (t : Hp), rc a1 a2 a3 a4 v t = some (.inl (some (.int 1)), τ) → jW p l e room_1 s m args below meth c g Q (kq + 30) (nq + 1000) 28 [(0, .ref (gSa g)), (1, .ref a1), (2, .ref a2), (3, .ref a3), (4, .ref a4), (5, .int v)] [] t) (h : J_L_law_c1034 g rc a1 a2 a3 a4 v5 t0 = some (.inl (some (.int 1)), τ)) : jW p l e room_1 s m args below meth c g Q kq nq 1034 [(0, .ref (gSa g)), (1, .ref a1), (2, .ref a2), (3, .ref a3), (4, .ref a4), (5, .int v5)] [] t0 := by
  unfold J_L_law_c1034 at h
  refine r_aload_n C (x := some a1) 1035 rfl 1 dL_law_1034 rfl ?_
  refine r_aload_n C (x := some (gSa g)) 1036 rfl 0 dL_law_1035 rfl ?_
  refine r_iload C 1038 rfl 5 dL_law_1036 rfl ?_
  refine r_iconst C (v := 1) 1039 rfl dL_law_1038 (by decide) ?_
  refine r_iadd C 1040 rfl dL_law_1039 ?_
  refine r_zald C 1041 rfl dL_law_1040 h (fun x1 h => ?_)
  refine r_aload_n C (x := some (gSa g)) 1042 rfl 0 dL_law_1041 rfl ?_
  refine r_iload C 1044 rfl 5 dL_law_1042 rfl ?_
  refine r_iconst C (v := 2) 1045 rfl dL_law_1044 (by decide) ?_
  refine r_iadd C 1046 rfl dL_law_1045 ?_
  refine r_zald C 1047 rfl dL_law_1046 h (fun x2 h => ?_)
  refine r_aload_n C (x := some a3) 1048 rfl 3 dL_law_1047 rfl ?_
  refine r_callSX C mm_L_154 st_yL_lineOf 1051 (kq + 2) (nq + 12) rfl rfl rfl dL_law_1048 rfl rfl (As := [.ref a1, .int x1, .int x2, .ref a3]) rfl rfl (Nat.le_of_ble_eq_true rfl) ⟨Nat.le_of_ble_eq_true rfl, Nat.le_of_ble_eq_true rfl⟩ ⟨(by show kq + 2 ≤ 603072; omega), (by show nq + 12 ≤ 7219306; omega)⟩ (fun o t h => k_L_lineOf l hst g _ _ _ _ _ o t h) h (fun w4 t3 h => ?_) (fun E t h => by cases h)
  replace h := jvI_some h
  obtain ⟨x5, rfl, h⟩ := h
  refine r_istore C 1053 rfl [(6, .int x5), (0, .ref (gSa g)), (1, .ref a1), (2, .ref a2), (3, .ref a3), (4, .ref a4), (5, .int v5)] dL_law_1051 (by decide) rfl ?_
  refine r_aload_n C (x := some a2) 1054 rfl 3 dL_law_1053 rfl ?_
  refine r_aload_n C (x := some (gSa g)) 1055 rfl 1 dL_law_1054 rfl ?_
  refine r_iload C 1057 rfl 6 dL_law_1055 rfl ?_
  refine r_iconst C (v := 1) 1058 rfl dL_law_1057 (by decide) ?_
  refine r_iadd C 1059 rfl dL_law_1058 ?_
  refine r_zald C 1060 rfl dL_law_1059 h (fun x6 h => ?_)
  refine r_aload_n C (x := some (gSa g)) 1061 rfl 1 dL_law_1060 rfl ?_
  refine r_iload C 1063 rfl 6 dL_law_1061 rfl ?_
  refine r_iconst C (v := 2) 1064 rfl dL_law_1063 (by decide) ?_
  refine r_iadd C 1065 rfl dL_law_1064 ?_
  refine r_zald C 1066 rfl dL_law_1065 h (fun x7 h => ?_)
  refine r_callV C (ci := 6) mm_L_156 im_yX6_lineOf se_yX6_lineOf rfl 1069 (kq + 2) (nq + 12) rfl rfl rfl dL_law_1066 rfl rfl (As := [.int x6, .int x7]) rfl rfl (Nat.le_of_ble_eq_true rfl) ⟨Nat.le_of_ble_eq_true rfl, Nat.le_of_ble_eq_true rfl⟩ ⟨(by show kq + 2 ≤ 603072; omega), (by show nq + 12 ≤ 7219306; omega)⟩ (fun o t h => k_X6_lineOf l hst g _ _ _ _ o t h) h (fun w9 t8 h => ?_) (fun E t h => by cases h)
  replace h := jvI_some h
  obtain ⟨x10, rfl, h⟩ := h
  refine r_istore C 1071 rfl [(7, .int x10), (6, .int x5), (0, .ref (gSa g)), (1, .ref a1), (2, .ref a2), (3, .ref a3), (4, .ref a4), (5, .int v5)] dL_law_1069 (by decide) rfl ?_
  refine r_aload_n C (x := some a2) 1072 rfl 4 dL_law_1071 rfl ?_
  refine r_callV C (ci := 6) mm_L_106 im_yX6_thrown se_yX6_thrown rfl 1075 (kq + 2) (nq + 12) rfl rfl rfl dL_law_1072 rfl rfl (As := []) rfl rfl (Nat.le_of_ble_eq_true rfl) ⟨Nat.le_of_ble_eq_true rfl, Nat.le_of_ble_eq_true rfl⟩ ⟨(by show kq + 2 ≤ 603072; omega), (by show nq + 12 ≤ 7219306; omega)⟩ (fun o t h => k_X6_thrown l hst g _ _ o t h) h (fun w12 t11 h => ?_) (fun E t h => by cases h)
  replace h := jvI_some h
  obtain ⟨x13, rfl, h⟩ := h
  refine r_iload C 1077 rfl 1 dL_law_1075 rfl ?_
  refine r_icmp_eq C 1082 1080 rfl dL_law_1077 (by decide) h (fun h => ?_) (fun h => ?_)
  · refine r_iload C 1084 rfl 1 dL_law_1082 rfl ?_
    obtain ⟨j1099, hj1099E, h⟩ := jj_some h
    have hj1099 : ∀ (t14 : Hp), j1099 t14 = some (.inl (some (.int 1)), τ) → jW p l e room_1 s m args below meth c g (Q) (kq + 2) (nq + 12) 1099 [(0, .ref (gSa g)), (1, .ref a1), (2, .ref a2), (3, .ref a3), (4, .ref a4), (5, .int v5)] [] t14 := by
      subst hj1099E
      intro t14 h
      refine r_goto C 1711 dL_law_1099 (by decide) ?_
      refine r_iinc C (v := v5 + 5) 1714 rfl 5 [(5, .int (v5 + 5)), (0, .ref (gSa g)), (1, .ref a1), (2, .ref a2), (3, .ref a3), (4, .ref a4)] dL_law_1711 rfl rfl (by decide) rfl ?_
      refine r_goto C 28 dL_law_1714 (by decide) ?_
      refine r_lv [1, 2, 3, 4, 5, 0] rfl ?_
      refine r_widen (k' := kq + 30) (n' := nq + 1000) (by omega) (by omega) ?_
      exact hrc (v5 + 5) t14 h
    clear hj1099E
    refine r_if_ne C 1099 1087 rfl dL_law_1084 (by decide) h (fun h => ?_) (fun h => ?_)
    · refine r_lv [2, 3, 4, 5, 6, 7] rfl ?_
      exact hj1099 t11 h
    · refine r_aload_n C (x := some a3) 1088 rfl 5 dL_law_1087 rfl ?_
      refine r_iconst C (v := 0) 1089 rfl dL_law_1088 (by decide) ?_
      refine r_lald C 1090 rfl dL_law_1089 h (fun x15 h => ?_)
      refine r_iload C 1092 rfl 0 dL_law_1090 rfl ?_
      refine r_i2l C 1093 rfl dL_law_1092 ?_
      refine r_lcmp C 1094 rfl dL_law_1093 ?_
      refine r_if_eq C 1099 1097 rfl dL_law_1094 (by decide) h (fun h => ?_) (fun h => ?_)
      · refine r_lv [2, 3, 4, 5, 6, 7] rfl ?_
        exact hj1099 t11 h
      · refine r_iconst C (v := 0) 1098 rfl dL_law_1097 (by decide) ?_
        exact (j01 h).elim
  · refine r_iconst C (v := 0) 1081 rfl dL_law_1080 (by decide) ?_
    exact (j01 h).elim
def J_L_law_c1102 (g : jG) (rc : Nat → Nat → Nat → Nat → Int32 → Hp → jR) (a1 a2 a3 a4 : Nat) (v5 : Int32) (t0 : Hp) : jR := jzI g (v5 + 1) (fun x1 => jcs (J_L_emboss a1 x1 a3 t0) (fun w3 t2 => jvI w3 (fun x4 => jzI g (v5 + 1) (fun x5 => jcv t2 a2 6 (J_X6_emboss a2 x5 t2) (fun w7 t6 => jvI w7 (fun x8 => jcv t6 a2 6 (J_X6_thrown a2 t6) (fun w10 t9 => jvI w10 (fun x11 => (if x11 = x4 then jj (fun (t12 : Hp) => rc a1 a2 a3 a4 (v5 + 5) t12) (fun j1155 => (if x4 = 0 then jaJ t9 a3 0 (fun x13 => (if (lg_cmp x13 x8.toInt64) = 0 then j1155 t9 else some (.inl (some (.int 0)), t9))) else j1155 t9)) else some (.inl (some (.int 0)), t9)))) (fun _ _ => none))) (fun _ _ => none)))) (fun _ _ => none))
set_option maxHeartbeats 4000000 in
set_option maxRecDepth 100000 in
theorem w_L_law_c1102 (l : Launch) (hst : l.stackTraces = false) {p : Program} {e : Env} {s : State} {m : MethodId} {args : Array Value} {below : List Frame} {meth : Method} {c : Code} {Q : State → Prop} {g : jG} {τ : Hp} (C : jC p l s m args meth c g RL cL_law 10 (some .boolean)) (rc : Nat → Nat → Nat → Nat → Int32 → Hp → jR) (a1 a2 a3 a4 : Nat) (v5 : Int32) (t0 : Hp) (kq nq : Nat) (hkq : kq + 30 ≤ 603072) (hnq : nq + 1000 ≤ 7219306) (hrc : ∀ (v : Int32) (t : Hp), rc a1 a2 a3 a4 v t = some (.inl (some (.int 1)), τ) → jW p l e room_1 s m args below meth c g Q (kq + 30) (nq + 1000) 28 [(0, .ref (gSa g)), (1, .ref a1), (2, .ref a2), (3, .ref a3), (4, .ref a4), (5, .int v)] [] t) (h : J_L_law_c1102 g rc a1 a2 a3 a4 v5 t0 = some (.inl (some (.int 1)), τ)) : jW p l e room_1 s m args below meth c g Q kq nq 1102 [(0, .ref (gSa g)), (1, .ref a1), (2, .ref a2), (3, .ref a3), (4, .ref a4), (5, .int v5)] [] t0 := by
  unfold J_L_law_c1102 at h
  refine r_aload_n C (x := some a1) 1103 rfl 1 dL_law_1102 rfl ?_
  refine r_aload_n C (x := some (gSa g)) 1104 rfl 0 dL_law_1103 rfl ?_
  refine r_iload C 1106 rfl 5 dL_law_1104 rfl ?_
  refine r_iconst C (v := 1) 1107 rfl dL_law_1106 (by decide) ?_
  refine r_iadd C 1108 rfl dL_law_1107 ?_
  refine r_zald C 1109 rfl dL_law_1108 h (fun x1 h => ?_)
  refine r_aload_n C (x := some a3) 1110 rfl 3 dL_law_1109 rfl ?_
  refine r_callSX C mm_L_157 st_yL_emboss 1113 (kq + 2) (nq + 12) rfl rfl rfl dL_law_1110 rfl rfl (As := [.ref a1, .int x1, .ref a3]) rfl rfl (Nat.le_of_ble_eq_true rfl) ⟨Nat.le_of_ble_eq_true rfl, Nat.le_of_ble_eq_true rfl⟩ ⟨(by show kq + 2 ≤ 603072; omega), (by show nq + 12 ≤ 7219306; omega)⟩ (fun o t h => k_L_emboss l hst g _ _ _ _ o t h) h (fun w3 t2 h => ?_) (fun E t h => by cases h)
  replace h := jvI_some h
  obtain ⟨x4, rfl, h⟩ := h
  refine r_istore C 1115 rfl [(6, .int x4), (0, .ref (gSa g)), (1, .ref a1), (2, .ref a2), (3, .ref a3), (4, .ref a4), (5, .int v5)] dL_law_1113 (by decide) rfl ?_
  refine r_aload_n C (x := some a2) 1116 rfl 3 dL_law_1115 rfl ?_
  refine r_aload_n C (x := some (gSa g)) 1117 rfl 1 dL_law_1116 rfl ?_
  refine r_iload C 1119 rfl 6 dL_law_1117 rfl ?_
  refine r_iconst C (v := 1) 1120 rfl dL_law_1119 (by decide) ?_
  refine r_iadd C 1121 rfl dL_law_1120 ?_
  refine r_zald C 1122 rfl dL_law_1121 h (fun x5 h => ?_)
  refine r_callV C (ci := 6) mm_L_159 im_yX6_emboss se_yX6_emboss rfl 1125 (kq + 2) (nq + 12) rfl rfl rfl dL_law_1122 rfl rfl (As := [.int x5]) rfl rfl (Nat.le_of_ble_eq_true rfl) ⟨Nat.le_of_ble_eq_true rfl, Nat.le_of_ble_eq_true rfl⟩ ⟨(by show kq + 2 ≤ 603072; omega), (by show nq + 12 ≤ 7219306; omega)⟩ (fun o t h => k_X6_emboss l hst g _ _ _ o t h) h (fun w7 t6 h => ?_) (fun E t h => by cases h)
  replace h := jvI_some h
  obtain ⟨x8, rfl, h⟩ := h
  refine r_istore C 1127 rfl [(7, .int x8), (6, .int x4), (0, .ref (gSa g)), (1, .ref a1), (2, .ref a2), (3, .ref a3), (4, .ref a4), (5, .int v5)] dL_law_1125 (by decide) rfl ?_
  refine r_aload_n C (x := some a2) 1128 rfl 4 dL_law_1127 rfl ?_
  refine r_callV C (ci := 6) mm_L_106 im_yX6_thrown se_yX6_thrown rfl 1131 (kq + 2) (nq + 12) rfl rfl rfl dL_law_1128 rfl rfl (As := []) rfl rfl (Nat.le_of_ble_eq_true rfl) ⟨Nat.le_of_ble_eq_true rfl, Nat.le_of_ble_eq_true rfl⟩ ⟨(by show kq + 2 ≤ 603072; omega), (by show nq + 12 ≤ 7219306; omega)⟩ (fun o t h => k_X6_thrown l hst g _ _ o t h) h (fun w10 t9 h => ?_) (fun E t h => by cases h)
  replace h := jvI_some h
  obtain ⟨x11, rfl, h⟩ := h
  refine r_iload C 1133 rfl 1 dL_law_1131 rfl ?_
  refine r_icmp_eq C 1138 1136 rfl dL_law_1133 (by decide) h (fun h => ?_) (fun h => ?_)
  · refine r_iload C 1140 rfl 1 dL_law_1138 rfl ?_
    obtain ⟨j1155, hj1155E, h⟩ := jj_some h
    have hj1155 : ∀ (t12 : Hp), j1155 t12 = some (.inl (some (.int 1)), τ) → jW p l e room_1 s m args below meth c g (Q) (kq + 2) (nq + 12) 1155 [(0, .ref (gSa g)), (1, .ref a1), (2, .ref a2), (3, .ref a3), (4, .ref a4), (5, .int v5)] [] t12 := by
      subst hj1155E
      intro t12 h
      refine r_goto C 1711 dL_law_1155 (by decide) ?_
      refine r_iinc C (v := v5 + 5) 1714 rfl 5 [(5, .int (v5 + 5)), (0, .ref (gSa g)), (1, .ref a1), (2, .ref a2), (3, .ref a3), (4, .ref a4)] dL_law_1711 rfl rfl (by decide) rfl ?_
      refine r_goto C 28 dL_law_1714 (by decide) ?_
      refine r_lv [1, 2, 3, 4, 5, 0] rfl ?_
      refine r_widen (k' := kq + 30) (n' := nq + 1000) (by omega) (by omega) ?_
      exact hrc (v5 + 5) t12 h
    clear hj1155E
    refine r_if_ne C 1155 1143 rfl dL_law_1140 (by decide) h (fun h => ?_) (fun h => ?_)
    · refine r_lv [2, 3, 4, 5, 6, 7] rfl ?_
      exact hj1155 t9 h
    · refine r_aload_n C (x := some a3) 1144 rfl 5 dL_law_1143 rfl ?_
      refine r_iconst C (v := 0) 1145 rfl dL_law_1144 (by decide) ?_
      refine r_lald C 1146 rfl dL_law_1145 h (fun x13 h => ?_)
      refine r_iload C 1148 rfl 0 dL_law_1146 rfl ?_
      refine r_i2l C 1149 rfl dL_law_1148 ?_
      refine r_lcmp C 1150 rfl dL_law_1149 ?_
      refine r_if_eq C 1155 1153 rfl dL_law_1150 (by decide) h (fun h => ?_) (fun h => ?_)
      · refine r_lv [2, 3, 4, 5, 6, 7] rfl ?_
        exact hj1155 t9 h
      · refine r_iconst C (v := 0) 1154 rfl dL_law_1153 (by decide) ?_
        exact (j01 h).elim
  · refine r_iconst C (v := 0) 1137 rfl dL_law_1136 (by decide) ?_
    exact (j01 h).elim
def J_L_law_c1158 (g : jG) (rc : Nat → Nat → Nat → Nat → Int32 → Hp → jR) (a1 a2 a3 a4 : Nat) (v5 : Int32) (t0 : Hp) : jR := jzI g (v5 + 1) (fun x1 => jcs (J_L_changed a1 x1 a3 t0) (fun w3 t2 => jvI w3 (fun x4 => jzI g (v5 + 1) (fun x5 => jcv t2 a2 6 (J_X6_changed a2 x5 t2) (fun w7 t6 => jvI w7 (fun x8 => jcv t6 a2 6 (J_X6_thrown a2 t6) (fun w10 t9 => jvI w10 (fun x11 => (if x11 = x4 then jj (fun (t12 : Hp) => rc a1 a2 a3 a4 (v5 + 5) t12) (fun j1211 => (if x4 = 0 then jaJ t9 a3 0 (fun x13 => (if (lg_cmp x13 x8.toInt64) = 0 then j1211 t9 else some (.inl (some (.int 0)), t9))) else j1211 t9)) else some (.inl (some (.int 0)), t9)))) (fun _ _ => none))) (fun _ _ => none)))) (fun _ _ => none))
set_option maxHeartbeats 4000000 in
set_option maxRecDepth 100000 in
theorem w_L_law_c1158 (l : Launch) (hst : l.stackTraces = false) {p : Program} {e : Env} {s : State} {m : MethodId} {args : Array Value} {below : List Frame} {meth : Method} {c : Code} {Q : State → Prop} {g : jG} {τ : Hp} (C : jC p l s m args meth c g RL cL_law 10 (some .boolean)) (rc : Nat → Nat → Nat → Nat → Int32 → Hp → jR) (a1 a2 a3 a4 : Nat) (v5 : Int32) (t0 : Hp) (kq nq : Nat) (hkq : kq + 30 ≤ 603072) (hnq : nq + 1000 ≤ 7219306) (hrc : ∀ (v : Int32) (t : Hp), rc a1 a2 a3 a4 v t = some (.inl (some (.int 1)), τ) → jW p l e room_1 s m args below meth c g Q (kq + 30) (nq + 1000) 28 [(0, .ref (gSa g)), (1, .ref a1), (2, .ref a2), (3, .ref a3), (4, .ref a4), (5, .int v)] [] t) (h : J_L_law_c1158 g rc a1 a2 a3 a4 v5 t0 = some (.inl (some (.int 1)), τ)) : jW p l e room_1 s m args below meth c g Q kq nq 1158 [(0, .ref (gSa g)), (1, .ref a1), (2, .ref a2), (3, .ref a3), (4, .ref a4), (5, .int v5)] [] t0 := by
  unfold J_L_law_c1158 at h
  refine r_aload_n C (x := some a1) 1159 rfl 1 dL_law_1158 rfl ?_
  refine r_aload_n C (x := some (gSa g)) 1160 rfl 0 dL_law_1159 rfl ?_
  refine r_iload C 1162 rfl 5 dL_law_1160 rfl ?_
  refine r_iconst C (v := 1) 1163 rfl dL_law_1162 (by decide) ?_
  refine r_iadd C 1164 rfl dL_law_1163 ?_
  refine r_zald C 1165 rfl dL_law_1164 h (fun x1 h => ?_)
  refine r_aload_n C (x := some a3) 1166 rfl 3 dL_law_1165 rfl ?_
  refine r_callSX C mm_L_160 st_yL_changed 1169 (kq + 1) (nq + 6) rfl rfl rfl dL_law_1166 rfl rfl (As := [.ref a1, .int x1, .ref a3]) rfl rfl (Nat.le_of_ble_eq_true rfl) ⟨Nat.le_of_ble_eq_true rfl, Nat.le_of_ble_eq_true rfl⟩ ⟨(by show kq + 1 ≤ 603072; omega), (by show nq + 6 ≤ 7219306; omega)⟩ (fun o t h => k_L_changed l hst g _ _ _ _ o t h) h (fun w3 t2 h => ?_) (fun E t h => by cases h)
  replace h := jvI_some h
  obtain ⟨x4, rfl, h⟩ := h
  refine r_istore C 1171 rfl [(6, .int x4), (0, .ref (gSa g)), (1, .ref a1), (2, .ref a2), (3, .ref a3), (4, .ref a4), (5, .int v5)] dL_law_1169 (by decide) rfl ?_
  refine r_aload_n C (x := some a2) 1172 rfl 3 dL_law_1171 rfl ?_
  refine r_aload_n C (x := some (gSa g)) 1173 rfl 1 dL_law_1172 rfl ?_
  refine r_iload C 1175 rfl 6 dL_law_1173 rfl ?_
  refine r_iconst C (v := 1) 1176 rfl dL_law_1175 (by decide) ?_
  refine r_iadd C 1177 rfl dL_law_1176 ?_
  refine r_zald C 1178 rfl dL_law_1177 h (fun x5 h => ?_)
  refine r_callV C (ci := 6) mm_L_162 im_yX6_changed se_yX6_changed rfl 1181 (kq + 1) (nq + 6) rfl rfl rfl dL_law_1178 rfl rfl (As := [.int x5]) rfl rfl (Nat.le_of_ble_eq_true rfl) ⟨Nat.le_of_ble_eq_true rfl, Nat.le_of_ble_eq_true rfl⟩ ⟨(by show kq + 1 ≤ 603072; omega), (by show nq + 6 ≤ 7219306; omega)⟩ (fun o t h => k_X6_changed l hst g _ _ _ o t h) h (fun w7 t6 h => ?_) (fun E t h => by cases h)
  replace h := jvI_some h
  obtain ⟨x8, rfl, h⟩ := h
  refine r_istore C 1183 rfl [(7, .int x8), (6, .int x4), (0, .ref (gSa g)), (1, .ref a1), (2, .ref a2), (3, .ref a3), (4, .ref a4), (5, .int v5)] dL_law_1181 (by decide) rfl ?_
  refine r_aload_n C (x := some a2) 1184 rfl 4 dL_law_1183 rfl ?_
  refine r_callV C (ci := 6) mm_L_106 im_yX6_thrown se_yX6_thrown rfl 1187 (kq + 1) (nq + 6) rfl rfl rfl dL_law_1184 rfl rfl (As := []) rfl rfl (Nat.le_of_ble_eq_true rfl) ⟨Nat.le_of_ble_eq_true rfl, Nat.le_of_ble_eq_true rfl⟩ ⟨(by show kq + 1 ≤ 603072; omega), (by show nq + 6 ≤ 7219306; omega)⟩ (fun o t h => k_X6_thrown l hst g _ _ o t h) h (fun w10 t9 h => ?_) (fun E t h => by cases h)
  replace h := jvI_some h
  obtain ⟨x11, rfl, h⟩ := h
  refine r_iload C 1189 rfl 1 dL_law_1187 rfl ?_
  refine r_icmp_eq C 1194 1192 rfl dL_law_1189 (by decide) h (fun h => ?_) (fun h => ?_)
  · refine r_iload C 1196 rfl 1 dL_law_1194 rfl ?_
    obtain ⟨j1211, hj1211E, h⟩ := jj_some h
    have hj1211 : ∀ (t12 : Hp), j1211 t12 = some (.inl (some (.int 1)), τ) → jW p l e room_1 s m args below meth c g (Q) (kq + 1) (nq + 6) 1211 [(0, .ref (gSa g)), (1, .ref a1), (2, .ref a2), (3, .ref a3), (4, .ref a4), (5, .int v5)] [] t12 := by
      subst hj1211E
      intro t12 h
      refine r_goto C 1711 dL_law_1211 (by decide) ?_
      refine r_iinc C (v := v5 + 5) 1714 rfl 5 [(5, .int (v5 + 5)), (0, .ref (gSa g)), (1, .ref a1), (2, .ref a2), (3, .ref a3), (4, .ref a4)] dL_law_1711 rfl rfl (by decide) rfl ?_
      refine r_goto C 28 dL_law_1714 (by decide) ?_
      refine r_lv [1, 2, 3, 4, 5, 0] rfl ?_
      refine r_widen (k' := kq + 30) (n' := nq + 1000) (by omega) (by omega) ?_
      exact hrc (v5 + 5) t12 h
    clear hj1211E
    refine r_if_ne C 1211 1199 rfl dL_law_1196 (by decide) h (fun h => ?_) (fun h => ?_)
    · refine r_lv [2, 3, 4, 5, 6, 7] rfl ?_
      exact hj1211 t9 h
    · refine r_aload_n C (x := some a3) 1200 rfl 5 dL_law_1199 rfl ?_
      refine r_iconst C (v := 0) 1201 rfl dL_law_1200 (by decide) ?_
      refine r_lald C 1202 rfl dL_law_1201 h (fun x13 h => ?_)
      refine r_iload C 1204 rfl 0 dL_law_1202 rfl ?_
      refine r_i2l C 1205 rfl dL_law_1204 ?_
      refine r_lcmp C 1206 rfl dL_law_1205 ?_
      refine r_if_eq C 1211 1209 rfl dL_law_1206 (by decide) h (fun h => ?_) (fun h => ?_)
      · refine r_lv [2, 3, 4, 5, 6, 7] rfl ?_
        exact hj1211 t9 h
      · refine r_iconst C (v := 0) 1210 rfl dL_law_1209 (by decide) ?_
        exact (j01 h).elim
  · refine r_iconst C (v := 0) 1193 rfl dL_law_1192 (by decide) ?_
    exact (j01 h).elim
def J_L_law_c1214 (g : jG) (rc : Nat → Nat → Nat → Nat → Int32 → Hp → jR) (a1 a2 a3 a4 : Nat) (v5 : Int32) (t0 : Hp) : jR := jzI g (v5 + 1) (fun x1 => jcs (J_L_setBearing a1 x1 a3 t0) (fun w3 t2 => jvI w3 (fun x4 => jzI g (v5 + 1) (fun x5 => jcv t2 a2 6 (J_X6_setBearing a2 x5 t2) (fun w7 t6 => jvI w7 (fun x8 => jcv t6 a2 6 (J_X6_thrown a2 t6) (fun w10 t9 => jvI w10 (fun x11 => (if x11 = x4 then jj (fun (t12 : Hp) => rc a1 a2 a3 a4 (v5 + 5) t12) (fun j1267 => (if x4 = 0 then jaJ t9 a3 0 (fun x13 => (if (lg_cmp x13 x8.toInt64) = 0 then j1267 t9 else some (.inl (some (.int 0)), t9))) else j1267 t9)) else some (.inl (some (.int 0)), t9)))) (fun _ _ => none))) (fun _ _ => none)))) (fun _ _ => none))
set_option maxHeartbeats 4000000 in
set_option maxRecDepth 100000 in
theorem w_L_law_c1214 (l : Launch) (hst : l.stackTraces = false) {p : Program} {e : Env} {s : State} {m : MethodId} {args : Array Value} {below : List Frame} {meth : Method} {c : Code} {Q : State → Prop} {g : jG} {τ : Hp} (C : jC p l s m args meth c g RL cL_law 10 (some .boolean)) (rc : Nat → Nat → Nat → Nat → Int32 → Hp → jR) (a1 a2 a3 a4 : Nat) (v5 : Int32) (t0 : Hp) (kq nq : Nat) (hkq : kq + 30 ≤ 603072) (hnq : nq + 1000 ≤ 7219306) (hrc : ∀ (v : Int32) (t : Hp), rc a1 a2 a3 a4 v t = some (.inl (some (.int 1)), τ) → jW p l e room_1 s m args below meth c g Q (kq + 30) (nq + 1000) 28 [(0, .ref (gSa g)), (1, .ref a1), (2, .ref a2), (3, .ref a3), (4, .ref a4), (5, .int v)] [] t) (h : J_L_law_c1214 g rc a1 a2 a3 a4 v5 t0 = some (.inl (some (.int 1)), τ)) : jW p l e room_1 s m args below meth c g Q kq nq 1214 [(0, .ref (gSa g)), (1, .ref a1), (2, .ref a2), (3, .ref a3), (4, .ref a4), (5, .int v5)] [] t0 := by
  unfold J_L_law_c1214 at h
  refine r_aload_n C (x := some a1) 1215 rfl 1 dL_law_1214 rfl ?_
  refine r_aload_n C (x := some (gSa g)) 1216 rfl 0 dL_law_1215 rfl ?_
  refine r_iload C 1218 rfl 5 dL_law_1216 rfl ?_
  refine r_iconst C (v := 1) 1219 rfl dL_law_1218 (by decide) ?_
  refine r_iadd C 1220 rfl dL_law_1219 ?_
  refine r_zald C 1221 rfl dL_law_1220 h (fun x1 h => ?_)
  refine r_aload_n C (x := some a3) 1222 rfl 3 dL_law_1221 rfl ?_
  refine r_callSX C mm_L_163 st_yL_setBearing 1225 (kq + 1) (nq + 6) rfl rfl rfl dL_law_1222 rfl rfl (As := [.ref a1, .int x1, .ref a3]) rfl rfl (Nat.le_of_ble_eq_true rfl) ⟨Nat.le_of_ble_eq_true rfl, Nat.le_of_ble_eq_true rfl⟩ ⟨(by show kq + 1 ≤ 603072; omega), (by show nq + 6 ≤ 7219306; omega)⟩ (fun o t h => k_L_setBearing l hst g _ _ _ _ o t h) h (fun w3 t2 h => ?_) (fun E t h => by cases h)
  replace h := jvI_some h
  obtain ⟨x4, rfl, h⟩ := h
  refine r_istore C 1227 rfl [(6, .int x4), (0, .ref (gSa g)), (1, .ref a1), (2, .ref a2), (3, .ref a3), (4, .ref a4), (5, .int v5)] dL_law_1225 (by decide) rfl ?_
  refine r_aload_n C (x := some a2) 1228 rfl 3 dL_law_1227 rfl ?_
  refine r_aload_n C (x := some (gSa g)) 1229 rfl 1 dL_law_1228 rfl ?_
  refine r_iload C 1231 rfl 6 dL_law_1229 rfl ?_
  refine r_iconst C (v := 1) 1232 rfl dL_law_1231 (by decide) ?_
  refine r_iadd C 1233 rfl dL_law_1232 ?_
  refine r_zald C 1234 rfl dL_law_1233 h (fun x5 h => ?_)
  refine r_callV C (ci := 6) mm_L_165 im_yX6_setBearing se_yX6_setBearing rfl 1237 (kq + 1) (nq + 6) rfl rfl rfl dL_law_1234 rfl rfl (As := [.int x5]) rfl rfl (Nat.le_of_ble_eq_true rfl) ⟨Nat.le_of_ble_eq_true rfl, Nat.le_of_ble_eq_true rfl⟩ ⟨(by show kq + 1 ≤ 603072; omega), (by show nq + 6 ≤ 7219306; omega)⟩ (fun o t h => k_X6_setBearing l hst g _ _ _ o t h) h (fun w7 t6 h => ?_) (fun E t h => by cases h)
  replace h := jvI_some h
  obtain ⟨x8, rfl, h⟩ := h
  refine r_istore C 1239 rfl [(7, .int x8), (6, .int x4), (0, .ref (gSa g)), (1, .ref a1), (2, .ref a2), (3, .ref a3), (4, .ref a4), (5, .int v5)] dL_law_1237 (by decide) rfl ?_
  refine r_aload_n C (x := some a2) 1240 rfl 4 dL_law_1239 rfl ?_
  refine r_callV C (ci := 6) mm_L_106 im_yX6_thrown se_yX6_thrown rfl 1243 (kq + 1) (nq + 6) rfl rfl rfl dL_law_1240 rfl rfl (As := []) rfl rfl (Nat.le_of_ble_eq_true rfl) ⟨Nat.le_of_ble_eq_true rfl, Nat.le_of_ble_eq_true rfl⟩ ⟨(by show kq + 1 ≤ 603072; omega), (by show nq + 6 ≤ 7219306; omega)⟩ (fun o t h => k_X6_thrown l hst g _ _ o t h) h (fun w10 t9 h => ?_) (fun E t h => by cases h)
  replace h := jvI_some h
  obtain ⟨x11, rfl, h⟩ := h
  refine r_iload C 1245 rfl 1 dL_law_1243 rfl ?_
  refine r_icmp_eq C 1250 1248 rfl dL_law_1245 (by decide) h (fun h => ?_) (fun h => ?_)
  · refine r_iload C 1252 rfl 1 dL_law_1250 rfl ?_
    obtain ⟨j1267, hj1267E, h⟩ := jj_some h
    have hj1267 : ∀ (t12 : Hp), j1267 t12 = some (.inl (some (.int 1)), τ) → jW p l e room_1 s m args below meth c g (Q) (kq + 1) (nq + 6) 1267 [(0, .ref (gSa g)), (1, .ref a1), (2, .ref a2), (3, .ref a3), (4, .ref a4), (5, .int v5)] [] t12 := by
      subst hj1267E
      intro t12 h
      refine r_goto C 1711 dL_law_1267 (by decide) ?_
      refine r_iinc C (v := v5 + 5) 1714 rfl 5 [(5, .int (v5 + 5)), (0, .ref (gSa g)), (1, .ref a1), (2, .ref a2), (3, .ref a3), (4, .ref a4)] dL_law_1711 rfl rfl (by decide) rfl ?_
      refine r_goto C 28 dL_law_1714 (by decide) ?_
      refine r_lv [1, 2, 3, 4, 5, 0] rfl ?_
      refine r_widen (k' := kq + 30) (n' := nq + 1000) (by omega) (by omega) ?_
      exact hrc (v5 + 5) t12 h
    clear hj1267E
    refine r_if_ne C 1267 1255 rfl dL_law_1252 (by decide) h (fun h => ?_) (fun h => ?_)
    · refine r_lv [2, 3, 4, 5, 6, 7] rfl ?_
      exact hj1267 t9 h
    · refine r_aload_n C (x := some a3) 1256 rfl 5 dL_law_1255 rfl ?_
      refine r_iconst C (v := 0) 1257 rfl dL_law_1256 (by decide) ?_
      refine r_lald C 1258 rfl dL_law_1257 h (fun x13 h => ?_)
      refine r_iload C 1260 rfl 0 dL_law_1258 rfl ?_
      refine r_i2l C 1261 rfl dL_law_1260 ?_
      refine r_lcmp C 1262 rfl dL_law_1261 ?_
      refine r_if_eq C 1267 1265 rfl dL_law_1262 (by decide) h (fun h => ?_) (fun h => ?_)
      · refine r_lv [2, 3, 4, 5, 6, 7] rfl ?_
        exact hj1267 t9 h
      · refine r_iconst C (v := 0) 1266 rfl dL_law_1265 (by decide) ?_
        exact (j01 h).elim
  · refine r_iconst C (v := 0) 1249 rfl dL_law_1248 (by decide) ?_
    exact (j01 h).elim
def J_L_law_c1270 (g : jG) (rc : Nat → Nat → Nat → Nat → Int32 → Hp → jR) (a1 a2 a3 a4 : Nat) (v5 : Int32) (t0 : Hp) : jR := jzI g (v5 + 1) (fun x1 => jcs (J_L_replace a1 x1 a3 t0) (fun w3 t2 => jvI w3 (fun x4 => jzI g (v5 + 1) (fun x5 => jcv t2 a2 6 (J_X6_replace a2 x5 t2) (fun w7 t6 => jvI w7 (fun x8 => jcv t6 a2 6 (J_X6_thrown a2 t6) (fun w10 t9 => jvI w10 (fun x11 => (if x11 = x4 then jj (fun (t12 : Hp) => rc a1 a2 a3 a4 (v5 + 5) t12) (fun j1323 => (if x4 = 0 then jaJ t9 a3 0 (fun x13 => (if (lg_cmp x13 x8.toInt64) = 0 then j1323 t9 else some (.inl (some (.int 0)), t9))) else j1323 t9)) else some (.inl (some (.int 0)), t9)))) (fun _ _ => none))) (fun _ _ => none)))) (fun _ _ => none))
set_option maxHeartbeats 4000000 in
set_option maxRecDepth 100000 in
theorem w_L_law_c1270 (l : Launch) (hst : l.stackTraces = false) {p : Program} {e : Env} {s : State} {m : MethodId} {args : Array Value} {below : List Frame} {meth : Method} {c : Code} {Q : State → Prop} {g : jG} {τ : Hp} (C : jC p l s m args meth c g RL cL_law 10 (some .boolean)) (rc : Nat → Nat → Nat → Nat → Int32 → Hp → jR) (a1 a2 a3 a4 : Nat) (v5 : Int32) (t0 : Hp) (kq nq : Nat) (hkq : kq + 30 ≤ 603072) (hnq : nq + 1000 ≤ 7219306) (hrc : ∀ (v : Int32) (t : Hp), rc a1 a2 a3 a4 v t = some (.inl (some (.int 1)), τ) → jW p l e room_1 s m args below meth c g Q (kq + 30) (nq + 1000) 28 [(0, .ref (gSa g)), (1, .ref a1), (2, .ref a2), (3, .ref a3), (4, .ref a4), (5, .int v)] [] t) (h : J_L_law_c1270 g rc a1 a2 a3 a4 v5 t0 = some (.inl (some (.int 1)), τ)) : jW p l e room_1 s m args below meth c g Q kq nq 1270 [(0, .ref (gSa g)), (1, .ref a1), (2, .ref a2), (3, .ref a3), (4, .ref a4), (5, .int v5)] [] t0 := by
  unfold J_L_law_c1270 at h
  refine r_aload_n C (x := some a1) 1271 rfl 1 dL_law_1270 rfl ?_
  refine r_aload_n C (x := some (gSa g)) 1272 rfl 0 dL_law_1271 rfl ?_
  refine r_iload C 1274 rfl 5 dL_law_1272 rfl ?_
  refine r_iconst C (v := 1) 1275 rfl dL_law_1274 (by decide) ?_
  refine r_iadd C 1276 rfl dL_law_1275 ?_
  refine r_zald C 1277 rfl dL_law_1276 h (fun x1 h => ?_)
  refine r_aload_n C (x := some a3) 1278 rfl 3 dL_law_1277 rfl ?_
  refine r_callSX C mm_L_166 st_yL_replace 1281 (kq + 1) (nq + 6) rfl rfl rfl dL_law_1278 rfl rfl (As := [.ref a1, .int x1, .ref a3]) rfl rfl (Nat.le_of_ble_eq_true rfl) ⟨Nat.le_of_ble_eq_true rfl, Nat.le_of_ble_eq_true rfl⟩ ⟨(by show kq + 1 ≤ 603072; omega), (by show nq + 6 ≤ 7219306; omega)⟩ (fun o t h => k_L_replace l hst g _ _ _ _ o t h) h (fun w3 t2 h => ?_) (fun E t h => by cases h)
  replace h := jvI_some h
  obtain ⟨x4, rfl, h⟩ := h
  refine r_istore C 1283 rfl [(6, .int x4), (0, .ref (gSa g)), (1, .ref a1), (2, .ref a2), (3, .ref a3), (4, .ref a4), (5, .int v5)] dL_law_1281 (by decide) rfl ?_
  refine r_aload_n C (x := some a2) 1284 rfl 3 dL_law_1283 rfl ?_
  refine r_aload_n C (x := some (gSa g)) 1285 rfl 1 dL_law_1284 rfl ?_
  refine r_iload C 1287 rfl 6 dL_law_1285 rfl ?_
  refine r_iconst C (v := 1) 1288 rfl dL_law_1287 (by decide) ?_
  refine r_iadd C 1289 rfl dL_law_1288 ?_
  refine r_zald C 1290 rfl dL_law_1289 h (fun x5 h => ?_)
  refine r_callV C (ci := 6) mm_L_168 im_yX6_replace se_yX6_replace rfl 1293 (kq + 1) (nq + 6) rfl rfl rfl dL_law_1290 rfl rfl (As := [.int x5]) rfl rfl (Nat.le_of_ble_eq_true rfl) ⟨Nat.le_of_ble_eq_true rfl, Nat.le_of_ble_eq_true rfl⟩ ⟨(by show kq + 1 ≤ 603072; omega), (by show nq + 6 ≤ 7219306; omega)⟩ (fun o t h => k_X6_replace l hst g _ _ _ o t h) h (fun w7 t6 h => ?_) (fun E t h => by cases h)
  replace h := jvI_some h
  obtain ⟨x8, rfl, h⟩ := h
  refine r_istore C 1295 rfl [(7, .int x8), (6, .int x4), (0, .ref (gSa g)), (1, .ref a1), (2, .ref a2), (3, .ref a3), (4, .ref a4), (5, .int v5)] dL_law_1293 (by decide) rfl ?_
  refine r_aload_n C (x := some a2) 1296 rfl 4 dL_law_1295 rfl ?_
  refine r_callV C (ci := 6) mm_L_106 im_yX6_thrown se_yX6_thrown rfl 1299 (kq + 1) (nq + 6) rfl rfl rfl dL_law_1296 rfl rfl (As := []) rfl rfl (Nat.le_of_ble_eq_true rfl) ⟨Nat.le_of_ble_eq_true rfl, Nat.le_of_ble_eq_true rfl⟩ ⟨(by show kq + 1 ≤ 603072; omega), (by show nq + 6 ≤ 7219306; omega)⟩ (fun o t h => k_X6_thrown l hst g _ _ o t h) h (fun w10 t9 h => ?_) (fun E t h => by cases h)
  replace h := jvI_some h
  obtain ⟨x11, rfl, h⟩ := h
  refine r_iload C 1301 rfl 1 dL_law_1299 rfl ?_
  refine r_icmp_eq C 1306 1304 rfl dL_law_1301 (by decide) h (fun h => ?_) (fun h => ?_)
  · refine r_iload C 1308 rfl 1 dL_law_1306 rfl ?_
    obtain ⟨j1323, hj1323E, h⟩ := jj_some h
    have hj1323 : ∀ (t12 : Hp), j1323 t12 = some (.inl (some (.int 1)), τ) → jW p l e room_1 s m args below meth c g (Q) (kq + 1) (nq + 6) 1323 [(0, .ref (gSa g)), (1, .ref a1), (2, .ref a2), (3, .ref a3), (4, .ref a4), (5, .int v5)] [] t12 := by
      subst hj1323E
      intro t12 h
      refine r_goto C 1711 dL_law_1323 (by decide) ?_
      refine r_iinc C (v := v5 + 5) 1714 rfl 5 [(5, .int (v5 + 5)), (0, .ref (gSa g)), (1, .ref a1), (2, .ref a2), (3, .ref a3), (4, .ref a4)] dL_law_1711 rfl rfl (by decide) rfl ?_
      refine r_goto C 28 dL_law_1714 (by decide) ?_
      refine r_lv [1, 2, 3, 4, 5, 0] rfl ?_
      refine r_widen (k' := kq + 30) (n' := nq + 1000) (by omega) (by omega) ?_
      exact hrc (v5 + 5) t12 h
    clear hj1323E
    refine r_if_ne C 1323 1311 rfl dL_law_1308 (by decide) h (fun h => ?_) (fun h => ?_)
    · refine r_lv [2, 3, 4, 5, 6, 7] rfl ?_
      exact hj1323 t9 h
    · refine r_aload_n C (x := some a3) 1312 rfl 5 dL_law_1311 rfl ?_
      refine r_iconst C (v := 0) 1313 rfl dL_law_1312 (by decide) ?_
      refine r_lald C 1314 rfl dL_law_1313 h (fun x13 h => ?_)
      refine r_iload C 1316 rfl 0 dL_law_1314 rfl ?_
      refine r_i2l C 1317 rfl dL_law_1316 ?_
      refine r_lcmp C 1318 rfl dL_law_1317 ?_
      refine r_if_eq C 1323 1321 rfl dL_law_1318 (by decide) h (fun h => ?_) (fun h => ?_)
      · refine r_lv [2, 3, 4, 5, 6, 7] rfl ?_
        exact hj1323 t9 h
      · refine r_iconst C (v := 0) 1322 rfl dL_law_1321 (by decide) ?_
        exact (j01 h).elim
  · refine r_iconst C (v := 0) 1305 rfl dL_law_1304 (by decide) ?_
    exact (j01 h).elim
def J_L_law_c1326 (g : jG) (rc : Nat → Nat → Nat → Nat → Int32 → Hp → jR) (a1 a2 a3 a4 : Nat) (v5 : Int32) (t0 : Hp) : jR := jzI g (v5 + 1) (fun x1 => jcs (J_L_strikes a1 x1 a3 t0) (fun w3 t2 => jvI w3 (fun x4 => jzI g (v5 + 1) (fun x5 => jcv t2 a2 6 (J_X6_strikes a2 x5 t2) (fun w7 t6 => jvI w7 (fun x8 => jcv t6 a2 6 (J_X6_thrown a2 t6) (fun w10 t9 => jvI w10 (fun x11 => (if x11 = x4 then jj (fun (t12 : Hp) => rc a1 a2 a3 a4 (v5 + 5) t12) (fun j1379 => (if x4 = 0 then jaJ t9 a3 0 (fun x13 => (if (lg_cmp x13 x8.toInt64) = 0 then j1379 t9 else some (.inl (some (.int 0)), t9))) else j1379 t9)) else some (.inl (some (.int 0)), t9)))) (fun _ _ => none))) (fun _ _ => none)))) (fun _ _ => none))
set_option maxHeartbeats 4000000 in
set_option maxRecDepth 100000 in
theorem w_L_law_c1326 (l : Launch) (hst : l.stackTraces = false) {p : Program} {e : Env} {s : State} {m : MethodId} {args : Array Value} {below : List Frame} {meth : Method} {c : Code} {Q : State → Prop} {g : jG} {τ : Hp} (C : jC p l s m args meth c g RL cL_law 10 (some .boolean)) (rc : Nat → Nat → Nat → Nat → Int32 → Hp → jR) (a1 a2 a3 a4 : Nat) (v5 : Int32) (t0 : Hp) (kq nq : Nat) (hkq : kq + 30 ≤ 603072) (hnq : nq + 1000 ≤ 7219306) (hrc : ∀ (v : Int32) (t : Hp), rc a1 a2 a3 a4 v t = some (.inl (some (.int 1)), τ) → jW p l e room_1 s m args below meth c g Q (kq + 30) (nq + 1000) 28 [(0, .ref (gSa g)), (1, .ref a1), (2, .ref a2), (3, .ref a3), (4, .ref a4), (5, .int v)] [] t) (h : J_L_law_c1326 g rc a1 a2 a3 a4 v5 t0 = some (.inl (some (.int 1)), τ)) : jW p l e room_1 s m args below meth c g Q kq nq 1326 [(0, .ref (gSa g)), (1, .ref a1), (2, .ref a2), (3, .ref a3), (4, .ref a4), (5, .int v5)] [] t0 := by
  unfold J_L_law_c1326 at h
  refine r_aload_n C (x := some a1) 1327 rfl 1 dL_law_1326 rfl ?_
  refine r_aload_n C (x := some (gSa g)) 1328 rfl 0 dL_law_1327 rfl ?_
  refine r_iload C 1330 rfl 5 dL_law_1328 rfl ?_
  refine r_iconst C (v := 1) 1331 rfl dL_law_1330 (by decide) ?_
  refine r_iadd C 1332 rfl dL_law_1331 ?_
  refine r_zald C 1333 rfl dL_law_1332 h (fun x1 h => ?_)
  refine r_aload_n C (x := some a3) 1334 rfl 3 dL_law_1333 rfl ?_
  refine r_callSX C mm_L_169 st_yL_strikes 1337 (kq + 1) (nq + 6) rfl rfl rfl dL_law_1334 rfl rfl (As := [.ref a1, .int x1, .ref a3]) rfl rfl (Nat.le_of_ble_eq_true rfl) ⟨Nat.le_of_ble_eq_true rfl, Nat.le_of_ble_eq_true rfl⟩ ⟨(by show kq + 1 ≤ 603072; omega), (by show nq + 6 ≤ 7219306; omega)⟩ (fun o t h => k_L_strikes l hst g _ _ _ _ o t h) h (fun w3 t2 h => ?_) (fun E t h => by cases h)
  replace h := jvI_some h
  obtain ⟨x4, rfl, h⟩ := h
  refine r_istore C 1339 rfl [(6, .int x4), (0, .ref (gSa g)), (1, .ref a1), (2, .ref a2), (3, .ref a3), (4, .ref a4), (5, .int v5)] dL_law_1337 (by decide) rfl ?_
  refine r_aload_n C (x := some a2) 1340 rfl 3 dL_law_1339 rfl ?_
  refine r_aload_n C (x := some (gSa g)) 1341 rfl 1 dL_law_1340 rfl ?_
  refine r_iload C 1343 rfl 6 dL_law_1341 rfl ?_
  refine r_iconst C (v := 1) 1344 rfl dL_law_1343 (by decide) ?_
  refine r_iadd C 1345 rfl dL_law_1344 ?_
  refine r_zald C 1346 rfl dL_law_1345 h (fun x5 h => ?_)
  refine r_callV C (ci := 6) mm_L_171 im_yX6_strikes se_yX6_strikes rfl 1349 (kq + 1) (nq + 6) rfl rfl rfl dL_law_1346 rfl rfl (As := [.int x5]) rfl rfl (Nat.le_of_ble_eq_true rfl) ⟨Nat.le_of_ble_eq_true rfl, Nat.le_of_ble_eq_true rfl⟩ ⟨(by show kq + 1 ≤ 603072; omega), (by show nq + 6 ≤ 7219306; omega)⟩ (fun o t h => k_X6_strikes l hst g _ _ _ o t h) h (fun w7 t6 h => ?_) (fun E t h => by cases h)
  replace h := jvI_some h
  obtain ⟨x8, rfl, h⟩ := h
  refine r_istore C 1351 rfl [(7, .int x8), (6, .int x4), (0, .ref (gSa g)), (1, .ref a1), (2, .ref a2), (3, .ref a3), (4, .ref a4), (5, .int v5)] dL_law_1349 (by decide) rfl ?_
  refine r_aload_n C (x := some a2) 1352 rfl 4 dL_law_1351 rfl ?_
  refine r_callV C (ci := 6) mm_L_106 im_yX6_thrown se_yX6_thrown rfl 1355 (kq + 1) (nq + 6) rfl rfl rfl dL_law_1352 rfl rfl (As := []) rfl rfl (Nat.le_of_ble_eq_true rfl) ⟨Nat.le_of_ble_eq_true rfl, Nat.le_of_ble_eq_true rfl⟩ ⟨(by show kq + 1 ≤ 603072; omega), (by show nq + 6 ≤ 7219306; omega)⟩ (fun o t h => k_X6_thrown l hst g _ _ o t h) h (fun w10 t9 h => ?_) (fun E t h => by cases h)
  replace h := jvI_some h
  obtain ⟨x11, rfl, h⟩ := h
  refine r_iload C 1357 rfl 1 dL_law_1355 rfl ?_
  refine r_icmp_eq C 1362 1360 rfl dL_law_1357 (by decide) h (fun h => ?_) (fun h => ?_)
  · refine r_iload C 1364 rfl 1 dL_law_1362 rfl ?_
    obtain ⟨j1379, hj1379E, h⟩ := jj_some h
    have hj1379 : ∀ (t12 : Hp), j1379 t12 = some (.inl (some (.int 1)), τ) → jW p l e room_1 s m args below meth c g (Q) (kq + 1) (nq + 6) 1379 [(0, .ref (gSa g)), (1, .ref a1), (2, .ref a2), (3, .ref a3), (4, .ref a4), (5, .int v5)] [] t12 := by
      subst hj1379E
      intro t12 h
      refine r_goto C 1711 dL_law_1379 (by decide) ?_
      refine r_iinc C (v := v5 + 5) 1714 rfl 5 [(5, .int (v5 + 5)), (0, .ref (gSa g)), (1, .ref a1), (2, .ref a2), (3, .ref a3), (4, .ref a4)] dL_law_1711 rfl rfl (by decide) rfl ?_
      refine r_goto C 28 dL_law_1714 (by decide) ?_
      refine r_lv [1, 2, 3, 4, 5, 0] rfl ?_
      refine r_widen (k' := kq + 30) (n' := nq + 1000) (by omega) (by omega) ?_
      exact hrc (v5 + 5) t12 h
    clear hj1379E
    refine r_if_ne C 1379 1367 rfl dL_law_1364 (by decide) h (fun h => ?_) (fun h => ?_)
    · refine r_lv [2, 3, 4, 5, 6, 7] rfl ?_
      exact hj1379 t9 h
    · refine r_aload_n C (x := some a3) 1368 rfl 5 dL_law_1367 rfl ?_
      refine r_iconst C (v := 0) 1369 rfl dL_law_1368 (by decide) ?_
      refine r_lald C 1370 rfl dL_law_1369 h (fun x13 h => ?_)
      refine r_iload C 1372 rfl 0 dL_law_1370 rfl ?_
      refine r_i2l C 1373 rfl dL_law_1372 ?_
      refine r_lcmp C 1374 rfl dL_law_1373 ?_
      refine r_if_eq C 1379 1377 rfl dL_law_1374 (by decide) h (fun h => ?_) (fun h => ?_)
      · refine r_lv [2, 3, 4, 5, 6, 7] rfl ?_
        exact hj1379 t9 h
      · refine r_iconst C (v := 0) 1378 rfl dL_law_1377 (by decide) ?_
        exact (j01 h).elim
  · refine r_iconst C (v := 0) 1361 rfl dL_law_1360 (by decide) ?_
    exact (j01 h).elim
def J_L_law_c1382 (g : jG) (rc : Nat → Nat → Nat → Nat → Int32 → Hp → jR) (a1 a2 a3 a4 : Nat) (v5 : Int32) (t0 : Hp) : jR := jzI g (v5 + 1) (fun x1 => jzI g (v5 + 2) (fun x2 => jzI g (v5 + 3) (fun x3 => jzI g (v5 + 4) (fun x4 => jj (fun (x5 : Int32) (t6 : Hp) => jcs (J_L_mark a1 x1 x2 x3 x5 a3 t6) (fun w8 t7 => jvI w8 (fun x9 => jzI g (v5 + 1) (fun x10 => jzI g (v5 + 2) (fun x11 => jzI g (v5 + 3) (fun x12 => jzI g (v5 + 4) (fun x13 => jj (fun (x14 : Int32) (t15 : Hp) => jcv t15 a2 6 (J_X6_mark a2 x10 x11 x12 x14 t15) (fun w17 t16 => jvI w17 (fun x18 => jcv t16 a2 6 (J_X6_thrown a2 t16) (fun w20 t19 => jvI w20 (fun x21 => (if x21 = x9 then jj (fun (t22 : Hp) => rc a1 a2 a3 a4 (v5 + 5) t22) (fun j1494 => (if x9 = 0 then jaJ t19 a3 0 (fun x23 => jj (fun (x24 : Int64) (t25 : Hp) => (if (lg_cmp x23 x24) = 0 then j1494 t25 else some (.inl (some (.int 0)), t25))) (fun j1488 => (if x18 = 0 then j1488 0 t19 else j1488 1 t19))) else j1494 t19)) else some (.inl (some (.int 0)), t19)))) (fun _ _ => none))) (fun _ _ => none)) (fun j1454 => (if x13 = 0 then j1454 0 t7 else j1454 1 t7)))))))) (fun _ _ => none)) (fun j1415 => (if x4 = 0 then j1415 0 t0 else j1415 1 t0))))))
set_option maxHeartbeats 4000000 in
set_option maxRecDepth 100000 in
theorem w_L_law_c1382 (l : Launch) (hst : l.stackTraces = false) {p : Program} {e : Env} {s : State} {m : MethodId} {args : Array Value} {below : List Frame} {meth : Method} {c : Code} {Q : State → Prop} {g : jG} {τ : Hp} (C : jC p l s m args meth c g RL cL_law 10 (some .boolean)) (rc : Nat → Nat → Nat → Nat → Int32 → Hp → jR) (a1 a2 a3 a4 : Nat) (v5 : Int32) (t0 : Hp) (kq nq : Nat) (hkq : kq + 30 ≤ 603072) (hnq : nq + 1000 ≤ 7219306) (hrc : ∀ (v : Int32) (t : Hp), rc a1 a2 a3 a4 v t = some (.inl (some (.int 1)), τ) → jW p l e room_1 s m args below meth c g Q (kq + 30) (nq + 1000) 28 [(0, .ref (gSa g)), (1, .ref a1), (2, .ref a2), (3, .ref a3), (4, .ref a4), (5, .int v)] [] t) (h : J_L_law_c1382 g rc a1 a2 a3 a4 v5 t0 = some (.inl (some (.int 1)), τ)) : jW p l e room_1 s m args below meth c g Q kq nq 1382 [(0, .ref (gSa g)), (1, .ref a1), (2, .ref a2), (3, .ref a3), (4, .ref a4), (5, .int v5)] [] t0 := by
  unfold J_L_law_c1382 at h
  refine r_aload_n C (x := some a1) 1383 rfl 1 dL_law_1382 rfl ?_
  refine r_aload_n C (x := some (gSa g)) 1384 rfl 0 dL_law_1383 rfl ?_
  refine r_iload C 1386 rfl 5 dL_law_1384 rfl ?_
  refine r_iconst C (v := 1) 1387 rfl dL_law_1386 (by decide) ?_
  refine r_iadd C 1388 rfl dL_law_1387 ?_
  refine r_zald C 1389 rfl dL_law_1388 h (fun x1 h => ?_)
  refine r_aload_n C (x := some (gSa g)) 1390 rfl 0 dL_law_1389 rfl ?_
  refine r_iload C 1392 rfl 5 dL_law_1390 rfl ?_
  refine r_iconst C (v := 2) 1393 rfl dL_law_1392 (by decide) ?_
  refine r_iadd C 1394 rfl dL_law_1393 ?_
  refine r_zald C 1395 rfl dL_law_1394 h (fun x2 h => ?_)
  refine r_aload_n C (x := some (gSa g)) 1396 rfl 0 dL_law_1395 rfl ?_
  refine r_iload C 1398 rfl 5 dL_law_1396 rfl ?_
  refine r_iconst C (v := 3) 1399 rfl dL_law_1398 (by decide) ?_
  refine r_iadd C 1400 rfl dL_law_1399 ?_
  refine r_zald C 1401 rfl dL_law_1400 h (fun x3 h => ?_)
  refine r_aload_n C (x := some (gSa g)) 1402 rfl 0 dL_law_1401 rfl ?_
  refine r_iload C 1404 rfl 5 dL_law_1402 rfl ?_
  refine r_iconst C (v := 4) 1405 rfl dL_law_1404 (by decide) ?_
  refine r_iadd C 1406 rfl dL_law_1405 ?_
  refine r_zald C 1407 rfl dL_law_1406 h (fun x4 h => ?_)
  obtain ⟨j1415, hj1415E, h⟩ := jj_some h
  have hj1415 : ∀ (x5 : Int32) (t6 : Hp), j1415 x5 t6 = some (.inl (some (.int 1)), τ) → jW p l e room_1 s m args below meth c g (Q) kq nq 1415 [(0, .ref (gSa g)), (1, .ref a1), (2, .ref a2), (3, .ref a3), (4, .ref a4), (5, .int v5)] [.int x5, .int x3, .int x2, .int x1, .ref a1] t6 := by
    subst hj1415E
    intro x5 t6 h
    refine r_aload_n C (x := some a3) 1416 rfl 3 dL_law_1415 rfl ?_
    refine r_callSX C mm_L_172 st_yL_mark 1419 (kq + 2) (nq + 12) rfl rfl rfl dL_law_1416 rfl rfl (As := [.ref a1, .int x1, .int x2, .int x3, .int x5, .ref a3]) rfl rfl (Nat.le_of_ble_eq_true rfl) ⟨Nat.le_of_ble_eq_true rfl, Nat.le_of_ble_eq_true rfl⟩ ⟨(by show kq + 2 ≤ 603072; omega), (by show nq + 12 ≤ 7219306; omega)⟩ (fun o t h => k_L_mark l hst g _ _ _ _ _ _ _ o t h) h (fun w8 t7 h => ?_) (fun E t h => by cases h)
    replace h := jvI_some h
    obtain ⟨x9, rfl, h⟩ := h
    refine r_istore C 1421 rfl [(6, .int x9), (0, .ref (gSa g)), (1, .ref a1), (2, .ref a2), (3, .ref a3), (4, .ref a4), (5, .int v5)] dL_law_1419 (by decide) rfl ?_
    refine r_aload_n C (x := some a2) 1422 rfl 3 dL_law_1421 rfl ?_
    refine r_aload_n C (x := some (gSa g)) 1423 rfl 1 dL_law_1422 rfl ?_
    refine r_iload C 1425 rfl 6 dL_law_1423 rfl ?_
    refine r_iconst C (v := 1) 1426 rfl dL_law_1425 (by decide) ?_
    refine r_iadd C 1427 rfl dL_law_1426 ?_
    refine r_zald C 1428 rfl dL_law_1427 h (fun x10 h => ?_)
    refine r_aload_n C (x := some (gSa g)) 1429 rfl 1 dL_law_1428 rfl ?_
    refine r_iload C 1431 rfl 6 dL_law_1429 rfl ?_
    refine r_iconst C (v := 2) 1432 rfl dL_law_1431 (by decide) ?_
    refine r_iadd C 1433 rfl dL_law_1432 ?_
    refine r_zald C 1434 rfl dL_law_1433 h (fun x11 h => ?_)
    refine r_aload_n C (x := some (gSa g)) 1435 rfl 1 dL_law_1434 rfl ?_
    refine r_iload C 1437 rfl 6 dL_law_1435 rfl ?_
    refine r_iconst C (v := 3) 1438 rfl dL_law_1437 (by decide) ?_
    refine r_iadd C 1439 rfl dL_law_1438 ?_
    refine r_zald C 1440 rfl dL_law_1439 h (fun x12 h => ?_)
    refine r_aload_n C (x := some (gSa g)) 1441 rfl 1 dL_law_1440 rfl ?_
    refine r_iload C 1443 rfl 6 dL_law_1441 rfl ?_
    refine r_iconst C (v := 4) 1444 rfl dL_law_1443 (by decide) ?_
    refine r_iadd C 1445 rfl dL_law_1444 ?_
    refine r_zald C 1446 rfl dL_law_1445 h (fun x13 h => ?_)
    obtain ⟨j1454, hj1454E, h⟩ := jj_some h
    have hj1454 : ∀ (x14 : Int32) (t15 : Hp), j1454 x14 t15 = some (.inl (some (.int 1)), τ) → jW p l e room_1 s m args below meth c g (Q) (kq + 2) (nq + 12) 1454 [(0, .ref (gSa g)), (1, .ref a1), (2, .ref a2), (3, .ref a3), (4, .ref a4), (5, .int v5), (6, .int x9)] [.int x14, .int x12, .int x11, .int x10, .ref a2] t15 := by
      subst hj1454E
      intro x14 t15 h
      refine r_callV C (ci := 6) mm_L_175 im_yX6_mark se_yX6_mark rfl 1457 (kq + 2) (nq + 12) rfl rfl rfl dL_law_1454 rfl rfl (As := [.int x10, .int x11, .int x12, .int x14]) rfl rfl (Nat.le_of_ble_eq_true rfl) ⟨Nat.le_of_ble_eq_true rfl, Nat.le_of_ble_eq_true rfl⟩ ⟨(by show kq + 2 ≤ 603072; omega), (by show nq + 12 ≤ 7219306; omega)⟩ (fun o t h => k_X6_mark l hst g _ _ _ _ _ _ o t h) h (fun w17 t16 h => ?_) (fun E t h => by cases h)
      replace h := jvI_some h
      obtain ⟨x18, rfl, h⟩ := h
      refine r_istore C 1459 rfl [(7, .int x18), (0, .ref (gSa g)), (1, .ref a1), (2, .ref a2), (3, .ref a3), (4, .ref a4), (5, .int v5), (6, .int x9)] dL_law_1457 (by decide) rfl ?_
      refine r_aload_n C (x := some a2) 1460 rfl 3 dL_law_1459 rfl ?_
      refine r_callV C (ci := 6) mm_L_106 im_yX6_thrown se_yX6_thrown rfl 1463 (kq + 2) (nq + 12) rfl rfl rfl dL_law_1460 rfl rfl (As := []) rfl rfl (Nat.le_of_ble_eq_true rfl) ⟨Nat.le_of_ble_eq_true rfl, Nat.le_of_ble_eq_true rfl⟩ ⟨(by show kq + 2 ≤ 603072; omega), (by show nq + 12 ≤ 7219306; omega)⟩ (fun o t h => k_X6_thrown l hst g _ _ o t h) h (fun w20 t19 h => ?_) (fun E t h => by cases h)
      replace h := jvI_some h
      obtain ⟨x21, rfl, h⟩ := h
      refine r_iload C 1465 rfl 7 dL_law_1463 rfl ?_
      refine r_icmp_eq C 1470 1468 rfl dL_law_1465 (by decide) h (fun h => ?_) (fun h => ?_)
      · refine r_iload C 1472 rfl 7 dL_law_1470 rfl ?_
        obtain ⟨j1494, hj1494E, h⟩ := jj_some h
        have hj1494 : ∀ (t22 : Hp), j1494 t22 = some (.inl (some (.int 1)), τ) → jW p l e room_1 s m args below meth c g (Q) (kq + 2) (nq + 12) 1494 [(0, .ref (gSa g)), (1, .ref a1), (2, .ref a2), (3, .ref a3), (4, .ref a4), (5, .int v5)] [] t22 := by
          subst hj1494E
          intro t22 h
          refine r_goto C 1711 dL_law_1494 (by decide) ?_
          refine r_iinc C (v := v5 + 5) 1714 rfl 5 [(5, .int (v5 + 5)), (0, .ref (gSa g)), (1, .ref a1), (2, .ref a2), (3, .ref a3), (4, .ref a4)] dL_law_1711 rfl rfl (by decide) rfl ?_
          refine r_goto C 28 dL_law_1714 (by decide) ?_
          refine r_lv [1, 2, 3, 4, 5, 0] rfl ?_
          refine r_widen (k' := kq + 30) (n' := nq + 1000) (by omega) (by omega) ?_
          exact hrc (v5 + 5) t22 h
        clear hj1494E
        refine r_if_ne C 1494 1475 rfl dL_law_1472 (by decide) h (fun h => ?_) (fun h => ?_)
        · refine r_lv [1, 2, 3, 4, 5, 6] rfl ?_
          exact hj1494 t19 h
        · refine r_aload_n C (x := some a3) 1476 rfl 4 dL_law_1475 rfl ?_
          refine r_iconst C (v := 0) 1477 rfl dL_law_1476 (by decide) ?_
          refine r_lald C 1478 rfl dL_law_1477 h (fun x23 h => ?_)
          refine r_iload C 1480 rfl 0 dL_law_1478 rfl ?_
          obtain ⟨j1488, hj1488E, h⟩ := jj_some h
          have hj1488 : ∀ (x24 : Int64) (t25 : Hp), j1488 x24 t25 = some (.inl (some (.int 1)), τ) → jW p l e room_1 s m args below meth c g (Q) (kq + 2) (nq + 12) 1488 [(0, .ref (gSa g)), (1, .ref a1), (2, .ref a2), (3, .ref a3), (4, .ref a4), (5, .int v5)] [.long x24, .long x23] t25 := by
            subst hj1488E
            intro x24 t25 h
            refine r_lcmp C 1489 rfl dL_law_1488 ?_
            refine r_if_eq C 1494 1492 rfl dL_law_1489 (by decide) h (fun h => ?_) (fun h => ?_)
            · exact hj1494 t25 h
            · refine r_iconst C (v := 0) 1493 rfl dL_law_1492 (by decide) ?_
              exact (j01 h).elim
          clear hj1488E
          refine r_if_eq C 1487 1483 rfl dL_law_1480 (by decide) h (fun h => ?_) (fun h => ?_)
          · refine r_lconst C (v := 0) 1488 rfl dL_law_1487 (by decide) ?_
            refine r_lv [1, 2, 3, 4, 5, 6] rfl ?_
            exact hj1488 0 t19 h
          · refine r_lconst C (v := 1) 1484 rfl dL_law_1483 (by decide) ?_
            refine r_goto C 1488 dL_law_1484 (by decide) ?_
            refine r_lv [1, 2, 3, 4, 5, 6] rfl ?_
            exact hj1488 1 t19 h
      · refine r_iconst C (v := 0) 1469 rfl dL_law_1468 (by decide) ?_
        exact (j01 h).elim
    clear hj1454E
    refine r_if_eq C 1453 1449 rfl dL_law_1446 (by decide) h (fun h => ?_) (fun h => ?_)
    · refine r_iconst C (v := 0) 1454 rfl dL_law_1453 (by decide) ?_
      refine r_lv [1, 2, 3, 4, 5, 6, 0] rfl ?_
      exact hj1454 0 t7 h
    · refine r_iconst C (v := 1) 1450 rfl dL_law_1449 (by decide) ?_
      refine r_goto C 1454 dL_law_1450 (by decide) ?_
      refine r_lv [1, 2, 3, 4, 5, 6, 0] rfl ?_
      exact hj1454 1 t7 h
  clear hj1415E
  refine r_if_eq C 1414 1410 rfl dL_law_1407 (by decide) h (fun h => ?_) (fun h => ?_)
  · refine r_iconst C (v := 0) 1415 rfl dL_law_1414 (by decide) ?_
    exact hj1415 0 t0 h
  · refine r_iconst C (v := 1) 1411 rfl dL_law_1410 (by decide) ?_
    refine r_goto C 1415 dL_law_1411 (by decide) ?_
    exact hj1415 1 t0 h
def J_L_law_c1497 (g : jG) (rc : Nat → Nat → Nat → Nat → Int32 → Hp → jR) (a1 a2 a3 a4 : Nat) (v5 : Int32) (t0 : Hp) : jR := jzI g (v5 + 1) (fun x1 => jzI g (v5 + 2) (fun x2 => jzI g (v5 + 3) (fun x3 => jcs (J_L_markOf a1 x1 x2 x3 a3 t0) (fun w5 t4 => jvI w5 (fun x6 => jzI g (v5 + 1) (fun x7 => jzI g (v5 + 2) (fun x8 => jzI g (v5 + 3) (fun x9 => jcv t4 a2 6 (J_X6_markOf a2 x7 x8 x9 t4) (fun w11 t10 => jvI w11 (fun x12 => jcv t10 a2 6 (J_X6_thrown a2 t10) (fun w14 t13 => jvI w14 (fun x15 => (if x15 = x6 then jj (fun (t16 : Hp) => rc a1 a2 a3 a4 (v5 + 5) t16) (fun j1574 => (if x6 = 0 then jaJ t13 a3 0 (fun x17 => (if (lg_cmp x17 x12.toInt64) = 0 then j1574 t13 else some (.inl (some (.int 0)), t13))) else j1574 t13)) else some (.inl (some (.int 0)), t13)))) (fun _ _ => none))) (fun _ _ => none)))))) (fun _ _ => none))))
set_option maxHeartbeats 4000000 in
set_option maxRecDepth 100000 in
theorem w_L_law_c1497 (l : Launch) (hst : l.stackTraces = false) {p : Program} {e : Env} {s : State} {m : MethodId} {args : Array Value} {below : List Frame} {meth : Method} {c : Code} {Q : State → Prop} {g : jG} {τ : Hp} (C : jC p l s m args meth c g RL cL_law 10 (some .boolean)) (rc : Nat → Nat → Nat → Nat → Int32 → Hp → jR) (a1 a2 a3 a4 : Nat) (v5 : Int32) (t0 : Hp) (kq nq : Nat) (hkq : kq + 30 ≤ 603072) (hnq : nq + 1000 ≤ 7219306) (hrc : ∀ (v : Int32) (t : Hp), rc a1 a2 a3 a4 v t = some (.inl (some (.int 1)), τ) → jW p l e room_1 s m args below meth c g Q (kq + 30) (nq + 1000) 28 [(0, .ref (gSa g)), (1, .ref a1), (2, .ref a2), (3, .ref a3), (4, .ref a4), (5, .int v)] [] t) (h : J_L_law_c1497 g rc a1 a2 a3 a4 v5 t0 = some (.inl (some (.int 1)), τ)) : jW p l e room_1 s m args below meth c g Q kq nq 1497 [(0, .ref (gSa g)), (1, .ref a1), (2, .ref a2), (3, .ref a3), (4, .ref a4), (5, .int v5)] [] t0 := by
  unfold J_L_law_c1497 at h
  refine r_aload_n C (x := some a1) 1498 rfl 1 dL_law_1497 rfl ?_
  refine r_aload_n C (x := some (gSa g)) 1499 rfl 0 dL_law_1498 rfl ?_
  refine r_iload C 1501 rfl 5 dL_law_1499 rfl ?_
  refine r_iconst C (v := 1) 1502 rfl dL_law_1501 (by decide) ?_
  refine r_iadd C 1503 rfl dL_law_1502 ?_
  refine r_zald C 1504 rfl dL_law_1503 h (fun x1 h => ?_)
  refine r_aload_n C (x := some (gSa g)) 1505 rfl 0 dL_law_1504 rfl ?_
  refine r_iload C 1507 rfl 5 dL_law_1505 rfl ?_
  refine r_iconst C (v := 2) 1508 rfl dL_law_1507 (by decide) ?_
  refine r_iadd C 1509 rfl dL_law_1508 ?_
  refine r_zald C 1510 rfl dL_law_1509 h (fun x2 h => ?_)
  refine r_aload_n C (x := some (gSa g)) 1511 rfl 0 dL_law_1510 rfl ?_
  refine r_iload C 1513 rfl 5 dL_law_1511 rfl ?_
  refine r_iconst C (v := 3) 1514 rfl dL_law_1513 (by decide) ?_
  refine r_iadd C 1515 rfl dL_law_1514 ?_
  refine r_zald C 1516 rfl dL_law_1515 h (fun x3 h => ?_)
  refine r_aload_n C (x := some a3) 1517 rfl 3 dL_law_1516 rfl ?_
  refine r_callSX C mm_L_176 st_yL_markOf 1520 (kq + 2) (nq + 12) rfl rfl rfl dL_law_1517 rfl rfl (As := [.ref a1, .int x1, .int x2, .int x3, .ref a3]) rfl rfl (Nat.le_of_ble_eq_true rfl) ⟨Nat.le_of_ble_eq_true rfl, Nat.le_of_ble_eq_true rfl⟩ ⟨(by show kq + 2 ≤ 603072; omega), (by show nq + 12 ≤ 7219306; omega)⟩ (fun o t h => k_L_markOf l hst g _ _ _ _ _ _ o t h) h (fun w5 t4 h => ?_) (fun E t h => by cases h)
  replace h := jvI_some h
  obtain ⟨x6, rfl, h⟩ := h
  refine r_istore C 1522 rfl [(6, .int x6), (0, .ref (gSa g)), (1, .ref a1), (2, .ref a2), (3, .ref a3), (4, .ref a4), (5, .int v5)] dL_law_1520 (by decide) rfl ?_
  refine r_aload_n C (x := some a2) 1523 rfl 3 dL_law_1522 rfl ?_
  refine r_aload_n C (x := some (gSa g)) 1524 rfl 1 dL_law_1523 rfl ?_
  refine r_iload C 1526 rfl 6 dL_law_1524 rfl ?_
  refine r_iconst C (v := 1) 1527 rfl dL_law_1526 (by decide) ?_
  refine r_iadd C 1528 rfl dL_law_1527 ?_
  refine r_zald C 1529 rfl dL_law_1528 h (fun x7 h => ?_)
  refine r_aload_n C (x := some (gSa g)) 1530 rfl 1 dL_law_1529 rfl ?_
  refine r_iload C 1532 rfl 6 dL_law_1530 rfl ?_
  refine r_iconst C (v := 2) 1533 rfl dL_law_1532 (by decide) ?_
  refine r_iadd C 1534 rfl dL_law_1533 ?_
  refine r_zald C 1535 rfl dL_law_1534 h (fun x8 h => ?_)
  refine r_aload_n C (x := some (gSa g)) 1536 rfl 1 dL_law_1535 rfl ?_
  refine r_iload C 1538 rfl 6 dL_law_1536 rfl ?_
  refine r_iconst C (v := 3) 1539 rfl dL_law_1538 (by decide) ?_
  refine r_iadd C 1540 rfl dL_law_1539 ?_
  refine r_zald C 1541 rfl dL_law_1540 h (fun x9 h => ?_)
  refine r_callV C (ci := 6) mm_L_178 im_yX6_markOf se_yX6_markOf rfl 1544 (kq + 2) (nq + 12) rfl rfl rfl dL_law_1541 rfl rfl (As := [.int x7, .int x8, .int x9]) rfl rfl (Nat.le_of_ble_eq_true rfl) ⟨Nat.le_of_ble_eq_true rfl, Nat.le_of_ble_eq_true rfl⟩ ⟨(by show kq + 2 ≤ 603072; omega), (by show nq + 12 ≤ 7219306; omega)⟩ (fun o t h => k_X6_markOf l hst g _ _ _ _ _ o t h) h (fun w11 t10 h => ?_) (fun E t h => by cases h)
  replace h := jvI_some h
  obtain ⟨x12, rfl, h⟩ := h
  refine r_istore C 1546 rfl [(7, .int x12), (6, .int x6), (0, .ref (gSa g)), (1, .ref a1), (2, .ref a2), (3, .ref a3), (4, .ref a4), (5, .int v5)] dL_law_1544 (by decide) rfl ?_
  refine r_aload_n C (x := some a2) 1547 rfl 4 dL_law_1546 rfl ?_
  refine r_callV C (ci := 6) mm_L_106 im_yX6_thrown se_yX6_thrown rfl 1550 (kq + 2) (nq + 12) rfl rfl rfl dL_law_1547 rfl rfl (As := []) rfl rfl (Nat.le_of_ble_eq_true rfl) ⟨Nat.le_of_ble_eq_true rfl, Nat.le_of_ble_eq_true rfl⟩ ⟨(by show kq + 2 ≤ 603072; omega), (by show nq + 12 ≤ 7219306; omega)⟩ (fun o t h => k_X6_thrown l hst g _ _ o t h) h (fun w14 t13 h => ?_) (fun E t h => by cases h)
  replace h := jvI_some h
  obtain ⟨x15, rfl, h⟩ := h
  refine r_iload C 1552 rfl 1 dL_law_1550 rfl ?_
  refine r_icmp_eq C 1557 1555 rfl dL_law_1552 (by decide) h (fun h => ?_) (fun h => ?_)
  · refine r_iload C 1559 rfl 1 dL_law_1557 rfl ?_
    obtain ⟨j1574, hj1574E, h⟩ := jj_some h
    have hj1574 : ∀ (t16 : Hp), j1574 t16 = some (.inl (some (.int 1)), τ) → jW p l e room_1 s m args below meth c g (Q) (kq + 2) (nq + 12) 1574 [(0, .ref (gSa g)), (1, .ref a1), (2, .ref a2), (3, .ref a3), (4, .ref a4), (5, .int v5)] [] t16 := by
      subst hj1574E
      intro t16 h
      refine r_goto C 1711 dL_law_1574 (by decide) ?_
      refine r_iinc C (v := v5 + 5) 1714 rfl 5 [(5, .int (v5 + 5)), (0, .ref (gSa g)), (1, .ref a1), (2, .ref a2), (3, .ref a3), (4, .ref a4)] dL_law_1711 rfl rfl (by decide) rfl ?_
      refine r_goto C 28 dL_law_1714 (by decide) ?_
      refine r_lv [1, 2, 3, 4, 5, 0] rfl ?_
      refine r_widen (k' := kq + 30) (n' := nq + 1000) (by omega) (by omega) ?_
      exact hrc (v5 + 5) t16 h
    clear hj1574E
    refine r_if_ne C 1574 1562 rfl dL_law_1559 (by decide) h (fun h => ?_) (fun h => ?_)
    · refine r_lv [2, 3, 4, 5, 6, 7] rfl ?_
      exact hj1574 t13 h
    · refine r_aload_n C (x := some a3) 1563 rfl 5 dL_law_1562 rfl ?_
      refine r_iconst C (v := 0) 1564 rfl dL_law_1563 (by decide) ?_
      refine r_lald C 1565 rfl dL_law_1564 h (fun x17 h => ?_)
      refine r_iload C 1567 rfl 0 dL_law_1565 rfl ?_
      refine r_i2l C 1568 rfl dL_law_1567 ?_
      refine r_lcmp C 1569 rfl dL_law_1568 ?_
      refine r_if_eq C 1574 1572 rfl dL_law_1569 (by decide) h (fun h => ?_) (fun h => ?_)
      · refine r_lv [2, 3, 4, 5, 6, 7] rfl ?_
        exact hj1574 t13 h
      · refine r_iconst C (v := 0) 1573 rfl dL_law_1572 (by decide) ?_
        exact (j01 h).elim
  · refine r_iconst C (v := 0) 1556 rfl dL_law_1555 (by decide) ?_
    exact (j01 h).elim
def J_L_law_c1577 (g : jG) (rc : Nat → Nat → Nat → Nat → Int32 → Hp → jR) (a1 a2 a3 a4 : Nat) (v5 : Int32) (t0 : Hp) : jR := jcv t0 a1 5 (J_X5_checksum a1 t0) (fun w2 t1 => jvJ w2 (fun x3 => jcv t1 a2 6 (J_X6_checksum a2 t1) (fun w5 t4 => jvJ w5 (fun x6 => (if (lg_cmp x3 x6) = 0 then rc a1 a2 a3 a4 (v5 + 5) t4 else some (.inl (some (.int 0)), t4)))) (fun _ _ => none))) (fun _ _ => none)
set_option maxHeartbeats 4000000 in
set_option maxRecDepth 100000 in
theorem w_L_law_c1577 (l : Launch) (hst : l.stackTraces = false) {p : Program} {e : Env} {s : State} {m : MethodId} {args : Array Value} {below : List Frame} {meth : Method} {c : Code} {Q : State → Prop} {g : jG} {τ : Hp} (C : jC p l s m args meth c g RL cL_law 10 (some .boolean)) (rc : Nat → Nat → Nat → Nat → Int32 → Hp → jR) (a1 a2 a3 a4 : Nat) (v5 : Int32) (t0 : Hp) (kq nq : Nat) (hkq : kq + 30 ≤ 603072) (hnq : nq + 1000 ≤ 7219306) (hrc : ∀ (v : Int32) (t : Hp), rc a1 a2 a3 a4 v t = some (.inl (some (.int 1)), τ) → jW p l e room_1 s m args below meth c g Q (kq + 30) (nq + 1000) 28 [(0, .ref (gSa g)), (1, .ref a1), (2, .ref a2), (3, .ref a3), (4, .ref a4), (5, .int v)] [] t) (h : J_L_law_c1577 g rc a1 a2 a3 a4 v5 t0 = some (.inl (some (.int 1)), τ)) : jW p l e room_1 s m args below meth c g Q kq nq 1577 [(0, .ref (gSa g)), (1, .ref a1), (2, .ref a2), (3, .ref a3), (4, .ref a4), (5, .int v5)] [] t0 := by
  unfold J_L_law_c1577 at h
  refine r_aload_n C (x := some a1) 1578 rfl 1 dL_law_1577 rfl ?_
  refine r_callV C (ci := 5) mm_L_179 im_yX5_checksum se_yX5_checksum rfl 1581 kq nq rfl rfl rfl dL_law_1578 rfl rfl (As := []) rfl rfl (Nat.le_of_ble_eq_true rfl) ⟨Nat.le_of_ble_eq_true rfl, Nat.le_of_ble_eq_true rfl⟩ ⟨(by show kq ≤ 603072; omega), (by show nq ≤ 7219306; omega)⟩ (fun o t h => k_X5_checksum l hst g _ _ o t h) h (fun w2 t1 h => ?_) (fun E t h => by cases h)
  replace h := jvJ_some h
  obtain ⟨x3, rfl, h⟩ := h
  refine r_aload_n C (x := some a2) 1582 rfl 2 dL_law_1581 rfl ?_
  refine r_callV C (ci := 6) mm_L_183 im_yX6_checksum se_yX6_checksum rfl 1585 kq nq rfl rfl rfl dL_law_1582 rfl rfl (As := []) rfl rfl (Nat.le_of_ble_eq_true rfl) ⟨Nat.le_of_ble_eq_true rfl, Nat.le_of_ble_eq_true rfl⟩ ⟨(by show kq ≤ 603072; omega), (by show nq ≤ 7219306; omega)⟩ (fun o t h => k_X6_checksum l hst g _ _ o t h) h (fun w5 t4 h => ?_) (fun E t h => by cases h)
  replace h := jvJ_some h
  obtain ⟨x6, rfl, h⟩ := h
  refine r_lcmp C 1586 rfl dL_law_1585 ?_
  refine r_if_eq C 1711 1589 rfl dL_law_1586 (by decide) h (fun h => ?_) (fun h => ?_)
  · refine r_iinc C (v := v5 + 5) 1714 rfl 5 [(5, .int (v5 + 5)), (0, .ref (gSa g)), (1, .ref a1), (2, .ref a2), (3, .ref a3), (4, .ref a4)] dL_law_1711 rfl rfl (by decide) rfl ?_
    refine r_goto C 28 dL_law_1714 (by decide) ?_
    refine r_lv [1, 2, 3, 4, 5, 0] rfl ?_
    refine r_widen (k' := kq + 30) (n' := nq + 1000) (by omega) (by omega) ?_
    exact hrc (v5 + 5) t4 h
  · refine r_iconst C (v := 0) 1590 rfl dL_law_1589 (by decide) ?_
    exact (j01 h).elim
def J_L_law_c1591 (g : jG) (rc : Nat → Nat → Nat → Nat → Int32 → Hp → jR) (a1 a2 a3 a4 : Nat) (v5 : Int32) (t0 : Hp) : jR := jcs (J_L_provedShare a1 a4 t0) (fun w2 t1 => jvI w2 (fun x3 => jcv t1 a2 6 (J_X6_provedShare a2 t1) (fun w5 t4 => jvF w5 (fun x6 => jcv t4 a2 6 (J_X6_thrown a2 t4) (fun w8 t7 => jvI w8 (fun x9 => (if x9 = x3 then jj (fun (t10 : Hp) => rc a1 a2 a3 a4 (v5 + 5) t10) (fun j1654 => (if x3 = 0 then jaD t7 a4 0 (fun x11 => jn64 (FP.f2d x6) ((if (Op.cmpValue (FP.dcmp x11 (FP.f2d x6)) .l) = 0 then j1654 t7 else jaD t7 a4 0 (fun x12 => jaD t7 a4 0 (fun x13 => (if (Op.cmpValue (FP.dcmp x12 x13) .l) = 0 then some (.inl (some (.int 0)), t7) else (if (Op.cmpValue (FP.fcmp x6 x6) .l) = 0 then some (.inl (some (.int 0)), t7) else j1654 t7))))))) else j1654 t7)) else some (.inl (some (.int 0)), t7)))) (fun _ _ => none))) (fun _ _ => none))) (fun _ _ => none)
set_option maxHeartbeats 4000000 in
set_option maxRecDepth 100000 in
theorem w_L_law_c1591 (l : Launch) (hst : l.stackTraces = false) {p : Program} {e : Env} {s : State} {m : MethodId} {args : Array Value} {below : List Frame} {meth : Method} {c : Code} {Q : State → Prop} {g : jG} {τ : Hp} (C : jC p l s m args meth c g RL cL_law 10 (some .boolean)) (rc : Nat → Nat → Nat → Nat → Int32 → Hp → jR) (a1 a2 a3 a4 : Nat) (v5 : Int32) (t0 : Hp) (kq nq : Nat) (hkq : kq + 30 ≤ 603072) (hnq : nq + 1000 ≤ 7219306) (hrc : ∀ (v : Int32) (t : Hp), rc a1 a2 a3 a4 v t = some (.inl (some (.int 1)), τ) → jW p l e room_1 s m args below meth c g Q (kq + 30) (nq + 1000) 28 [(0, .ref (gSa g)), (1, .ref a1), (2, .ref a2), (3, .ref a3), (4, .ref a4), (5, .int v)] [] t) (h : J_L_law_c1591 g rc a1 a2 a3 a4 v5 t0 = some (.inl (some (.int 1)), τ)) : jW p l e room_1 s m args below meth c g Q kq nq 1591 [(0, .ref (gSa g)), (1, .ref a1), (2, .ref a2), (3, .ref a3), (4, .ref a4), (5, .int v5)] [] t0 := by
  unfold J_L_law_c1591 at h
  refine r_aload_n C (x := some a1) 1592 rfl 1 dL_law_1591 rfl ?_
  refine r_aload C (x := some a4) 1594 rfl 4 dL_law_1592 rfl ?_
  refine r_callSX C mm_L_184 st_yL_provedShare 1597 (kq + 1) (nq + 6) rfl rfl rfl dL_law_1594 rfl rfl (As := [.ref a1, .ref a4]) rfl rfl (Nat.le_of_ble_eq_true rfl) ⟨Nat.le_of_ble_eq_true rfl, Nat.le_of_ble_eq_true rfl⟩ ⟨(by show kq + 1 ≤ 603072; omega), (by show nq + 6 ≤ 7219306; omega)⟩ (fun o t h => k_L_provedShare l hst g _ _ _ o t h) h (fun w2 t1 h => ?_) (fun E t h => by cases h)
  replace h := jvI_some h
  obtain ⟨x3, rfl, h⟩ := h
  refine r_istore C 1599 rfl [(6, .int x3), (0, .ref (gSa g)), (1, .ref a1), (2, .ref a2), (3, .ref a3), (4, .ref a4), (5, .int v5)] dL_law_1597 (by decide) rfl ?_
  refine r_aload_n C (x := some a2) 1600 rfl 3 dL_law_1599 rfl ?_
  refine r_callV C (ci := 6) mm_L_187 im_yX6_provedShare se_yX6_provedShare rfl 1603 (kq + 1) (nq + 6) rfl rfl rfl dL_law_1600 rfl rfl (As := []) rfl rfl (Nat.le_of_ble_eq_true rfl) ⟨Nat.le_of_ble_eq_true rfl, Nat.le_of_ble_eq_true rfl⟩ ⟨(by show kq + 1 ≤ 603072; omega), (by show nq + 6 ≤ 7219306; omega)⟩ (fun o t h => k_X6_provedShare l hst g _ _ o t h) h (fun w5 t4 h => ?_) (fun E t h => by cases h)
  replace h := jvF_some h
  obtain ⟨x6, rfl, h⟩ := h
  refine r_fstore C 1605 rfl [(7, .float x6), (6, .int x3), (0, .ref (gSa g)), (1, .ref a1), (2, .ref a2), (3, .ref a3), (4, .ref a4), (5, .int v5)] dL_law_1603 (by decide) rfl ?_
  refine r_aload_n C (x := some a2) 1606 rfl 4 dL_law_1605 rfl ?_
  refine r_callV C (ci := 6) mm_L_106 im_yX6_thrown se_yX6_thrown rfl 1609 (kq + 1) (nq + 6) rfl rfl rfl dL_law_1606 rfl rfl (As := []) rfl rfl (Nat.le_of_ble_eq_true rfl) ⟨Nat.le_of_ble_eq_true rfl, Nat.le_of_ble_eq_true rfl⟩ ⟨(by show kq + 1 ≤ 603072; omega), (by show nq + 6 ≤ 7219306; omega)⟩ (fun o t h => k_X6_thrown l hst g _ _ o t h) h (fun w8 t7 h => ?_) (fun E t h => by cases h)
  replace h := jvI_some h
  obtain ⟨x9, rfl, h⟩ := h
  refine r_iload C 1611 rfl 1 dL_law_1609 rfl ?_
  refine r_icmp_eq C 1616 1614 rfl dL_law_1611 (by decide) h (fun h => ?_) (fun h => ?_)
  · refine r_iload C 1618 rfl 1 dL_law_1616 rfl ?_
    obtain ⟨j1654, hj1654E, h⟩ := jj_some h
    have hj1654 : ∀ (t10 : Hp), j1654 t10 = some (.inl (some (.int 1)), τ) → jW p l e room_1 s m args below meth c g (Q) (kq + 1) (nq + 6) 1654 [(0, .ref (gSa g)), (1, .ref a1), (2, .ref a2), (3, .ref a3), (4, .ref a4), (5, .int v5)] [] t10 := by
      subst hj1654E
      intro t10 h
      refine r_goto C 1711 dL_law_1654 (by decide) ?_
      refine r_iinc C (v := v5 + 5) 1714 rfl 5 [(5, .int (v5 + 5)), (0, .ref (gSa g)), (1, .ref a1), (2, .ref a2), (3, .ref a3), (4, .ref a4)] dL_law_1711 rfl rfl (by decide) rfl ?_
      refine r_goto C 28 dL_law_1714 (by decide) ?_
      refine r_lv [1, 2, 3, 4, 5, 0] rfl ?_
      refine r_widen (k' := kq + 30) (n' := nq + 1000) (by omega) (by omega) ?_
      exact hrc (v5 + 5) t10 h
    clear hj1654E
    refine r_if_ne C 1654 1621 rfl dL_law_1618 (by decide) h (fun h => ?_) (fun h => ?_)
    · refine r_lv [2, 3, 4, 5, 6, 7] rfl ?_
      exact hj1654 t7 h
    · refine r_aload C (x := some a4) 1623 rfl 6 dL_law_1621 rfl ?_
      refine r_iconst C (v := 0) 1624 rfl dL_law_1623 (by decide) ?_
      refine r_dald C 1625 rfl dL_law_1624 h (fun x11 h => ?_)
      refine r_fload C 1627 rfl 0 dL_law_1625 rfl ?_
      refine r_f2d C 1628 rfl dL_law_1627 h (fun h => ?_)
      refine r_dcmp C 1629 rfl dL_law_1628 ?_
      refine r_if_eq C 1654 1632 rfl dL_law_1629 (by decide) h (fun h => ?_) (fun h => ?_)
      · refine r_lv [2, 3, 4, 5, 6, 7] rfl ?_
        exact hj1654 t7 h
      · refine r_aload C (x := some a4) 1634 rfl 6 dL_law_1632 rfl ?_
        refine r_iconst C (v := 0) 1635 rfl dL_law_1634 (by decide) ?_
        refine r_dald C 1636 rfl dL_law_1635 h (fun x12 h => ?_)
        refine r_aload C (x := some a4) 1638 rfl 6 dL_law_1636 rfl ?_
        refine r_iconst C (v := 0) 1639 rfl dL_law_1638 (by decide) ?_
        refine r_dald C 1640 rfl dL_law_1639 h (fun x13 h => ?_)
        refine r_dcmp C 1641 rfl dL_law_1640 ?_
        refine r_if_eq C 1652 1644 rfl dL_law_1641 (by decide) h (fun h => ?_) (fun h => ?_)
        · refine r_iconst C (v := 0) 1653 rfl dL_law_1652 (by decide) ?_
          exact (j01 h).elim
        · refine r_fload C 1646 rfl 0 dL_law_1644 rfl ?_
          refine r_fload C 1648 rfl 0 dL_law_1646 rfl ?_
          refine r_fcmp C 1649 rfl dL_law_1648 ?_
          refine r_if_ne C 1654 1652 rfl dL_law_1649 (by decide) h (fun h => ?_) (fun h => ?_)
          · refine r_lv [2, 3, 4, 5, 6, 7] rfl ?_
            exact hj1654 t7 h
          · refine r_iconst C (v := 0) 1653 rfl dL_law_1652 (by decide) ?_
            exact (j01 h).elim
  · refine r_iconst C (v := 0) 1615 rfl dL_law_1614 (by decide) ?_
    exact (j01 h).elim
def J_L_law_c1657 (g : jG) (rc : Nat → Nat → Nat → Nat → Int32 → Hp → jR) (a1 a2 a3 a4 : Nat) (v5 : Int32) (t0 : Hp) : jR := jcv t0 a1 5 (J_X5_meanStrikes a1 t0) (fun w2 t1 => jvD w2 (fun x3 => jcv t1 a2 6 (J_X6_meanStrikes a2 t1) (fun w5 t4 => jvD w5 (fun x6 => jj (fun (t7 : Hp) => rc a1 a2 a3 a4 (v5 + 5) t7) (fun j1695 => (if (Op.cmpValue (FP.dcmp x3 x6) .l) = 0 then j1695 t4 else (if (Op.cmpValue (FP.dcmp x3 x3) .l) = 0 then some (.inl (some (.int 0)), t4) else (if (Op.cmpValue (FP.dcmp x6 x6) .l) = 0 then some (.inl (some (.int 0)), t4) else j1695 t4)))))) (fun _ _ => none))) (fun _ _ => none)
set_option maxHeartbeats 4000000 in
set_option maxRecDepth 100000 in
theorem w_L_law_c1657 (l : Launch) (hst : l.stackTraces = false) {p : Program} {e : Env} {s : State} {m : MethodId} {args : Array Value} {below : List Frame} {meth : Method} {c : Code} {Q : State → Prop} {g : jG} {τ : Hp} (C : jC p l s m args meth c g RL cL_law 10 (some .boolean)) (rc : Nat → Nat → Nat → Nat → Int32 → Hp → jR) (a1 a2 a3 a4 : Nat) (v5 : Int32) (t0 : Hp) (kq nq : Nat) (hkq : kq + 30 ≤ 603072) (hnq : nq + 1000 ≤ 7219306) (hrc : ∀ (v : Int32) (t : Hp), rc a1 a2 a3 a4 v t = some (.inl (some (.int 1)), τ) → jW p l e room_1 s m args below meth c g Q (kq + 30) (nq + 1000) 28 [(0, .ref (gSa g)), (1, .ref a1), (2, .ref a2), (3, .ref a3), (4, .ref a4), (5, .int v)] [] t) (h : J_L_law_c1657 g rc a1 a2 a3 a4 v5 t0 = some (.inl (some (.int 1)), τ)) : jW p l e room_1 s m args below meth c g Q kq nq 1657 [(0, .ref (gSa g)), (1, .ref a1), (2, .ref a2), (3, .ref a3), (4, .ref a4), (5, .int v5)] [] t0 := by
  unfold J_L_law_c1657 at h
  refine r_aload_n C (x := some a1) 1658 rfl 1 dL_law_1657 rfl ?_
  refine r_callV C (ci := 5) mm_L_188 im_yX5_meanStrikes se_yX5_meanStrikes rfl 1661 kq nq rfl rfl rfl dL_law_1658 rfl rfl (As := []) rfl rfl (Nat.le_of_ble_eq_true rfl) ⟨Nat.le_of_ble_eq_true rfl, Nat.le_of_ble_eq_true rfl⟩ ⟨(by show kq ≤ 603072; omega), (by show nq ≤ 7219306; omega)⟩ (fun o t h => k_X5_meanStrikes l hst g _ _ o t h) h (fun w2 t1 h => ?_) (fun E t h => by cases h)
  replace h := jvD_some h
  obtain ⟨x3, rfl, h⟩ := h
  refine r_dstore C 1663 rfl [(6, .double x3), (0, .ref (gSa g)), (1, .ref a1), (2, .ref a2), (3, .ref a3), (4, .ref a4), (5, .int v5)] dL_law_1661 (by decide) rfl ?_
  refine r_aload_n C (x := some a2) 1664 rfl 3 dL_law_1663 rfl ?_
  refine r_callV C (ci := 6) mm_L_192 im_yX6_meanStrikes se_yX6_meanStrikes rfl 1667 kq nq rfl rfl rfl dL_law_1664 rfl rfl (As := []) rfl rfl (Nat.le_of_ble_eq_true rfl) ⟨Nat.le_of_ble_eq_true rfl, Nat.le_of_ble_eq_true rfl⟩ ⟨(by show kq ≤ 603072; omega), (by show nq ≤ 7219306; omega)⟩ (fun o t h => k_X6_meanStrikes l hst g _ _ o t h) h (fun w5 t4 h => ?_) (fun E t h => by cases h)
  replace h := jvD_some h
  obtain ⟨x6, rfl, h⟩ := h
  refine r_dstore C 1669 rfl [(8, .double x6), (6, .double x3), (0, .ref (gSa g)), (1, .ref a1), (2, .ref a2), (3, .ref a3), (4, .ref a4), (5, .int v5)] dL_law_1667 (by decide) rfl ?_
  refine r_dload C 1671 rfl 1 dL_law_1669 rfl ?_
  refine r_dload C 1673 rfl 0 dL_law_1671 rfl ?_
  refine r_dcmp C 1674 rfl dL_law_1673 ?_
  obtain ⟨j1695, hj1695E, h⟩ := jj_some h
  have hj1695 : ∀ (t7 : Hp), j1695 t7 = some (.inl (some (.int 1)), τ) → jW p l e room_1 s m args below meth c g (Q) kq nq 1695 [(0, .ref (gSa g)), (1, .ref a1), (2, .ref a2), (3, .ref a3), (4, .ref a4), (5, .int v5)] [] t7 := by
    subst hj1695E
    intro t7 h
    refine r_goto C 1711 dL_law_1695 (by decide) ?_
    refine r_iinc C (v := v5 + 5) 1714 rfl 5 [(5, .int (v5 + 5)), (0, .ref (gSa g)), (1, .ref a1), (2, .ref a2), (3, .ref a3), (4, .ref a4)] dL_law_1711 rfl rfl (by decide) rfl ?_
    refine r_goto C 28 dL_law_1714 (by decide) ?_
    refine r_lv [1, 2, 3, 4, 5, 0] rfl ?_
    refine r_widen (k' := kq + 30) (n' := nq + 1000) (by omega) (by omega) ?_
    exact hrc (v5 + 5) t7 h
  clear hj1695E
  refine r_if_eq C 1695 1677 rfl dL_law_1674 (by decide) h (fun h => ?_) (fun h => ?_)
  · refine r_lv [2, 3, 4, 5, 6, 7] rfl ?_
    exact hj1695 t4 h
  · refine r_dload C 1679 rfl 1 dL_law_1677 rfl ?_
    refine r_dload C 1681 rfl 1 dL_law_1679 rfl ?_
    refine r_dcmp C 1682 rfl dL_law_1681 ?_
    refine r_if_eq C 1693 1685 rfl dL_law_1682 (by decide) h (fun h => ?_) (fun h => ?_)
    · refine r_iconst C (v := 0) 1694 rfl dL_law_1693 (by decide) ?_
      exact (j01 h).elim
    · refine r_dload C 1687 rfl 0 dL_law_1685 rfl ?_
      refine r_dload C 1689 rfl 0 dL_law_1687 rfl ?_
      refine r_dcmp C 1690 rfl dL_law_1689 ?_
      refine r_if_ne C 1695 1693 rfl dL_law_1690 (by decide) h (fun h => ?_) (fun h => ?_)
      · refine r_lv [2, 3, 4, 5, 6, 7] rfl ?_
        exact hj1695 t4 h
      · refine r_iconst C (v := 0) 1694 rfl dL_law_1693 (by decide) ?_
        exact (j01 h).elim
def J_L_law_c1698 (g : jG) (rc : Nat → Nat → Nat → Nat → Int32 → Hp → jR) (a1 a2 a3 a4 : Nat) (v5 : Int32) (t0 : Hp) : jR := jcv t0 a1 5 (J_X5_isSound a1 t0) (fun w2 t1 => jvI w2 (fun x3 => jcv t1 a2 6 (J_X6_isSound a2 t1) (fun w5 t4 => jvI w5 (fun x6 => (if x3 = x6 then rc a1 a2 a3 a4 (v5 + 5) t4 else some (.inl (some (.int 0)), t4)))) (fun _ _ => none))) (fun _ _ => none)
set_option maxHeartbeats 4000000 in
set_option maxRecDepth 100000 in
theorem w_L_law_c1698 (l : Launch) (hst : l.stackTraces = false) {p : Program} {e : Env} {s : State} {m : MethodId} {args : Array Value} {below : List Frame} {meth : Method} {c : Code} {Q : State → Prop} {g : jG} {τ : Hp} (C : jC p l s m args meth c g RL cL_law 10 (some .boolean)) (rc : Nat → Nat → Nat → Nat → Int32 → Hp → jR) (a1 a2 a3 a4 : Nat) (v5 : Int32) (t0 : Hp) (kq nq : Nat) (hkq : kq + 30 ≤ 603072) (hnq : nq + 1000 ≤ 7219306) (hrc : ∀ (v : Int32) (t : Hp), rc a1 a2 a3 a4 v t = some (.inl (some (.int 1)), τ) → jW p l e room_1 s m args below meth c g Q (kq + 30) (nq + 1000) 28 [(0, .ref (gSa g)), (1, .ref a1), (2, .ref a2), (3, .ref a3), (4, .ref a4), (5, .int v)] [] t) (h : J_L_law_c1698 g rc a1 a2 a3 a4 v5 t0 = some (.inl (some (.int 1)), τ)) : jW p l e room_1 s m args below meth c g Q kq nq 1698 [(0, .ref (gSa g)), (1, .ref a1), (2, .ref a2), (3, .ref a3), (4, .ref a4), (5, .int v5)] [] t0 := by
  unfold J_L_law_c1698 at h
  refine r_aload_n C (x := some a1) 1699 rfl 1 dL_law_1698 rfl ?_
  refine r_callV C (ci := 5) mm_L_193 im_yX5_isSound se_yX5_isSound rfl 1702 kq nq rfl rfl rfl dL_law_1699 rfl rfl (As := []) rfl rfl (Nat.le_of_ble_eq_true rfl) ⟨Nat.le_of_ble_eq_true rfl, Nat.le_of_ble_eq_true rfl⟩ ⟨(by show kq ≤ 603072; omega), (by show nq ≤ 7219306; omega)⟩ (fun o t h => k_X5_isSound l hst g _ _ o t h) h (fun w2 t1 h => ?_) (fun E t h => by cases h)
  replace h := jvI_some h
  obtain ⟨x3, rfl, h⟩ := h
  refine r_aload_n C (x := some a2) 1703 rfl 2 dL_law_1702 rfl ?_
  refine r_callV C (ci := 6) mm_L_196 im_yX6_isSound se_yX6_isSound rfl 1706 kq nq rfl rfl rfl dL_law_1703 rfl rfl (As := []) rfl rfl (Nat.le_of_ble_eq_true rfl) ⟨Nat.le_of_ble_eq_true rfl, Nat.le_of_ble_eq_true rfl⟩ ⟨(by show kq ≤ 603072; omega), (by show nq ≤ 7219306; omega)⟩ (fun o t h => k_X6_isSound l hst g _ _ o t h) h (fun w5 t4 h => ?_) (fun E t h => by cases h)
  replace h := jvI_some h
  obtain ⟨x6, rfl, h⟩ := h
  refine r_icmp_eq C 1711 1709 rfl dL_law_1706 (by decide) h (fun h => ?_) (fun h => ?_)
  · refine r_iinc C (v := v5 + 5) 1714 rfl 5 [(5, .int (v5 + 5)), (0, .ref (gSa g)), (1, .ref a1), (2, .ref a2), (3, .ref a3), (4, .ref a4)] dL_law_1711 rfl rfl (by decide) rfl ?_
    refine r_goto C 28 dL_law_1714 (by decide) ?_
    refine r_lv [1, 2, 3, 4, 5, 0] rfl ?_
    refine r_widen (k' := kq + 30) (n' := nq + 1000) (by omega) (by omega) ?_
    exact hrc (v5 + 5) t4 h
  · refine r_iconst C (v := 0) 1710 rfl dL_law_1709 (by decide) ?_
    exact (j01 h).elim
def jsw (z : Int32) (f : List jR) (D : jR) : jR := if ¬ (z < 0 ∨ 26 ≤ z.toNatClampNeg) then f.getD z.toNatClampNeg none else D
def J_L_law_L28b (g : jG) (rc : Nat → Nat → Nat → Nat → Int32 → Hp → jR) (a1 a2 a3 a4 : Nat) (v5 : Int32) (t0 : Hp) : jR := if nI (gSn g) - 5 < v5 then some (.inl (some (.int 1)), t0) else jzI g v5 (fun x1 => jsw (x1 &&& 31) [J_L_law_c164 g rc a1 a2 a3 a4 v5 t0, J_L_law_c222 g rc a1 a2 a3 a4 v5 t0, J_L_law_c235 g rc a1 a2 a3 a4 v5 t0, J_L_law_c315 g rc a1 a2 a3 a4 v5 t0, J_L_law_c395 g rc a1 a2 a3 a4 v5 t0, J_L_law_c451 g rc a1 a2 a3 a4 v5 t0, J_L_law_c519 g rc a1 a2 a3 a4 v5 t0, J_L_law_c570 g rc a1 a2 a3 a4 v5 t0, J_L_law_c638 g rc a1 a2 a3 a4 v5 t0, J_L_law_c694 g rc a1 a2 a3 a4 v5 t0, J_L_law_c750 g rc a1 a2 a3 a4 v5 t0, J_L_law_c818 g rc a1 a2 a3 a4 v5 t0, J_L_law_c898 g rc a1 a2 a3 a4 v5 t0, J_L_law_c954 g rc a1 a2 a3 a4 v5 t0, J_L_law_c1034 g rc a1 a2 a3 a4 v5 t0, J_L_law_c1102 g rc a1 a2 a3 a4 v5 t0, J_L_law_c1158 g rc a1 a2 a3 a4 v5 t0, J_L_law_c1214 g rc a1 a2 a3 a4 v5 t0, J_L_law_c1270 g rc a1 a2 a3 a4 v5 t0, J_L_law_c1326 g rc a1 a2 a3 a4 v5 t0, J_L_law_c1382 g rc a1 a2 a3 a4 v5 t0, J_L_law_c1497 g rc a1 a2 a3 a4 v5 t0, J_L_law_c1577 g rc a1 a2 a3 a4 v5 t0, J_L_law_c1591 g rc a1 a2 a3 a4 v5 t0, J_L_law_c1657 g rc a1 a2 a3 a4 v5 t0, J_L_law_c1698 g rc a1 a2 a3 a4 v5 t0] (rc a1 a2 a3 a4 (v5 + 5) t0))
def J_L_law_L28 (g : jG) : Nat → Nat → Nat → Nat → Nat → Int32 → Hp → jR
  | 0 => fun _ _ _ _ _ _ => none
  | n + 1 => J_L_law_L28b g (J_L_law_L28 g n)
def jTg : List Nat := [164, 222, 235, 315, 395, 451, 519, 570, 638, 694, 750, 818, 898, 954, 1034, 1102, 1158, 1214, 1270, 1326, 1382, 1497, 1577, 1591, 1657, 1698]
theorem jtn {z : Int32} {k : Nat} (h : ¬ (z < 0 ∨ k ≤ z.toNatClampNeg)) : z.toInt = (z.toNatClampNeg : Int) ∧ z.toNatClampNeg < k := by
  have h0 : ¬ z < 0 := fun q => h (Or.inl q)
  have h1 : z.toNatClampNeg < k := Nat.not_le.mp fun q => h (Or.inr q)
  have hz0 : (0 : Int) ≤ z.toInt := by
    have := Int32.not_lt.mp h0
    simpa using Int32.le_iff_toInt_le.mp this
  refine ⟨?_, h1⟩
  show z.toInt = ((z.toInt.toNat : Nat) : Int)
  omega
theorem jtn_out {z : Int32} (h : ¬ ¬ (z < 0 ∨ 26 ≤ z.toNatClampNeg)) : z.toInt < 0 ∨ 25 < z.toInt := by
  rcases Classical.not_not.mp h with h | h
  · have := Int32.lt_iff_toInt_lt.mp h
    left
    simpa using this
  · right
    have h2 : 26 ≤ z.toInt.toNat := h
    omega
set_option maxHeartbeats 4000000 in
set_option maxRecDepth 100000 in
theorem w_L_law_L28 (l : Launch) (hst : l.stackTraces = false) {p : Program} {e : Env} {s : State} {m : MethodId} {args : Array Value} {below : List Frame} {meth : Method} {c : Code} {Q : State → Prop} {g : jG} {τ : Hp} (C : jC p l s m args meth c g RL cL_law 10 (some .boolean)) (hend : ∀ (k n : Nat) (lv : List (Nat × Value)) (t : Hp), k ≤ 603072 → n ≤ 7219306 → some (.inl (some (.int 1)), t) = some ((.inl (some (.int 1)), τ) : jO × Hp) → jW p l e room_1 s m args below meth c g Q k n 1717 lv [] t) : ∀ (N : Nat) (a1 a2 a3 a4 : Nat) (v5 : Int32) (t0 : Hp) (kq nq : Nat), kq + 30 * N ≤ 603072 → nq + 1000 * N ≤ 7219306 → J_L_law_L28 g N a1 a2 a3 a4 v5 t0 = some (.inl (some (.int 1)), τ) → jW p l e room_1 s m args below meth c g Q kq nq 28 [(0, .ref (gSa g)), (1, .ref a1), (2, .ref a2), (3, .ref a3), (4, .ref a4), (5, .int v5)] [] t0 := by
  intro N
  induction N with
  | zero => intro a1 a2 a3 a4 v5 t0 kq nq _ _ h; cases h
  | succ N ih =>
    intro a1 a2 a3 a4 v5 t0 kq nq hkq hnq h
    have h : J_L_law_L28b g (J_L_law_L28 g N) a1 a2 a3 a4 v5 t0 = some (.inl (some (.int 1)), τ) := h
    unfold J_L_law_L28b at h
    refine r_iload C 30 rfl 5 dL_law_28 rfl ?_
    refine r_aload_n C (x := some (gSa g)) 31 rfl 0 dL_law_30 rfl ?_
    refine r_zlen C 32 rfl dL_law_31 ?_
    refine r_iconst C (v := 5) 33 rfl dL_law_32 (by decide) ?_
    refine r_isub C 34 rfl dL_law_33 ?_
    refine r_icmp_gt C 1717 37 rfl dL_law_34 (by decide) h (fun h => ?_) (fun h => ?_)
    · exact hend _ _ _ _ (by omega) (by omega) h
    · refine r_aload_n C (x := some (gSa g)) 38 rfl 0 dL_law_37 rfl ?_
      refine r_iload C 40 rfl 5 dL_law_38 rfl ?_
      refine r_zald C 41 rfl dL_law_40 h (fun x1 h => ?_)
      refine r_bipush C (v := 31) 43 rfl dL_law_41 (by decide) ?_
      refine r_iand C 44 rfl dL_law_43 ?_
      have hrc : ∀ (v : Int32) (t : Hp), J_L_law_L28 g N a1 a2 a3 a4 v t = some (.inl (some (.int 1)), τ) → jW p l e room_1 s m args below meth c g Q (kq + 30) (nq + 1000) 28 [(0, .ref (gSa g)), (1, .ref a1), (2, .ref a2), (3, .ref a3), (4, .ref a4), (5, .int v)] [] t := fun v t h => ih a1 a2 a3 a4 v t _ _ (by omega) (by omega) h
      have hk1 : kq + 30 ≤ 603072 := by omega
      have hn1 : nq + 1000 ≤ 7219306 := by omega
      unfold jsw at h
      split at h
      · rename_i hz
        obtain ⟨z1, z2⟩ := jtn hz
        generalize hj : (x1 &&& 31).toNatClampNeg = j at h z1 z2
        have key : jW p l e room_1 s m args below meth c g Q kq nq (jTg.getD j 0) [(0, .ref (gSa g)), (1, .ref a1), (2, .ref a2), (3, .ref a3), (4, .ref a4), (5, .int v5)] [] t0 := by
          rcases (show j = 0 ∨ j = 1 ∨ j = 2 ∨ j = 3 ∨ j = 4 ∨ j = 5 ∨ j = 6 ∨ j = 7 ∨ j = 8 ∨ j = 9 ∨ j = 10 ∨ j = 11 ∨ j = 12 ∨ j = 13 ∨ j = 14 ∨ j = 15 ∨ j = 16 ∨ j = 17 ∨ j = 18 ∨ j = 19 ∨ j = 20 ∨ j = 21 ∨ j = 22 ∨ j = 23 ∨ j = 24 ∨ j = 25 by omega) with rfl | rfl | rfl | rfl | rfl | rfl | rfl | rfl | rfl | rfl | rfl | rfl | rfl | rfl | rfl | rfl | rfl | rfl | rfl | rfl | rfl | rfl | rfl | rfl | rfl | rfl
          · exact w_L_law_c164 l hst C _ a1 a2 a3 a4 v5 t0 kq nq hk1 hn1 hrc h
          · exact w_L_law_c222 l hst C _ a1 a2 a3 a4 v5 t0 kq nq hk1 hn1 hrc h
          · exact w_L_law_c235 l hst C _ a1 a2 a3 a4 v5 t0 kq nq hk1 hn1 hrc h
          · exact w_L_law_c315 l hst C _ a1 a2 a3 a4 v5 t0 kq nq hk1 hn1 hrc h
          · exact w_L_law_c395 l hst C _ a1 a2 a3 a4 v5 t0 kq nq hk1 hn1 hrc h
          · exact w_L_law_c451 l hst C _ a1 a2 a3 a4 v5 t0 kq nq hk1 hn1 hrc h
          · exact w_L_law_c519 l hst C _ a1 a2 a3 a4 v5 t0 kq nq hk1 hn1 hrc h
          · exact w_L_law_c570 l hst C _ a1 a2 a3 a4 v5 t0 kq nq hk1 hn1 hrc h
          · exact w_L_law_c638 l hst C _ a1 a2 a3 a4 v5 t0 kq nq hk1 hn1 hrc h
          · exact w_L_law_c694 l hst C _ a1 a2 a3 a4 v5 t0 kq nq hk1 hn1 hrc h
          · exact w_L_law_c750 l hst C _ a1 a2 a3 a4 v5 t0 kq nq hk1 hn1 hrc h
          · exact w_L_law_c818 l hst C _ a1 a2 a3 a4 v5 t0 kq nq hk1 hn1 hrc h
          · exact w_L_law_c898 l hst C _ a1 a2 a3 a4 v5 t0 kq nq hk1 hn1 hrc h
          · exact w_L_law_c954 l hst C _ a1 a2 a3 a4 v5 t0 kq nq hk1 hn1 hrc h
          · exact w_L_law_c1034 l hst C _ a1 a2 a3 a4 v5 t0 kq nq hk1 hn1 hrc h
          · exact w_L_law_c1102 l hst C _ a1 a2 a3 a4 v5 t0 kq nq hk1 hn1 hrc h
          · exact w_L_law_c1158 l hst C _ a1 a2 a3 a4 v5 t0 kq nq hk1 hn1 hrc h
          · exact w_L_law_c1214 l hst C _ a1 a2 a3 a4 v5 t0 kq nq hk1 hn1 hrc h
          · exact w_L_law_c1270 l hst C _ a1 a2 a3 a4 v5 t0 kq nq hk1 hn1 hrc h
          · exact w_L_law_c1326 l hst C _ a1 a2 a3 a4 v5 t0 kq nq hk1 hn1 hrc h
          · exact w_L_law_c1382 l hst C _ a1 a2 a3 a4 v5 t0 kq nq hk1 hn1 hrc h
          · exact w_L_law_c1497 l hst C _ a1 a2 a3 a4 v5 t0 kq nq hk1 hn1 hrc h
          · exact w_L_law_c1577 l hst C _ a1 a2 a3 a4 v5 t0 kq nq hk1 hn1 hrc h
          · exact w_L_law_c1591 l hst C _ a1 a2 a3 a4 v5 t0 kq nq hk1 hn1 hrc h
          · exact w_L_law_c1657 l hst C _ a1 a2 a3 a4 v5 t0 kq nq hk1 hn1 hrc h
          · exact w_L_law_c1698 l hst C _ a1 a2 a3 a4 v5 t0 kq nq hk1 hn1 hrc h
        refine fun H locs ls h1 h2 h3 => lv_tableIn (tgt := jTg.getD j 0) (off := ((jTg.getD j 0 : Nat) : Int) - 44) C.1 C.2.1 dL_law_44 (by omega) (by omega) ?_ (by omega) (key H locs ls h1 h2 h3)
        rw [z1]
        rcases (show j = 0 ∨ j = 1 ∨ j = 2 ∨ j = 3 ∨ j = 4 ∨ j = 5 ∨ j = 6 ∨ j = 7 ∨ j = 8 ∨ j = 9 ∨ j = 10 ∨ j = 11 ∨ j = 12 ∨ j = 13 ∨ j = 14 ∨ j = 15 ∨ j = 16 ∨ j = 17 ∨ j = 18 ∨ j = 19 ∨ j = 20 ∨ j = 21 ∨ j = 22 ∨ j = 23 ∨ j = 24 ∨ j = 25 by omega) with rfl | rfl | rfl | rfl | rfl | rfl | rfl | rfl | rfl | rfl | rfl | rfl | rfl | rfl | rfl | rfl | rfl | rfl | rfl | rfl | rfl | rfl | rfl | rfl | rfl | rfl <;> rfl
      · rename_i hz
        refine fun H locs ls h1 h2 h3 => lv_tableOut (tgt := 1711) C.1 C.2.1 dL_law_44 (jtn_out hz) (by decide) ?_
        refine (?_ : jW p l e room_1 s m args below meth c g Q kq nq 1711 [(0, .ref (gSa g)), (1, .ref a1), (2, .ref a2), (3, .ref a3), (4, .ref a4), (5, .int v5)] [] t0) H locs ls h1 h2 h3
        refine r_iinc C (v := v5 + 5) 1714 rfl 5 [(5, .int (v5 + 5)), (0, .ref (gSa g)), (1, .ref a1), (2, .ref a2), (3, .ref a3), (4, .ref a4)] dL_law_1711 rfl rfl (by decide) rfl ?_
        refine r_goto C 28 dL_law_1714 (by decide) ?_
        refine r_lv [1, 2, 3, 4, 5, 0] rfl ?_
        refine r_widen (k' := kq + 30) (n' := nq + 1000) (by omega) (by omega) ?_
        exact hrc _ _ h
def J_L_law (g : jG) (σ : Hp) : jR := jnw σ 5 (fun b1 t2 => jcv t2 b1 5 (J_X5_init b1 t2) (fun w4 t3 => jvV w4 (jnw t3 6 (fun b5 t6 => jcv t6 b5 6 (J_X6_init b5 t6) (fun w8 t7 => jvV w8 (jnA t7 3 1 1 (fun b9 t10 => jnA t10 4 1 1 (fun b11 t12 => J_L_law_L28 g jNL b1 b5 b9 b11 0 t12)))) (fun _ _ => none)))) (fun _ _ => none))
set_option maxHeartbeats 4000000 in
set_option maxRecDepth 100000 in
theorem w_L_law (l : Launch) (hst : l.stackTraces = false) {p : Program} {e : Env} {s : State} {m : MethodId} {args : Array Value} {below : List Frame} {meth : Method} {c : Code} {Q : State → Prop} {g : jG} {τ : Hp} (C : jC p l s m args meth c g RL cL_law 10 (some .boolean)) (hend : ∀ (k n : Nat) (lv : List (Nat × Value)) (t : Hp), k ≤ 603072 → n ≤ 7219306 → some (.inl (some (.int 1)), t) = some ((.inl (some (.int 1)), τ) : jO × Hp) → jW p l e room_1 s m args below meth c g Q k n 1717 lv [] t) (σ : Hp) (h : J_L_law g σ = some (.inl (some (.int 1)), τ)) : jW p l e room_1 s m args below meth c g Q 0 0 0 [(0, .ref (gSa g))] [] σ := by
  unfold J_L_law at h
  refine r_new C 3 rfl tyX5 (ci := 5) rfl tyX5_ok nw_X5 lay_X5 cl_L_8 ins_X5 ini_X5 dL_law_0 (Nat.le_of_ble_eq_true rfl) (Nat.le_of_ble_eq_true rfl) h (fun b1 t2 h => ?_)
  refine r_dup C 4 rfl dL_law_3 rfl ?_
  refine r_callI C (ci := 5) mm_L_96 im_yX5_init rfl 7 28 2119 rfl rfl rfl dL_law_4 rfl rfl (As := []) rfl rfl (Nat.le_of_ble_eq_true rfl) ⟨Nat.le_of_ble_eq_true rfl, Nat.le_of_ble_eq_true rfl⟩ ⟨(Nat.le_of_ble_eq_true rfl), (Nat.le_of_ble_eq_true rfl)⟩ (fun o t h => k_X5_init l hst g _ _ o t h) h (fun w4 t3 h => ?_) (fun E t h => by cases h)
  replace h := jvV_some h
  obtain ⟨rfl, h⟩ := h
  refine r_astore_n C (x := some b1) 8 rfl [(1, .ref b1), (0, .ref (gSa g))] dL_law_7 (by decide) rfl ?_
  refine r_new C 11 rfl tyX6 (ci := 6) rfl tyX6_ok nw_X6 lay_X6 cl_L_97 ins_X6 ini_X6 dL_law_8 (Nat.le_of_ble_eq_true rfl) (Nat.le_of_ble_eq_true rfl) h (fun b5 t6 h => ?_)
  refine r_dup C 12 rfl dL_law_11 rfl ?_
  refine r_callI C (ci := 6) mm_L_99 im_yX6_init rfl 15 48 35451 rfl rfl rfl dL_law_12 rfl rfl (As := []) rfl rfl (Nat.le_of_ble_eq_true rfl) ⟨Nat.le_of_ble_eq_true rfl, Nat.le_of_ble_eq_true rfl⟩ ⟨(Nat.le_of_ble_eq_true rfl), (Nat.le_of_ble_eq_true rfl)⟩ (fun o t h => k_X6_init l hst g _ _ o t h) h (fun w8 t7 h => ?_) (fun E t h => by cases h)
  replace h := jvV_some h
  obtain ⟨rfl, h⟩ := h
  refine r_astore_n C (x := some b5) 16 rfl [(2, .ref b5), (1, .ref b1), (0, .ref (gSa g))] dL_law_15 (by decide) rfl ?_
  refine r_iconst C (v := 1) 17 rfl dL_law_16 (by decide) ?_
  refine r_newJ C 19 rfl ac_long dL_law_17 (by decide) (Nat.le_of_ble_eq_true rfl) (Nat.le_of_ble_eq_true rfl) h (fun b9 t10 h => ?_)
  refine r_astore_n C (x := some b9) 20 rfl [(3, .ref b9), (2, .ref b5), (1, .ref b1), (0, .ref (gSa g))] dL_law_19 (by decide) rfl ?_
  refine r_iconst C (v := 1) 21 rfl dL_law_20 (by decide) ?_
  refine r_newD C 23 rfl ac_double dL_law_21 (by decide) (Nat.le_of_ble_eq_true rfl) (Nat.le_of_ble_eq_true rfl) h (fun b11 t12 h => ?_)
  refine r_astore C (x := some b11) 25 rfl [(4, .ref b11), (3, .ref b9), (2, .ref b5), (1, .ref b1), (0, .ref (gSa g))] dL_law_23 (by decide) rfl ?_
  refine r_iconst C (v := 0) 26 rfl dL_law_25 (by decide) ?_
  refine r_istore C 28 rfl [(5, .int 0), (4, .ref b11), (3, .ref b9), (2, .ref b5), (1, .ref b1), (0, .ref (gSa g))] dL_law_26 (by decide) rfl ?_
  refine r_lv [5, 4, 3, 2, 1, 0] rfl (w_L_law_L28 l hst C hend jNL _ _ _ _ _ _ 50 35453 (by decide) (by decide) h)
