/-! The law's cases. -/
section LAWCS
variable {σ : Hp} {d M o q : Nat} {g : jG} {rc : Nat → Nat → Nat → Nat → Int32 → Hp → jR}
theorem jzI_ok {j : Nat} {K : Int32 → jR} (hj : j < gSn g) (hN : gSn g ≤ 2560) : jzI g (nI j) K = K (gSx g j) := by
  unfold jzI
  rw [if_pos (nI_in hj (by omega)), nI_clamp (by omega)]
theorem St.ko (h : St d M o q σ) : kdH σ o = (3, 1) := by
  obtain ⟨_, _, _, _, _, _, _, _, _, _, _, _, _, _, _, h⟩ := h
  exact h.2.1
theorem St.kq (h : St d M o q σ) : kdH σ q = (4, 1) := by
  obtain ⟨_, _, _, _, _, _, _, _, _, _, _, _, _, _, _, h⟩ := h
  exact h.2.2.1
theorem thr_ok {τ : Hp} {k : Int32} (h : St d M o q τ) (hk : inH τ M 0 = k) : J_X6_thrown M τ = some (.inl (some (.int k)), τ) := by
  unfold J_X6_thrown
  rw [jgI_ok h.kM, hk]
theorem tail_ok {B : Int32 → Prop} {τ : Hp} {k b v : Int32} (h : St d M o q τ) (hk : inH τ M 0 = k) (hb : k = 0 → lgH τ o 0 = b.toInt64 ∧ B b) : (jcv τ M 6 (J_X6_thrown M τ) (fun w10 t9 => jvI w10 (fun x11 => (if x11 = k then jj (fun (t12 : Hp) => rc d M o q v t12) (fun j219 => (if k = 0 then jaJ t9 o 0 (fun x13 => (if (lg_cmp x13 b.toInt64) = 0 then j219 t9 else some (.inl (some (.int 0)), t9))) else j219 t9)) else some (.inl (some (.int 0)), t9)))) (fun _ _ => none)) = rc d M o q v τ := by
  rw [jcv_ok h.kM (thr_ok h hk), jvI_ok, if_pos rfl]
  unfold jj
  dsimp only
  by_cases c : k = 0
  · rw [if_pos c, jaJ_0 h.ko, (hb c).1, if_pos ((lg_cmp_eq _ _).mpr rfl)]
  · rw [if_neg c]
theorem tail_b {τ : Hp} {k b v : Int32} (h : St d M o q τ) (hk : inH τ M 0 = k) (hb : k = 0 → lgH τ o 0 = b.toInt64 ∧ tB b) : (jcv τ M 6 (J_X6_thrown M τ) (fun w8 t7 => jvI w8 (fun x9 => (if x9 = k then jj (fun (t10 : Hp) => rc d M o q v t10) (fun j567 => (if k = 0 then jaJ t7 o 0 (fun x11 => jj (fun (x12 : Int64) (t13 : Hp) => (if (lg_cmp x11 x12) = 0 then j567 t13 else some (.inl (some (.int 0)), t13))) (fun j561 => (if b = 0 then j561 0 t7 else j561 1 t7))) else j567 t7)) else some (.inl (some (.int 0)), t7)))) (fun _ _ => none)) = rc d M o q v τ := by
  rw [jcv_ok h.kM (thr_ok h hk), jvI_ok, if_pos rfl]
  unfold jj
  dsimp only
  by_cases c : k = 0
  · obtain ⟨h1, h2⟩ := hb c
    rw [if_pos c, jaJ_0 h.ko, h1]
    rcases h2 with z | z
    · subst z
      rw [if_pos rfl, if_pos (by decide)]
    · subst z
      rw [if_neg (by decide), if_pos (by decide)]
  · rw [if_neg c]
theorem cs_164 (hL : Lay d M o q) (h : St d M o q σ) {i : Nat} (hi : i + 5 ≤ gSn g) (hN : gSn g ≤ 2560) : ∃ τ, J_L_law_c164 g rc d M o q (nI i) σ = rc d M o q (nI (i + 5)) τ ∧ St d M o q τ := by
  obtain ⟨k, b, τ1, τ2, e1, kM, e2, e3, e4, e5⟩ := st_type hL h (((gSx g (i + 1)).toUInt32 % 65536).toInt32)
  refine ⟨τ2, ?_, e5⟩
  have z1 : nI i + 1 = nI (i + 1) := nI_add i 1
  have z5 : nI i + 5 = nI (i + 5) := nI_add i 5
  unfold J_L_law_c164
  rw [z1, z5, jzI_ok (j := i + 1) (by omega) hN, jcs_ok e1, jvI_ok, jzI_ok (j := i + 1) (by omega) hN, jcv_ok kM e2, jvI_ok]
  exact tail_ok e5 e3 e4
theorem cs_235 (hL : Lay d M o q) (h : St d M o q σ) {i : Nat} (hi : i + 5 ≤ gSn g) (hN : gSn g ≤ 2560) : ∃ τ, J_L_law_c235 g rc d M o q (nI i) σ = rc d M o q (nI (i + 5)) τ ∧ St d M o q τ := by
  obtain ⟨k, b, τ1, τ2, e1, kM, e2, e3, e4, e5⟩ := st_addRule hL h (gSx g (i + 1)) (gSx g (i + 2)) (gSx g (i + 3))
  refine ⟨τ2, ?_, e5⟩
  have z1 : nI i + 1 = nI (i + 1) := nI_add i 1
  have z2 : nI i + 2 = nI (i + 2) := nI_add i 2
  have z3 : nI i + 3 = nI (i + 3) := nI_add i 3
  have z5 : nI i + 5 = nI (i + 5) := nI_add i 5
  unfold J_L_law_c235
  rw [z1, z2, z3, z5, jzI_ok (j := i + 1) (by omega) hN, jzI_ok (j := i + 2) (by omega) hN, jzI_ok (j := i + 3) (by omega) hN, jcs_ok e1, jvI_ok, jzI_ok (j := i + 1) (by omega) hN, jzI_ok (j := i + 2) (by omega) hN, jzI_ok (j := i + 3) (by omega) hN, jcv_ok kM e2, jvI_ok]
  exact tail_ok e5 e3 e4
theorem cs_315 (hL : Lay d M o q) (h : St d M o q σ) {i : Nat} (hi : i + 5 ≤ gSn g) (hN : gSn g ≤ 2560) : ∃ τ, J_L_law_c315 g rc d M o q (nI i) σ = rc d M o q (nI (i + 5)) τ ∧ St d M o q τ := by
  obtain ⟨k, b, τ1, τ2, e1, kM, e2, e3, e4, e5⟩ := st_mend hL h (gSx g (i + 1)) (gSx g (i + 2)) (gSx g (i + 3))
  refine ⟨τ2, ?_, e5⟩
  have z1 : nI i + 1 = nI (i + 1) := nI_add i 1
  have z2 : nI i + 2 = nI (i + 2) := nI_add i 2
  have z3 : nI i + 3 = nI (i + 3) := nI_add i 3
  have z5 : nI i + 5 = nI (i + 5) := nI_add i 5
  unfold J_L_law_c315
  rw [z1, z2, z3, z5, jzI_ok (j := i + 1) (by omega) hN, jzI_ok (j := i + 2) (by omega) hN, jzI_ok (j := i + 3) (by omega) hN, jcs_ok e1, jvI_ok, jzI_ok (j := i + 1) (by omega) hN, jzI_ok (j := i + 2) (by omega) hN, jzI_ok (j := i + 3) (by omega) hN, jcv_ok kM e2, jvI_ok]
  exact tail_ok e5 e3 e4
theorem cs_395 (hL : Lay d M o q) (h : St d M o q σ) {i : Nat} (hi : i + 5 ≤ gSn g) (hN : gSn g ≤ 2560) : ∃ τ, J_L_law_c395 g rc d M o q (nI i) σ = rc d M o q (nI (i + 5)) τ ∧ St d M o q τ := by
  obtain ⟨k, b, τ1, τ2, e1, kM, e2, e3, e4, e5⟩ := st_removeRule hL h (gSx g (i + 1))
  refine ⟨τ2, ?_, e5⟩
  have z1 : nI i + 1 = nI (i + 1) := nI_add i 1
  have z5 : nI i + 5 = nI (i + 5) := nI_add i 5
  unfold J_L_law_c395
  rw [z1, z5, jzI_ok (j := i + 1) (by omega) hN, jcs_ok e1, jvI_ok, jzI_ok (j := i + 1) (by omega) hN, jcv_ok kM e2, jvI_ok]
  exact tail_ok e5 e3 e4
theorem cs_451 (hL : Lay d M o q) (h : St d M o q σ) {i : Nat} (hi : i + 5 ≤ gSn g) (hN : gSn g ≤ 2560) : ∃ τ, J_L_law_c451 g rc d M o q (nI i) σ = rc d M o q (nI (i + 5)) τ ∧ St d M o q τ := by
  obtain ⟨k, b, τ1, τ2, e1, kM, e2, e3, e4, e5⟩ := st_ruleAt hL h (gSx g (i + 1)) (gSx g (i + 2))
  refine ⟨τ2, ?_, e5⟩
  have z1 : nI i + 1 = nI (i + 1) := nI_add i 1
  have z2 : nI i + 2 = nI (i + 2) := nI_add i 2
  have z5 : nI i + 5 = nI (i + 5) := nI_add i 5
  unfold J_L_law_c451
  rw [z1, z2, z5, jzI_ok (j := i + 1) (by omega) hN, jzI_ok (j := i + 2) (by omega) hN, jcs_ok e1, jvI_ok, jzI_ok (j := i + 1) (by omega) hN, jzI_ok (j := i + 2) (by omega) hN, jcv_ok kM e2, jvI_ok]
  exact tail_ok e5 e3 e4
theorem cs_570 (hL : Lay d M o q) (h : St d M o q σ) {i : Nat} (hi : i + 5 ≤ gSn g) (hN : gSn g ≤ 2560) : ∃ τ, J_L_law_c570 g rc d M o q (nI i) σ = rc d M o q (nI (i + 5)) τ ∧ St d M o q τ := by
  obtain ⟨k, b, τ1, τ2, e1, kM, e2, e3, e4, e5⟩ := st_setText hL h (gSx g (i + 1)) (gSx g (i + 2))
  refine ⟨τ2, ?_, e5⟩
  have z1 : nI i + 1 = nI (i + 1) := nI_add i 1
  have z2 : nI i + 2 = nI (i + 2) := nI_add i 2
  have z5 : nI i + 5 = nI (i + 5) := nI_add i 5
  unfold J_L_law_c570
  rw [z1, z2, z5, jzI_ok (j := i + 1) (by omega) hN, jzI_ok (j := i + 2) (by omega) hN, jcs_ok e1, jvI_ok, jzI_ok (j := i + 1) (by omega) hN, jzI_ok (j := i + 2) (by omega) hN, jcv_ok kM e2, jvI_ok]
  exact tail_ok e5 e3 e4
theorem cs_638 (hL : Lay d M o q) (h : St d M o q σ) {i : Nat} (hi : i + 5 ≤ gSn g) (hN : gSn g ≤ 2560) : ∃ τ, J_L_law_c638 g rc d M o q (nI i) σ = rc d M o q (nI (i + 5)) τ ∧ St d M o q τ := by
  obtain ⟨k, b, τ1, τ2, e1, kM, e2, e3, e4, e5⟩ := st_setWidth hL h (gSx g (i + 1))
  refine ⟨τ2, ?_, e5⟩
  have z1 : nI i + 1 = nI (i + 1) := nI_add i 1
  have z5 : nI i + 5 = nI (i + 5) := nI_add i 5
  unfold J_L_law_c638
  rw [z1, z5, jzI_ok (j := i + 1) (by omega) hN, jcs_ok e1, jvI_ok, jzI_ok (j := i + 1) (by omega) hN, jcv_ok kM e2, jvI_ok]
  exact tail_ok e5 e3 e4
theorem cs_694 (hL : Lay d M o q) (h : St d M o q σ) {i : Nat} (hi : i + 5 ≤ gSn g) (hN : gSn g ≤ 2560) : ∃ τ, J_L_law_c694 g rc d M o q (nI i) σ = rc d M o q (nI (i + 5)) τ ∧ St d M o q τ := by
  obtain ⟨k, b, τ1, τ2, e1, kM, e2, e3, e4, e5⟩ := st_words hL h (gSx g (i + 1))
  refine ⟨τ2, ?_, e5⟩
  have z1 : nI i + 1 = nI (i + 1) := nI_add i 1
  have z5 : nI i + 5 = nI (i + 5) := nI_add i 5
  unfold J_L_law_c694
  rw [z1, z5, jzI_ok (j := i + 1) (by omega) hN, jcs_ok e1, jvI_ok, jzI_ok (j := i + 1) (by omega) hN, jcv_ok kM e2, jvI_ok]
  exact tail_ok e5 e3 e4
theorem cs_750 (hL : Lay d M o q) (h : St d M o q σ) {i : Nat} (hi : i + 5 ≤ gSn g) (hN : gSn g ≤ 2560) : ∃ τ, J_L_law_c750 g rc d M o q (nI i) σ = rc d M o q (nI (i + 5)) τ ∧ St d M o q τ := by
  obtain ⟨k, b, τ1, τ2, e1, kM, e2, e3, e4, e5⟩ := st_length hL h (gSx g (i + 1)) (gSx g (i + 2))
  refine ⟨τ2, ?_, e5⟩
  have z1 : nI i + 1 = nI (i + 1) := nI_add i 1
  have z2 : nI i + 2 = nI (i + 2) := nI_add i 2
  have z5 : nI i + 5 = nI (i + 5) := nI_add i 5
  unfold J_L_law_c750
  rw [z1, z2, z5, jzI_ok (j := i + 1) (by omega) hN, jzI_ok (j := i + 2) (by omega) hN, jcs_ok e1, jvI_ok, jzI_ok (j := i + 1) (by omega) hN, jzI_ok (j := i + 2) (by omega) hN, jcv_ok kM e2, jvI_ok]
  exact tail_ok e5 e3 e4
theorem cs_818 (hL : Lay d M o q) (h : St d M o q σ) {i : Nat} (hi : i + 5 ≤ gSn g) (hN : gSn g ≤ 2560) : ∃ τ, J_L_law_c818 g rc d M o q (nI i) σ = rc d M o q (nI (i + 5)) τ ∧ St d M o q τ := by
  obtain ⟨k, b, τ1, τ2, e1, kM, e2, e3, e4, e5⟩ := st_cellOf hL h (gSx g (i + 1)) (gSx g (i + 2)) (gSx g (i + 3))
  refine ⟨τ2, ?_, e5⟩
  have z1 : nI i + 1 = nI (i + 1) := nI_add i 1
  have z2 : nI i + 2 = nI (i + 2) := nI_add i 2
  have z3 : nI i + 3 = nI (i + 3) := nI_add i 3
  have z5 : nI i + 5 = nI (i + 5) := nI_add i 5
  unfold J_L_law_c818
  rw [z1, z2, z3, z5, jzI_ok (j := i + 1) (by omega) hN, jzI_ok (j := i + 2) (by omega) hN, jzI_ok (j := i + 3) (by omega) hN, jcs_ok e1, jvI_ok, jzI_ok (j := i + 1) (by omega) hN, jzI_ok (j := i + 2) (by omega) hN, jzI_ok (j := i + 3) (by omega) hN, jcv_ok kM e2, jvI_ok]
  exact tail_ok e5 e3 e4
theorem cs_898 (hL : Lay d M o q) (h : St d M o q σ) {i : Nat} (hi : i + 5 ≤ gSn g) (hN : gSn g ≤ 2560) : ∃ τ, J_L_law_c898 g rc d M o q (nI i) σ = rc d M o q (nI (i + 5)) τ ∧ St d M o q τ := by
  obtain ⟨k, b, τ1, τ2, e1, kM, e2, e3, e4, e5⟩ := st_lines hL h (gSx g (i + 1))
  refine ⟨τ2, ?_, e5⟩
  have z1 : nI i + 1 = nI (i + 1) := nI_add i 1
  have z5 : nI i + 5 = nI (i + 5) := nI_add i 5
  unfold J_L_law_c898
  rw [z1, z5, jzI_ok (j := i + 1) (by omega) hN, jcs_ok e1, jvI_ok, jzI_ok (j := i + 1) (by omega) hN, jcv_ok kM e2, jvI_ok]
  exact tail_ok e5 e3 e4
theorem cs_954 (hL : Lay d M o q) (h : St d M o q σ) {i : Nat} (hi : i + 5 ≤ gSn g) (hN : gSn g ≤ 2560) : ∃ τ, J_L_law_c954 g rc d M o q (nI i) σ = rc d M o q (nI (i + 5)) τ ∧ St d M o q τ := by
  obtain ⟨k, b, τ1, τ2, e1, kM, e2, e3, e4, e5⟩ := st_lineAt hL h (gSx g (i + 1)) (gSx g (i + 2)) (gSx g (i + 3))
  refine ⟨τ2, ?_, e5⟩
  have z1 : nI i + 1 = nI (i + 1) := nI_add i 1
  have z2 : nI i + 2 = nI (i + 2) := nI_add i 2
  have z3 : nI i + 3 = nI (i + 3) := nI_add i 3
  have z5 : nI i + 5 = nI (i + 5) := nI_add i 5
  unfold J_L_law_c954
  rw [z1, z2, z3, z5, jzI_ok (j := i + 1) (by omega) hN, jzI_ok (j := i + 2) (by omega) hN, jzI_ok (j := i + 3) (by omega) hN, jcs_ok e1, jvI_ok, jzI_ok (j := i + 1) (by omega) hN, jzI_ok (j := i + 2) (by omega) hN, jzI_ok (j := i + 3) (by omega) hN, jcv_ok kM e2, jvI_ok]
  exact tail_ok e5 e3 e4
theorem cs_1034 (hL : Lay d M o q) (h : St d M o q σ) {i : Nat} (hi : i + 5 ≤ gSn g) (hN : gSn g ≤ 2560) : ∃ τ, J_L_law_c1034 g rc d M o q (nI i) σ = rc d M o q (nI (i + 5)) τ ∧ St d M o q τ := by
  obtain ⟨k, b, τ1, τ2, e1, kM, e2, e3, e4, e5⟩ := st_lineOf hL h (gSx g (i + 1)) (gSx g (i + 2))
  refine ⟨τ2, ?_, e5⟩
  have z1 : nI i + 1 = nI (i + 1) := nI_add i 1
  have z2 : nI i + 2 = nI (i + 2) := nI_add i 2
  have z5 : nI i + 5 = nI (i + 5) := nI_add i 5
  unfold J_L_law_c1034
  rw [z1, z2, z5, jzI_ok (j := i + 1) (by omega) hN, jzI_ok (j := i + 2) (by omega) hN, jcs_ok e1, jvI_ok, jzI_ok (j := i + 1) (by omega) hN, jzI_ok (j := i + 2) (by omega) hN, jcv_ok kM e2, jvI_ok]
  exact tail_ok e5 e3 e4
theorem cs_1102 (hL : Lay d M o q) (h : St d M o q σ) {i : Nat} (hi : i + 5 ≤ gSn g) (hN : gSn g ≤ 2560) : ∃ τ, J_L_law_c1102 g rc d M o q (nI i) σ = rc d M o q (nI (i + 5)) τ ∧ St d M o q τ := by
  obtain ⟨k, b, τ1, τ2, e1, kM, e2, e3, e4, e5⟩ := st_emboss hL h (gSx g (i + 1))
  refine ⟨τ2, ?_, e5⟩
  have z1 : nI i + 1 = nI (i + 1) := nI_add i 1
  have z5 : nI i + 5 = nI (i + 5) := nI_add i 5
  unfold J_L_law_c1102
  rw [z1, z5, jzI_ok (j := i + 1) (by omega) hN, jcs_ok e1, jvI_ok, jzI_ok (j := i + 1) (by omega) hN, jcv_ok kM e2, jvI_ok]
  exact tail_ok e5 e3 e4
theorem cs_1158 (hL : Lay d M o q) (h : St d M o q σ) {i : Nat} (hi : i + 5 ≤ gSn g) (hN : gSn g ≤ 2560) : ∃ τ, J_L_law_c1158 g rc d M o q (nI i) σ = rc d M o q (nI (i + 5)) τ ∧ St d M o q τ := by
  obtain ⟨k, b, τ1, τ2, e1, kM, e2, e3, e4, e5⟩ := st_changed hL h (gSx g (i + 1))
  refine ⟨τ2, ?_, e5⟩
  have z1 : nI i + 1 = nI (i + 1) := nI_add i 1
  have z5 : nI i + 5 = nI (i + 5) := nI_add i 5
  unfold J_L_law_c1158
  rw [z1, z5, jzI_ok (j := i + 1) (by omega) hN, jcs_ok e1, jvI_ok, jzI_ok (j := i + 1) (by omega) hN, jcv_ok kM e2, jvI_ok]
  exact tail_ok e5 e3 e4
theorem cs_1214 (hL : Lay d M o q) (h : St d M o q σ) {i : Nat} (hi : i + 5 ≤ gSn g) (hN : gSn g ≤ 2560) : ∃ τ, J_L_law_c1214 g rc d M o q (nI i) σ = rc d M o q (nI (i + 5)) τ ∧ St d M o q τ := by
  obtain ⟨k, b, τ1, τ2, e1, kM, e2, e3, e4, e5⟩ := st_setBearing hL h (gSx g (i + 1))
  refine ⟨τ2, ?_, e5⟩
  have z1 : nI i + 1 = nI (i + 1) := nI_add i 1
  have z5 : nI i + 5 = nI (i + 5) := nI_add i 5
  unfold J_L_law_c1214
  rw [z1, z5, jzI_ok (j := i + 1) (by omega) hN, jcs_ok e1, jvI_ok, jzI_ok (j := i + 1) (by omega) hN, jcv_ok kM e2, jvI_ok]
  exact tail_ok e5 e3 e4
theorem cs_1270 (hL : Lay d M o q) (h : St d M o q σ) {i : Nat} (hi : i + 5 ≤ gSn g) (hN : gSn g ≤ 2560) : ∃ τ, J_L_law_c1270 g rc d M o q (nI i) σ = rc d M o q (nI (i + 5)) τ ∧ St d M o q τ := by
  obtain ⟨k, b, τ1, τ2, e1, kM, e2, e3, e4, e5⟩ := st_replace hL h (gSx g (i + 1))
  refine ⟨τ2, ?_, e5⟩
  have z1 : nI i + 1 = nI (i + 1) := nI_add i 1
  have z5 : nI i + 5 = nI (i + 5) := nI_add i 5
  unfold J_L_law_c1270
  rw [z1, z5, jzI_ok (j := i + 1) (by omega) hN, jcs_ok e1, jvI_ok, jzI_ok (j := i + 1) (by omega) hN, jcv_ok kM e2, jvI_ok]
  exact tail_ok e5 e3 e4
theorem cs_1326 (hL : Lay d M o q) (h : St d M o q σ) {i : Nat} (hi : i + 5 ≤ gSn g) (hN : gSn g ≤ 2560) : ∃ τ, J_L_law_c1326 g rc d M o q (nI i) σ = rc d M o q (nI (i + 5)) τ ∧ St d M o q τ := by
  obtain ⟨k, b, τ1, τ2, e1, kM, e2, e3, e4, e5⟩ := st_strikes hL h (gSx g (i + 1))
  refine ⟨τ2, ?_, e5⟩
  have z1 : nI i + 1 = nI (i + 1) := nI_add i 1
  have z5 : nI i + 5 = nI (i + 5) := nI_add i 5
  unfold J_L_law_c1326
  rw [z1, z5, jzI_ok (j := i + 1) (by omega) hN, jcs_ok e1, jvI_ok, jzI_ok (j := i + 1) (by omega) hN, jcv_ok kM e2, jvI_ok]
  exact tail_ok e5 e3 e4
theorem cs_1497 (hL : Lay d M o q) (h : St d M o q σ) {i : Nat} (hi : i + 5 ≤ gSn g) (hN : gSn g ≤ 2560) : ∃ τ, J_L_law_c1497 g rc d M o q (nI i) σ = rc d M o q (nI (i + 5)) τ ∧ St d M o q τ := by
  obtain ⟨k, b, τ1, τ2, e1, kM, e2, e3, e4, e5⟩ := st_markOf hL h (gSx g (i + 1)) (gSx g (i + 2)) (gSx g (i + 3))
  refine ⟨τ2, ?_, e5⟩
  have z1 : nI i + 1 = nI (i + 1) := nI_add i 1
  have z2 : nI i + 2 = nI (i + 2) := nI_add i 2
  have z3 : nI i + 3 = nI (i + 3) := nI_add i 3
  have z5 : nI i + 5 = nI (i + 5) := nI_add i 5
  unfold J_L_law_c1497
  rw [z1, z2, z3, z5, jzI_ok (j := i + 1) (by omega) hN, jzI_ok (j := i + 2) (by omega) hN, jzI_ok (j := i + 3) (by omega) hN, jcs_ok e1, jvI_ok, jzI_ok (j := i + 1) (by omega) hN, jzI_ok (j := i + 2) (by omega) hN, jzI_ok (j := i + 3) (by omega) hN, jcv_ok kM e2, jvI_ok]
  exact tail_ok e5 e3 e4
theorem cs_519 (hL : Lay d M o q) (h : St d M o q σ) (i : Nat) : ∃ τ, J_L_law_c519 g rc d M o q (nI i) σ = rc d M o q (nI (i + 5)) τ ∧ St d M o q τ := by
  obtain ⟨k, b, τ1, τ2, e1, kM, e2, e3, e4, e5⟩ := st_turnException hL h
  refine ⟨τ2, ?_, e5⟩
  have z5 : nI i + 5 = nI (i + 5) := nI_add i 5
  unfold J_L_law_c519
  rw [z5, jcs_ok e1, jvI_ok, jcv_ok kM e2, jvI_ok]
  exact tail_b e5 e3 e4
theorem cs_1382 (hL : Lay d M o q) (h : St d M o q σ) {i : Nat} (hi : i + 5 ≤ gSn g) (hN : gSn g ≤ 2560) : ∃ τ, J_L_law_c1382 g rc d M o q (nI i) σ = rc d M o q (nI (i + 5)) τ ∧ St d M o q τ := by
  have z1 : nI i + 1 = nI (i + 1) := nI_add i 1
  have z2 : nI i + 2 = nI (i + 2) := nI_add i 2
  have z3 : nI i + 3 = nI (i + 3) := nI_add i 3
  have z4 : nI i + 4 = nI (i + 4) := nI_add i 4
  have z5 : nI i + 5 = nI (i + 5) := nI_add i 5
  by_cases c : gSx g (i + 4) = 0
  · obtain ⟨k, b, τ1, τ2, e1, kM, e2, e3, e4, e5⟩ := st_mark hL h (gSx g (i + 1)) (gSx g (i + 2)) (gSx g (i + 3)) 0
    refine ⟨τ2, ?_, e5⟩
    unfold J_L_law_c1382
    rw [z1, z2, z3, z4, z5, jzI_ok (j := i + 1) (by omega) hN, jzI_ok (j := i + 2) (by omega) hN, jzI_ok (j := i + 3) (by omega) hN, jzI_ok (j := i + 4) (by omega) hN]
    unfold jj
    dsimp only
    rw [if_pos c, jcs_ok e1, jvI_ok, jzI_ok (j := i + 1) (by omega) hN, jzI_ok (j := i + 2) (by omega) hN, jzI_ok (j := i + 3) (by omega) hN, jzI_ok (j := i + 4) (by omega) hN, if_pos c, jcv_ok kM e2, jvI_ok]
    exact tail_b e5 e3 e4
  · obtain ⟨k, b, τ1, τ2, e1, kM, e2, e3, e4, e5⟩ := st_mark hL h (gSx g (i + 1)) (gSx g (i + 2)) (gSx g (i + 3)) 1
    refine ⟨τ2, ?_, e5⟩
    unfold J_L_law_c1382
    rw [z1, z2, z3, z4, z5, jzI_ok (j := i + 1) (by omega) hN, jzI_ok (j := i + 2) (by omega) hN, jzI_ok (j := i + 3) (by omega) hN, jzI_ok (j := i + 4) (by omega) hN]
    unfold jj
    dsimp only
    rw [if_neg c, jcs_ok e1, jvI_ok, jzI_ok (j := i + 1) (by omega) hN, jzI_ok (j := i + 2) (by omega) hN, jzI_ok (j := i + 3) (by omega) hN, jzI_ok (j := i + 4) (by omega) hN, if_neg c, jcv_ok kM e2, jvI_ok]
    exact tail_b e5 e3 e4
end LAWCS
