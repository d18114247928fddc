/-! The law's cases: sums, and the loop. -/
section LAWCT
variable {σ τ : Hp} {d M o q : Nat} {g : jG} {rc : Nat → Nat → Nat → Nat → Int32 → Hp → jR} {buf ks : List Nat} {gs fs ss : List Int32} {E Em : List (List Nat)} {n : Nat} {T : Nat → Tx} {W : Nat} {wr : List Int32} {be : Int32}
theorem st_put (hL : Lay d M o q) (hC : ClsV σ d buf ks gs fs ss E n T W wr be) (hS1 : S1 buf ks gs fs ss E Em n T W wr q) (hS : S2 σ o q) (hg : ai (qA M) σ τ) (hM : ModV τ M buf ks gs fs ss Em n T W wr be) : St d M o q τ := ⟨_, _, _, _, _, _, _, _, _, _, _, _, cls_ai hL hS1.2.2.2.2 hC hg, hM, hS1, s2_ai hS hg⟩
theorem cs_222 (hL : Lay d M o q) (h : St d M o q σ) (i : Nat) : ∃ τ, J_L_law_c222 g rc d M o q (nI i) σ = rc d M o q (nI (i + 5)) τ ∧ St d M o q τ := by
  obtain ⟨buf, ks, gs, fs, ss, E, Em, n, T, W, wr, be, hC, hM, hS1, hS⟩ := h
  have z5 : nI i + 5 = nI (i + 5) := nI_add i 5
  obtain ⟨τ1, e, hV, hg⟩ := s_D_clear hC
  have hg' := hg.up (clP_b (n := n) (T := T))
  have m1 := mod_ag hL hS1.2.2.2.2 hM hg'
  obtain ⟨τ2, b1, b2, b3, b4⟩ := m_clear m1
  refine ⟨τ2, ?_, st_put hL hV ⟨hS1.1.emp, hS1.2⟩ (s2_ag hS hg') b4 b3⟩
  unfold J_L_law_c222
  rw [z5, jcv_ok hC.1.1 e, jvI_ok, jcv_ok m1.1.1.1 b1, jvI_ok, if_pos rfl]
theorem cs_1577 (hL : Lay d M o q) (h : St d M o q σ) (i : Nat) : ∃ τ, J_L_law_c1577 g rc d M o q (nI i) σ = rc d M o q (nI (i + 5)) τ ∧ St d M o q τ := by
  obtain ⟨buf, ks, gs, fs, ss, E, Em, n, T, W, wr, be, hC, hM, hS1, hS⟩ := h
  have z5 : nI i + 5 = nI (i + 5) := nI_add i 5
  have e := s_D_checksum hC hS1.1.2.2.1
  simp only [clO_perm hS1.2.1] at e
  obtain ⟨τ2, b1, b2, b3⟩ := m_checksum hM hS1.mc
  refine ⟨τ2, ?_, st_put hL hC hS1 hS b3 b2⟩
  unfold J_L_law_c1577
  rw [z5, jcv_ok hC.1.1 e, jvJ_ok, jcv_ok hM.1.1.1 b1, jvJ_ok, if_pos ((lg_cmp_eq _ _).mpr rfl)]
theorem cs_1698 (hL : Lay d M o q) (h : St d M o q σ) (i : Nat) : ∃ τ, J_L_law_c1698 g rc d M o q (nI i) σ = rc d M o q (nI (i + 5)) τ ∧ St d M o q τ := by
  obtain ⟨buf, ks, gs, fs, ss, E, Em, n, T, W, wr, be, hC, hM, hS1, hS⟩ := h
  have z5 : nI i + 5 = nI (i + 5) := nI_add i 5
  have e := s_D_isSound hC hS1.1
  obtain ⟨τ2, b1, b2, b3, b4⟩ := m_isSound hM
  refine ⟨τ2, ?_, st_put hL hC hS1 hS b4 b3⟩
  unfold J_L_law_c1698
  rw [z5, jcv_ok hC.1.1 e, jvI_ok, jcv_ok hM.1.1.1 b1, jvI_ok, if_pos rfl]
theorem jvD_ok {x : UInt64} {K : UInt64 → jR} : jvD (some (.double x)) K = K x := rfl
theorem jvF_ok {x : UInt32} {K : UInt32 → jR} : jvF (some (.float x)) K = K x := rfl
theorem cs_1657 (hL : Lay d M o q) (h : St d M o q σ) (i : Nat) : ∃ τ, J_L_law_c1657 g rc d M o q (nI i) σ = rc d M o q (nI (i + 5)) τ ∧ St d M o q τ := by
  obtain ⟨buf, ks, gs, fs, ss, E, Em, n, T, W, wr, be, hC, hM, hS1, hS⟩ := h
  have z5 : nI i + 5 = nI (i + 5) := nI_add i 5
  have e := s_D_meanStrikes hC
  have e2 := m_meanStrikes hM hS1.2.2.2.1
  rw [jn64_ok (nn_mean _)] at e e2
  refine ⟨inS σ M 0 0, ?_, st_put hL hC hS1 hS (ai_0 σ M 0) (hM.th 0)⟩
  unfold J_L_law_c1657 jj
  dsimp only
  rw [z5, jcv_ok hC.1.1 e, jvD_ok, jcv_ok hM.1.1.1 e2, jvD_ok, if_pos (dcmp_r (nn_mean _))]
theorem smD_le {f : Nat → Nat} : ∀ (k i N : Nat), (∀ j, j < N → f j ≤ 40) → i + k ≤ N → smD f k i ≤ 40 * k
  | 0, _, _, _, _ => Nat.le_refl _
  | k + 1, i, N, h, hk => by
    have h1 := h i (by omega)
    have h2 := smD_le k (i + 1) N h (by omega)
    rw [smD_s]
    omega
theorem cs_1591 (hL : Lay d M o q) (h : St d M o q σ) (i : Nat) : ∃ τ, J_L_law_c1591 g rc d M o q (nI i) σ = rc d M o q (nI (i + 5)) τ ∧ St d M o q τ := by
  have h0 := h
  obtain ⟨buf, ks, gs, fs, ss, E, Em, n, T, W, wr, be, hC, hM, hS1, hS⟩ := h
  have z5 : nI i + 5 = nI (i + 5) := nI_add i 5
  have hw : ∀ j, j < n → (wd (tX (T j))).length ≤ 40 := fun j hj => (hS1.mc.2.2.1 j hj).2.2.1
  have hA := smD_le n 0 n hw (by omega)
  have hn := hS1.1.2.2.1
  have e := s_D_provedShare hC hS1.1
  by_cases c : smD (fun i => (wd (tX (T i))).length) n 0 = 0
  · have cI : nI (smD (fun i => (wd (tX (T i))).length) n 0) = 0 := by rw [c]; rfl
    rw [if_pos cI] at e
    have hg : ag (clP d n T) σ (thS σ) := (ag_thS hS.1).up (fun _ z => z.elim)
    have m1 := mod_ag hL hS1.2.2.2.2 hM hg
    have e2 := m_share m1 hw
    rw [if_pos cI] at e2
    have hs : St d M o q (inS (thS σ) M 0 1) := st_put hL (ClsG.th hC hS.1) hS1 (s2_ag hS hg) (ai_0 (thS σ) M 1) (m1.th 1)
    have hJ : J_L_provedShare d q σ = some (.inl (some (.int 1)), thS σ) := by
      unfold J_L_provedShare
      rw [jcv_x hC.1.1 e, if_pos rfl]
    refine ⟨inS (thS σ) M 0 1, ?_, hs⟩
    unfold J_L_law_c1591 jj
    dsimp only
    rw [z5, jcs_ok hJ, jvI_ok, jcv_ok m1.1.1.1 e2, jvF_ok, jcv_ok hs.kM (thr_ok hs (in_0 _ M 1)), jvI_ok, if_pos rfl, if_neg (by decide)]
  · have cI : ¬ nI (smD (fun i => (wd (tX (T i))).length) n 0) = 0 := nI_ne0 (by omega) (by omega)
    have hnn := nn_share (p := smD (fun i => cntD (prv (tM (T i))) (wd (tX (T i))).length 0) n 0) (a := smD (fun i => (wd (tX (T i))).length) n 0) (by omega) c
    rw [if_neg cI, jn32_ok hnn] at e
    generalize hx : FP.fdiv (FP.i2f (nI (smD (fun i => cntD (prv (tM (T i))) (wd (tX (T i))).length 0) n 0))) (FP.i2f (nI (smD (fun i => (wd (tX (T i))).length) n 0))) = x at *
    have hJ : J_L_provedShare d q σ = some (.inl (some (.int 0)), dbS σ q 0 (FP.f2d x)) := by
      unfold J_L_provedShare
      rw [jcv_ok hC.1.1 e, jvF_ok, jn64_ok (nn_f2d hnn), jsD_0 hS.2.2.1]
    have m1 : ModV (dbS σ q 0 (FP.f2d x)) M buf ks gs fs ss Em n T W wr be := hM.same (fun a _ _ => ⟨rfl, rfl, rfl⟩)
    have c1 : ClsV (dbS σ q 0 (FP.f2d x)) d buf ks gs fs ss E n T W wr be := hC
    have s1 : S2 (dbS σ q 0 (FP.f2d x)) o q := hS
    have e2 := m_share m1 hw
    rw [if_neg cI, hx, jn32_ok hnn] at e2
    have hs : St d M o q (inS (dbS σ q 0 (FP.f2d x)) M 0 0) := st_put hL c1 hS1 s1 (ai_0 _ M 0) (m1.th 0)
    have hdb : dbH (inS (dbS σ q 0 (FP.f2d x)) M 0 0) q 0 = FP.f2d x := db_dbS σ q _
    refine ⟨inS (dbS σ q 0 (FP.f2d x)) M 0 0, ?_, hs⟩
    unfold J_L_law_c1591 jj
    dsimp only
    rw [z5, jcs_ok hJ, jvI_ok, jcv_ok m1.1.1.1 e2, jvF_ok, jcv_ok hs.kM (thr_ok hs (in_0 _ M 0)), jvI_ok, if_pos rfl, if_pos rfl, jaD_0 hs.kq, hdb, jn64_ok (nn_f2d hnn), if_pos (dcmp_r (nn_f2d hnn))]
/-- one turn of the law's loop -/
theorem law_turn (hL : Lay d M o q) (h : St d M o q σ) {i : Nat} (hi : i + 5 ≤ gSn g) (hN : gSn g ≤ 2560) : ∃ τ, J_L_law_L28b g rc d M o q (nI i) σ = rc d M o q (nI (i + 5)) τ ∧ St d M o q τ := by
  have z5 : nI i + 5 = nI (i + 5) := nI_add i 5
  have hc : ¬ nI (gSn g) - 5 < nI i := fun z => by
    rw [Int32.lt_iff_toInt_lt, show nI (gSn g) - 5 = nI (gSn g) - nI 5 from rfl, pk_sub_toInt (by omega) (by omega), nI_toInt (by omega)] at z
    omega
  obtain ⟨j, hj, ej⟩ := pk_andE (gSx g i) (m := 31) 5 (by decide)
  have e : J_L_law_L28b g rc d M o q (nI i) σ = jsw (nI j) [J_L_law_c164 g rc d M o q (nI i) σ, J_L_law_c222 g rc d M o q (nI i) σ, J_L_law_c235 g rc d M o q (nI i) σ, J_L_law_c315 g rc d M o q (nI i) σ, J_L_law_c395 g rc d M o q (nI i) σ, J_L_law_c451 g rc d M o q (nI i) σ, J_L_law_c519 g rc d M o q (nI i) σ, J_L_law_c570 g rc d M o q (nI i) σ, J_L_law_c638 g rc d M o q (nI i) σ, J_L_law_c694 g rc d M o q (nI i) σ, J_L_law_c750 g rc d M o q (nI i) σ, J_L_law_c818 g rc d M o q (nI i) σ, J_L_law_c898 g rc d M o q (nI i) σ, J_L_law_c954 g rc d M o q (nI i) σ, J_L_law_c1034 g rc d M o q (nI i) σ, J_L_law_c1102 g rc d M o q (nI i) σ, J_L_law_c1158 g rc d M o q (nI i) σ, J_L_law_c1214 g rc d M o q (nI i) σ, J_L_law_c1270 g rc d M o q (nI i) σ, J_L_law_c1326 g rc d M o q (nI i) σ, J_L_law_c1382 g rc d M o q (nI i) σ, J_L_law_c1497 g rc d M o q (nI i) σ, J_L_law_c1577 g rc d M o q (nI i) σ, J_L_law_c1591 g rc d M o q (nI i) σ, J_L_law_c1657 g rc d M o q (nI i) σ, J_L_law_c1698 g rc d M o q (nI i) σ] (rc d M o q (nI (i + 5)) σ) := by
    unfold J_L_law_L28b
    rw [if_neg hc, jzI_ok (j := i) (by omega) hN, ej, z5]
  rw [e]
  unfold jsw
  rw [nI_clamp (by omega)]
  by_cases c : j < 26
  · rw [if_pos (show ¬ (nI j < 0 ∨ 26 ≤ j) from fun z => z.elim (nI_pos (by omega)) (fun y => by omega))]
    clear e ej hj
    match j, c with
    | 0, _ => exact cs_164 hL h hi hN
    | 1, _ => exact cs_222 (g := g) hL h i
    | 2, _ => exact cs_235 hL h hi hN
    | 3, _ => exact cs_315 hL h hi hN
    | 4, _ => exact cs_395 hL h hi hN
    | 5, _ => exact cs_451 hL h hi hN
    | 6, _ => exact cs_519 (g := g) hL h i
    | 7, _ => exact cs_570 hL h hi hN
    | 8, _ => exact cs_638 hL h hi hN
    | 9, _ => exact cs_694 hL h hi hN
    | 10, _ => exact cs_750 hL h hi hN
    | 11, _ => exact cs_818 hL h hi hN
    | 12, _ => exact cs_898 hL h hi hN
    | 13, _ => exact cs_954 hL h hi hN
    | 14, _ => exact cs_1034 hL h hi hN
    | 15, _ => exact cs_1102 hL h hi hN
    | 16, _ => exact cs_1158 hL h hi hN
    | 17, _ => exact cs_1214 hL h hi hN
    | 18, _ => exact cs_1270 hL h hi hN
    | 19, _ => exact cs_1326 hL h hi hN
    | 20, _ => exact cs_1382 hL h hi hN
    | 21, _ => exact cs_1497 hL h hi hN
    | 22, _ => exact cs_1577 (g := g) hL h i
    | 23, _ => exact cs_1591 (g := g) hL h i
    | 24, _ => exact cs_1657 (g := g) hL h i
    | 25, _ => exact cs_1698 (g := g) hL h i
    | k + 26, hk => exact absurd hk (by omega)
  · rw [if_neg (fun z => z (Or.inr (by omega)))]
    exact ⟨σ, rfl, h⟩
theorem law_loop (hL : Lay d M o q) (hN : gSn g ≤ 2560) : ∀ (m i : Nat) (σ : Hp), St d M o q σ → i ≤ gSn g → gSn g < i + 5 * m → ∃ τ, J_L_law_L28 g m d M o q (nI i) σ = some (.inl (some (.int 1)), τ)
  | 0, i, σ, h, h1, h2 => by omega
  | m + 1, i, σ, h, h1, h2 => by
    by_cases c : i + 5 ≤ gSn g
    · obtain ⟨τ, e1, e2⟩ := law_turn (rc := J_L_law_L28 g m) hL h c hN
      obtain ⟨υ, e3⟩ := law_loop hL hN m (i + 5) τ e2 c (by omega)
      exact ⟨υ, (show J_L_law_L28b g (J_L_law_L28 g m) d M o q (nI i) σ = _ from e1).trans e3⟩
    · refine ⟨σ, ?_⟩
      show J_L_law_L28b g (J_L_law_L28 g m) d M o q (nI i) σ = _
      unfold J_L_law_L28b
      rw [if_pos]
      rw [Int32.lt_iff_toInt_lt, show nI (gSn g) - 5 = nI (gSn g) - nI 5 from rfl, pk_sub_toInt (by omega) (by omega), nI_toInt (by omega)]
      omega
end LAWCT
