/-! The model's share of proved words. -/
theorem smD_s (f : Nat → Nat) (d i : Nat) : smD f (d + 1) i = f i + smD f d (i + 1) := rfl
section MODSH
variable {σ : Hp} {M : Nat} {buf ks : List Nat} {gs fs ss : List Int32} {E : List (List Nat)} {n : Nat} {T : Nat → Tx} {W : Nat} {wr : List Int32} {be : Int32}
theorem m_share_L1 (h : ModV σ M buf ks gs fs ss E n T W wr be) {i : Nat} (hi : i < n) (hw40 : (wd (tX (T i))).length ≤ 40) (v1 : Int32) (kk : Nat → Int32 → Int32 → Int32 → Hp → jR) : ∀ (d m w p : Nat), (wd (tX (T i))).length - w = d → w ≤ (wd (tX (T i))).length → d < m → J_X6_provedShare_L29 kk m M v1 (nI p) (nI i) (nI (wd (tX (T i))).length) (nI w) σ = kk M v1 (nI (p + cntD (prv (tM (T i))) d w)) (nI i) σ := by
  have hn := h.1.2.2.2.2.1.1.2
  intro d
  induction d with
  | zero =>
    intro m w p hd hw hm
    obtain ⟨m, rfl⟩ : ∃ z, m = z + 1 := ⟨m - 1, by omega⟩
    show J_X6_provedShare_L29b kk (J_X6_provedShare_L29 kk m) M v1 (nI p) (nI i) (nI _) (nI w) σ = _
    unfold J_X6_provedShare_L29b
    rw [if_pos (nI_le (by omega) (by omega))]
    rfl
  | succ d ih =>
    intro m w p hd hw hm
    obtain ⟨m, rfl⟩ : ∃ z, m = z + 1 := ⟨m - 1, by omega⟩
    have hwl : w < (wd (tX (T i))).length := by omega
    have r0 := h.2 i hi w 0 (by omega) hwl
    have r1 := h.2 i hi w 1 (by omega) hwl
    rw [Nat.mul_zero, Nat.zero_add, Nat.add_zero (2 * w)] at r0
    rw [Nat.mul_one] at r1
    show J_X6_provedShare_L29b kk (J_X6_provedShare_L29 kk m) M v1 (nI p) (nI i) (nI _) (nI w) σ = _
    unfold J_X6_provedShare_L29b jj
    dsimp only
    rw [if_neg (nI_ge hwl (by omega)), e40, mrd h.1.1 (f := 19) (c := 14) (r := 480) (by decide) (by omega), r0, e240, mrd h.1.1 (f := 19) (c := 14) (r := 480) (by decide) (by omega), r1, nI_1 w]
    unfold cntD
    have s0 := ih m (w + 1) p (by omega) (by omega) (by omega)
    have s1 := ih m (w + 1) (p + 1) (by omega) (by omega) (by omega)
    have p0 : nI p + 0 = nI p := nI_add p 0
    by_cases c0 : mkm (tF T i (2 * w)) = 1
    · rw [if_pos c0]
      by_cases c1 : mkm (tF T i (2 * w + 1)) = 1
      · have hp : prv (tM (T i)) w = true := decide_eq_true ⟨(mkm_1 _).mp c0, (mkm_1 _).mp c1⟩
        rw [if_pos c1, if_pos hp, nI_1 p, s1, Nat.add_assoc]
      · have hp : ¬ prv (tM (T i)) w = true := fun z => c1 ((mkm_1 _).mpr (of_decide_eq_true z).2)
        rw [if_neg c1, if_neg hp, p0, s0, Nat.zero_add]
    · have hp : ¬ prv (tM (T i)) w = true := fun z => c0 ((mkm_1 _).mpr (of_decide_eq_true z).1)
      rw [if_neg c0, if_neg hp, p0, s0, Nat.zero_add]
theorem m_share_L2 (h : ModV σ M buf ks gs fs ss E n T W wr be) (hw40 : ∀ i, i < n → (wd (tX (T i))).length ≤ 40) : ∀ (d m i a p : Nat), n - i = d → i ≤ n → d < m → J_X6_provedShare_L6 m M (nI a) (nI p) (nI i) σ = (if nI (a + smD (fun i => (wd (tX (T i))).length) d i) = 0 then some (.inl (some (.float 0)), inS σ M 0 1) else jn32 (FP.fdiv (FP.i2f (nI (p + smD (fun i => cntD (prv (tM (T i))) (wd (tX (T i))).length 0) d i))) (FP.i2f (nI (a + smD (fun i => (wd (tX (T i))).length) d i)))) (some (.inl (some (.float (FP.fdiv (FP.i2f (nI (p + smD (fun i => cntD (prv (tM (T i))) (wd (tX (T i))).length 0) d i))) (FP.i2f (nI (a + smD (fun i => (wd (tX (T i))).length) d i)))))), inS σ M 0 0))) := by
  have hn := h.1.2.2.2.2.1.1.2
  intro d
  induction d with
  | zero =>
    intro m i a p hd hi hm
    obtain ⟨m, rfl⟩ : ∃ z, m = z + 1 := ⟨m - 1, by omega⟩
    show J_X6_provedShare_L6b (J_X6_provedShare_L6 m) M (nI a) (nI p) (nI i) σ = _
    unfold J_X6_provedShare_L6b jj
    dsimp only
    rw [jgI_ok h.1.1.1, h.1.2.2.2.2.1.1.1, if_pos (nI_le (by omega) (by omega))]
    unfold smD
    rw [Nat.add_zero, Nat.add_zero]
    by_cases c : nI a = 0
    · rw [if_pos c, if_pos c, jcv_ok h.1.1.1 (s_M_goesOn h.1.1 1), jvI_ok, if_pos (by decide)]
    · rw [if_neg c, if_neg c, jcv_ok h.1.1.1 (s_M_goesOn h.1.1 0), jvI_ok, if_neg (by decide)]
  | succ d ih =>
    intro m i a p hd hi hm
    obtain ⟨m, rfl⟩ : ∃ z, m = z + 1 := ⟨m - 1, by omega⟩
    have hin : i < n := by omega
    have hw := hw40 i hin
    show J_X6_provedShare_L6b (J_X6_provedShare_L6 m) M (nI a) (nI p) (nI i) σ = _
    unfold J_X6_provedShare_L6b
    have h1 := m_share_L1 h hin hw (nI (a + (wd (tX (T i))).length)) (fun (x19 : Nat) (x20 : Int32) (x21 : Int32) (x22 : Int32) (t23 : Hp) => J_X6_provedShare_L6 m x19 x20 x21 (x22 + 1) t23) (wd (tX (T i))).length jN 0 p rfl (Nat.zero_le _) (by unfold jN; omega)
    rw [jgI_ok h.1.1.1, h.1.2.2.2.2.1.1.1, if_neg (nI_ge hin (by omega)), jcv_ok h.1.1.1 (m_words h.1 hin), jvI_ok, nI_add]
    refine (show _ = _ from h1).trans ?_
    rw [nI_1, ih m (i + 1) _ _ (by omega) (by omega) (by omega)]
    rw [smD_s, smD_s, Nat.add_assoc a, Nat.add_assoc p]
theorem m_share (h : ModV σ M buf ks gs fs ss E n T W wr be) (hw40 : ∀ i, i < n → (wd (tX (T i))).length ≤ 40) : J_X6_provedShare M σ = (if nI (smD (fun i => (wd (tX (T i))).length) n 0) = 0 then some (.inl (some (.float 0)), inS σ M 0 1) else jn32 (FP.fdiv (FP.i2f (nI (smD (fun i => cntD (prv (tM (T i))) (wd (tX (T i))).length 0) n 0))) (FP.i2f (nI (smD (fun i => (wd (tX (T i))).length) n 0)))) (some (.inl (some (.float (FP.fdiv (FP.i2f (nI (smD (fun i => cntD (prv (tM (T i))) (wd (tX (T i))).length 0) n 0))) (FP.i2f (nI (smD (fun i => (wd (tX (T i))).length) n 0)))))), inS σ M 0 0))) := by
  have := m_share_L2 h hw40 n jN 0 0 0 rfl (Nat.zero_le _) (by have := h.1.2.2.2.2.1.1.2; unfold jN; omega)
  rw [Nat.zero_add, Nat.zero_add] at this
  exact this
end MODSH
