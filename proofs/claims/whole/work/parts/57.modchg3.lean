/-! The model tells which texts changed: whole. -/
section MODCT
variable {M : Nat} {buf ks : List Nat} {gs fs ss : List Int32} {E : List (List Nat)} {n : Nat} {T T' : Nat → Tx} {W : Nat} {wr : List Int32} {be : Int32} {old : Nat → List (List Int32)}
theorem ModA.tr {σ : Hp} (h : ModA σ M buf ks gs fs ss E n T W wr be) (hT : ∀ j, j < n → tX (T' j) = tX (T j) ∧ tG (T' j) = tG (T j) ∧ tE (T' j) = tE (T j)) : ModA σ M buf ks gs fs ss E n T' W wr be := by
  obtain ⟨h0, h1, h2, h3, h4, h5⟩ := h
  refine ⟨h0, h1, h2, h3, ⟨h4.1, fun i hi => ?_, h4.2.2⟩, h5⟩
  obtain ⟨a, b, c⟩ := hT i hi
  rw [a, b, c]
  exact h4.2.1 i hi
theorem m_chg_L3 (hI : RubI ks gs fs ss E) (hss : ∀ s ∈ ss, ¬ s < 0) (hW : ∀ i, i < n → WdI (wd (tX (T i)))) (ho : ∀ i, i < n → (old i).length = (wd (tX (T i))).length) : ∀ (d m i cnt : Nat) (σ : Hp), ModA σ M buf ks gs fs ss E n T W wr be → MF σ M (bft old n) → MG σ M n (fM T (fun j => clO ks gs fs ss E (T j)) old i 0) (tL T) → n - i = d → i ≤ n → d < m → ∃ τ, J_X6_textsChanged_L6 m M (nI (bft old i).length) (nI cnt) (nI i) σ = some (.inl (some (.int (nI (cnt + cntD (fun j => chg (clO ks gs fs ss E (T j)) (old j)) d i)))), τ) ∧ MG τ M n (fM T (fun j => clO ks gs fs ss E (T j)) old n 0) (tL T) ∧ ai (qT M) σ τ := by
  intro d
  induction d with
  | zero =>
    intro m i cnt σ h hf hg hd hi hm
    have hn := h.2.2.2.2.1.1.2
    obtain ⟨m, rfl⟩ : ∃ z, m = z + 1 := ⟨m - 1, by omega⟩
    obtain rfl : i = n := by omega
    refine ⟨σ, ?_, hg, ai.rf⟩
    show J_X6_textsChanged_L6b (J_X6_textsChanged_L6 m) M _ (nI cnt) (nI i) σ = _
    unfold J_X6_textsChanged_L6b
    rw [jgI_ok h.1.1, h.2.2.2.2.1.1.1, if_pos (nI_le (Nat.le_refl _) (by omega))]
    rfl
  | succ d ih =>
    intro m i cnt σ h hf hg hd hi hm
    have hn := h.2.2.2.2.1.1.2
    obtain ⟨m, rfl⟩ : ∃ z, m = z + 1 := ⟨m - 1, by omega⟩
    have hin : i < n := by omega
    have hw := (hW i hin).2.2.1
    obtain ⟨τ, a1, a2, a3, a4⟩ := m_chg_L2 hI hss hW hin (ho i hin) cnt (fun (x41 : Nat) (x42 : Int32) (x43 : Int32) (x44 : Int32) (x45 : Int32) (t46 : Hp) => jj (fun (x47 : Int32) (t48 : Hp) => J_X6_textsChanged_L6 m x41 x42 (x43 + x47) (x44 + 1) t48) (fun j190 => (if x45 = 0 then j190 0 t46 else j190 1 t46))) (wd (tX (T i))).length jN 0 false σ h hf hg rfl (Nat.zero_le _) (by unfold jN; omega)
    have hg2 : MG τ M n (fM T (fun j => clO ks gs fs ss E (T j)) old (i + 1) 0) (tL T) := by
      refine a3.cg (fun x hx w e he hwl => ?_)
      have hd : (2 * w + e) / 2 = w := by omega
      unfold fM
      rw [hd]
      by_cases c : (x < i ∨ x = i ∧ w < (wd (tX (T i))).length) ∧ shr (clO ks gs fs ss E (T x)) (old x) w = false
      · rw [if_pos c, if_pos ⟨by omega, c.2⟩]
      · rw [if_neg c]
        refine (if_neg (fun z => c ⟨?_, z.2⟩)).symm
        by_cases e : x = i
        · subst e
          exact Or.inr ⟨rfl, hwl⟩
        · omega
    have hchg : anyD (fun j => !shr (clO ks gs fs ss E (T i)) (old i) j) (wd (tX (T i))).length 0 = chg (clO ks gs fs ss E (T i)) (old i) := by
      unfold chg
      rw [clO_len]
    rw [hchg, Bool.false_or] at a1
    obtain ⟨υ, b1, b2, b3⟩ := ih m (i + 1) (cnt + (if chg (clO ks gs fs ss E (T i)) (old i) = true then 1 else 0)) τ (h.ai a4) a2 hg2 (by omega) (by omega) (by omega)
    refine ⟨υ, ?_, b2, a4.tr b3⟩
    show J_X6_textsChanged_L6b (J_X6_textsChanged_L6 m) M _ (nI cnt) (nI i) σ = _
    unfold J_X6_textsChanged_L6b
    rw [jgI_ok h.1.1, h.2.2.2.2.1.1.1, if_neg (nI_ge hin (by omega)), jcv_ok h.1.1 (m_words h hin), jvI_ok]
    have e0 : bft old i ++ bfr ((old i).take 0) = bft old i := by simp [bfr]
    rw [e0] at a1
    refine a1.trans ?_
    unfold jj
    dsimp only
    rw [nI_1]
    cases hc : chg (clO ks gs fs ss E (T i)) (old i)
    · simp only [hc, b0z, if_true] at b1 ⊢
      rw [show nI cnt + 0 = nI (cnt + 0) from nI_add _ 0]
      simp only [cntD, hc] at b1 ⊢
      simpa using b1
    · simp only [hc, b1z, if_true, if_false] at b1 ⊢
      rw [nI_1]
      simp only [cntD, hc, if_true] at b1 ⊢
      rw [← Nat.add_assoc]
      exact b1
theorem m_chg {σ : Hp} (hI : RubI ks gs fs ss E) (hss : ∀ s ∈ ss, ¬ s < 0) (hW : ∀ i, i < n → WdI (wd (tX (T i)))) (ho : ∀ i, i < n → (old i).length = (wd (tX (T i))).length) (hM : ∀ i, i < n → (tM (T i)).length = 2 * (wd (tX (T i))).length) (h : ModV σ M buf ks gs fs ss E n T W wr be) (hf : MF σ M (bft old n)) (hT : TR n 0 T T' (fun j => clO ks gs fs ss E (T j)) old) : ∃ τ, J_X6_textsChanged M σ = some (.inl (some (.int (nI (cntD (fun j => chg (clO ks gs fs ss E (T j)) (old j)) n 0)))), τ) ∧ ModV τ M buf ks gs fs ss E n T' W wr be ∧ ai (qT M) σ τ := by
  have hn := h.1.2.2.2.2.1.1.2
  have hg0 : MG σ M n (fM T (fun j => clO ks gs fs ss E (T j)) old 0 0) (tL T) := by
    refine h.2.cg (fun x hx w e he hwl => ?_)
    unfold fM
    rw [if_neg (by omega)]
  obtain ⟨τ, a1, a2, a3⟩ := m_chg_L3 hI hss hW ho n jN 0 0 σ h.1 hf hg0 rfl (Nat.zero_le _) (by unfold jN; omega)
  rw [Nat.zero_add] at a1
  refine ⟨τ, a1, ⟨(h.1.ai a3).tr (fun j hj => ⟨(hT j hj).2.1, (hT j hj).2.2.1, (hT j hj).2.2.2.1⟩), ?_⟩, a3⟩
  intro i hi w e he hw
  obtain ⟨t1, t2, t3, t4, t5, t6⟩ := hT i hi
  have hw' : w < tL T i := by unfold tL at hw ⊢; rw [t2] at hw; exact hw
  rw [a2 i hi w e he hw']
  congr 1
  have hMi := hM i hi
  have h6 := t6 (2 * w + e) (by unfold tL at hw'; omega)
  unfold tF fM
  rw [h6]
  by_cases c : shr (clO ks gs fs ss E (T i)) (old i) ((2 * w + e) / 2) = false
  · rw [if_pos ⟨Or.inl hi, c⟩, if_pos ⟨Nat.zero_le _, c⟩]
  · rw [if_neg (fun z => c z.2), if_neg (fun z => c z.2)]
    rfl
end MODCT
