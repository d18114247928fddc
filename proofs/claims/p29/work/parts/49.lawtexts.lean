/-! The turns that take the texts; the whole walk. -/
def XX : List Nat := [2, 4, 2, 4, 2, 4, 2, 0, 0, 0, 1, 3, 1, 3, 1, 3, 1, 3, 0, 0, 4, 2, 4, 2, 4, 2, 4, 2, 0, 0, 0, 1, 3, 1, 3, 1, 3, 1, 3, 0, 0, 0, 2, 4, 2, 4, 2, 4, 2, 4, 0, 0, 1, 3, 1, 3, 1, 3, 1, 3]
def VV : Int32 := (122789275 : Int32) >>> ((3 : Int32) &&& 31)
def tyE (j : Nat) : Int32 := ((((40503 : Int32)) * (VV >>> (((5 : Int32)) &&& 31))) + (((2749 : Int32)) * nI j)) >>> (((3 : Int32)) &&& 31)
theorem ty_all : ∀ j, j < 60 → XX.getD j 0 ≤ 4 ∧ ((lw (tyE j) 4 = 0 ∧ XX.getD j 0 = 0) ∨ (lw (tyE j) 4 ≠ 0 ∧ lw (tyE j >>> (((2 : Int32)) &&& 31)) 4 = nI (XX.getD j 0 - 1) ∧ 1 ≤ XX.getD j 0)) := by decide +kernel
theorem bc_all : ∀ c, c < 5 → ((bc c = 32 ∨ (¬ bc c < 97 ∧ ¬ 122 < bc c)) ∧ ∀ x, x < 27 → bc c = bc x → c = x) := by decide +kernel
theorem abcd_all : ∀ q, q < 4 → nI (([97, 98, 99, 100] : List Nat).getD q 0) = bc (q + 1) := by decide +kernel
theorem XX_len : XX.length = 60 := by decide
theorem XX_wd : (wd XX).length = 6 ∧ (wd XX).map (trC [] [] [] [] [] (nI 1)) = cS := by decide +kernel
theorem take_s (j : Nat) (hj : j < 60) : XX.take j ++ [XX.getD j 0] = XX.take (j + 1) := by
  rw [List.take_succ, List.getD_eq_getElem?_getD, List.getElem?_eq_getElem (by rw [XX_len]; exact hj)]
  rfl
/-- a letter is typed -/
theorem s_ty {σ : Hp} {d n : Nat} {T : Nat → Tx} {W : Nat} {wr : List Int32} {be : Int32} {j : Nat} (hj : j < 60) (h : ClsV σ d (XX.take j) [] [] [] [] [] n T W wr be) (hI : ClsI (XX.take j) [] [] [] [] [] n T W) : ∃ τ r, J_X5_type d (bc (XX.getD j 0)) σ = some (.inl (some (.int r)), τ) ∧ ClsV τ d (XX.take (j + 1)) [] [] [] [] [] n T W wr be ∧ ClsI (XX.take (j + 1)) [] [] [] [] [] n T W ∧ ag (rw2 (d + 1)) σ τ := by
  have hc := (ty_all j hj).1
  obtain ⟨b1, b2⟩ := bc_all _ (show XX.getD j 0 < 5 by omega)
  have hl : (XX.take j).length = j := by rw [List.length_take, XX_len]; omega
  rcases s_D_type h hI (bc (XX.getD j 0)) with ⟨hn, _⟩ | ⟨_, h80, _⟩ | ⟨_, _, c, τ, c1, c2, e, hv, hi, hg⟩
  · exact absurd b1 hn
  · rw [hl] at h80
    omega
  · obtain rfl := b2 c (by omega) c2
    rw [take_s j hj] at hv hi
    exact ⟨τ, _, e, hv, hi, hg⟩
theorem s_types_L {g : jG} {d n : Nat} {T : Nat → Tx} {W : Nat} {wr : List Int32} {be : Int32} (hB : gB g ≤ d) (k85 : Hp → jR) : ∀ (k m j : Nat) (σ : Hp), ClsV σ d (XX.take j) [] [] [] [] [] n T W wr be → ClsI (XX.take j) [] [] [] [] [] n T W → StrV σ 0 (gB g) (gKa g 1) [97, 98, 99, 100] → 60 - j = k → j ≤ 60 → k < m → ∃ τ, J_L_types_L18 g k85 m d VV 1 (nI 60) (nI j) σ = k85 τ ∧ ClsV τ d XX [] [] [] [] [] n T W wr be ∧ ClsI XX [] [] [] [] [] n T W ∧ ag (rw2 (d + 1)) σ τ := by
  intro k
  induction k with
  | zero =>
    intro m j σ h hI hs hk hj hm
    obtain ⟨n', rfl⟩ : ∃ n', m = n' + 1 := ⟨m - 1, by omega⟩
    obtain rfl : j = 60 := by omega
    have e : XX.take 60 = XX := by decide
    rw [e] at h hI
    refine ⟨σ, ?_, h, hI, ag.rf⟩
    show J_L_types_L18b g k85 (J_L_types_L18 g k85 n') d VV 1 (nI 60) (nI 60) σ = _
    unfold J_L_types_L18b
    rw [if_pos (nI_le (Nat.le_refl _) (by omega))]
  | succ k ih =>
    intro m j σ h hI hs hk hj hm
    obtain ⟨n', rfl⟩ : ∃ n', m = n' + 1 := ⟨m - 1, by omega⟩
    obtain ⟨τ1, r, e1, h1, hI1, g1⟩ := s_ty (by omega) h hI
    have hs1 : StrV τ1 0 (gB g) (gKa g 1) [97, 98, 99, 100] := hs.gw (b := tpH σ) g1.gw hs.2.2.2.2.1 (fun q z y => by unfold rw2 at z; omega)
    obtain ⟨τ, e2, h2, hI2, g2⟩ := ih n' (j + 1) τ1 h1 hI1 hs1 (by omega) (by omega) (by omega)
    refine ⟨τ, ?_, h2, hI2, g1.tr g2⟩
    have hd := h.1.1
    show J_L_types_L18b g k85 (J_L_types_L18 g k85 n') d VV 1 (nI 60) (nI j) σ = _
    unfold J_L_types_L18b jj
    rw [if_neg (nI_ge (by omega) (by omega))]
    dsimp only
    rw [if_neg (by decide)]
    have eE : ((((40503 : Int32)) * (VV >>> (((5 : Int32)) &&& 31))) + (((2749 : Int32)) * nI j)) >>> (((3 : Int32)) &&& 31) = tyE j := rfl
    rw [eE, jcs_ok (s_low (by decide)), jvI_ok]
    rcases (ty_all j (by omega)).2 with ⟨c1, c2⟩ | ⟨c1, c2, c3⟩
    · rw [c2] at e1
      rw [if_pos c1, jcv_ok hd (show J_X5_type d 32 σ = _ from e1), jvI_ok, nI_1]
      exact e2
    · have c4 := (ty_all j (by omega)).1
      have ec : nI (([97, 98, 99, 100] : List Nat).getD (XX.getD j 0 - 1) 0) = bc (XX.getD j 0) := by
        rw [abcd_all _ (by omega), show XX.getD j 0 - 1 + 1 = XX.getD j 0 by omega]
      rw [if_neg c1, jcs_ok (s_low (by decide)), jvI_ok, c2, jcvS_ok hs.1 (s_chr (i := XX.getD j 0 - 1) hs (by show _ < 4; omega) (by show 4 < 100000; omega)), jvI_ok, ec, jcv_ok hd e1, jvI_ok, nI_1]
      exact e2
theorem VV_60 : (1 : Int32) + lw VV 60 = nI 60 := by decide +kernel
theorem s_types {g : jG} {d n : Nat} {T : Nat → Tx} {W : Nat} {be : Int32} {σ : Hp} (h : Bx g d n T W be σ) : ∃ τ, J_L_types g d VV 60 1 σ = some (.inl none, τ) ∧ ClsV τ d XX [] [] [] [] [] n T W (List.replicate 6 0) be ∧ ClsI XX [] [] [] [] [] n T W ∧ ag (rw2 (d + 1)) σ τ := by
  obtain ⟨h1, h2, h3, h4, h5, h6, h7⟩ := h
  obtain ⟨τ1, e1, hv1, g1⟩ := s_D_clear h1
  have hs1 : StrV τ1 0 (gB g) (gKa g 1) [97, 98, 99, 100] := h7.gw (b := tpH σ) g1.gw h7.2.2.2.2.1 (fun q z y => by unfold rw2 at z; omega)
  obtain ⟨τ, e2, h2', hI2, g2⟩ := s_types_L (g := g) h5 (fun (t22 : Hp) => some (.inl none, t22)) 60 jN 0 τ1 hv1 h2 hs1 (by omega) (by omega) (by show 60 < 100000; omega)
  refine ⟨τ, ?_, h2', hI2, g1.tr g2⟩
  unfold J_L_types
  rw [jcv_ok h1.1.1 e1, jvI_ok, jcs_ok (s_low (by decide)), jvI_ok, VV_60]
  exact e2
