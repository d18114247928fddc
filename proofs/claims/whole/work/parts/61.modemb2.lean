/-! The model embosses. -/
/-- the model's cells -/
def qA (M : Nat) : Nat → Nat → Prop := fun a _ => M ≤ a ∧ a ≤ M + 19
theorem qS_A {M : Nat} : ∀ a k, qS M a k → qA M a k := fun a k h => by unfold qS at h; unfold qA; omega
theorem qT_A {M : Nat} : ∀ a k, qT M a k → qA M a k := fun a k h => by unfold qT qS at h; unfold qA; omega
def qP (M : Nat) : Nat → Nat → Prop := fun a _ => a = M + 15
/-- text i's embossed lines -/
def qE (M i : Nat) : Nat → Nat → Prop := fun a k => (a = M + 11 ∧ 4000 * i ≤ k ∧ k < 4000 * i + 4000) ∨ (a = M + 12 ∧ 100 * i ≤ k ∧ k < 100 * i + 100) ∨ (a = M + 13 ∧ k = i)
section MODE2
variable {M i : Nat} {ls em : List (List Int32)}
theorem m_emb_L1 (hi : i < 6) {W : Nat} {be : Int32} (kk : Nat → Int32 → Hp → jR) : ∀ (d m p : Nat) (σ : Hp) (wr : List Int32), MH σ M → ME σ M i em → ML σ M ls → MZ σ M W wr be → wr.length = 6 → 6 - p = d → p ≤ 6 → d < m → ∃ τ wr', J_X6_emboss_L54 kk m M (nI i) (nI p) σ = kk M (nI i) τ ∧ MZ τ M W wr' be ∧ (∀ j, j < 6 → wr'.getD j 0 = if p ≤ j then wr.getD j 0 + duD ls (fun j => !shr ls em j) j ls.length 0 0 else wr.getD j 0) ∧ ai (qP M) σ τ := by
  intro d
  induction d with
  | zero =>
    intro m p σ wr h hE hL hZ hw hd hp hm
    obtain ⟨m, rfl⟩ : ∃ z, m = z + 1 := ⟨m - 1, by omega⟩
    refine ⟨σ, wr, ?_, hZ, fun j hj => by rw [if_neg (by omega)], ai.rf⟩
    show J_X6_emboss_L54b kk (J_X6_emboss_L54 kk m) M (nI i) (nI p) σ = _
    unfold J_X6_emboss_L54b
    rw [if_pos (show (6 : Int32) ≤ nI p from nI_le (a := 6) (by omega) (by omega))]
  | succ d ih =>
    intro m p σ wr h hE hL hZ hw hd hp hm
    obtain ⟨m, rfl⟩ : ∃ z, m = z + 1 := ⟨m - 1, by omega⟩
    have hp6 : p < 6 := by omega
    have hg : ai (qP M) σ (inS σ (M + 15) p (wr.getD p 0 + duD ls (fun j => !shr ls em j) p ls.length 0 0)) := ai_in σ _ rfl
    have hZ' : MZ (inS σ (M + 15) p (wr.getD p 0 + duD ls (fun j => !shr ls em j) p ls.length 0 0)) M W (wr.set p (wr.getD p 0 + duD ls (fun j => !shr ls em j) p ls.length 0 0)) be := by
      refine ⟨?_, ?_, fun j hj => ?_⟩
      · rw [in_inS, if_neg (by omega)]; exact hZ.1
      · rw [in_inS, if_neg (by omega)]; exact hZ.2.1
      · rw [in_inS, getD_set (by omega)]
        by_cases e : j = p
        · rw [if_pos ⟨rfl, e⟩, if_pos e]
        · rw [if_neg (fun z => e z.2), if_neg e]
          exact hZ.2.2 j hj
    obtain ⟨τ, wr', a1, a2, a3, a4⟩ := ih m (p + 1) _ _ (h.ai hg) (hE.ai hg (fun k => ⟨fun z => by unfold qP at z; omega, fun z => by unfold qP at z; omega, fun z => by unfold qP at z; omega⟩)) (hL.ai hg (fun z => by unfold qP at z; omega) (fun k => ⟨fun z => by unfold qP at z; omega, fun z => by unfold qP at z; omega⟩)) hZ' (by rw [List.length_set]; exact hw) (by omega) (by omega) (by omega)
    refine ⟨τ, wr', ?_, a2, fun j hj => ?_, hg.tr a4⟩
    · show J_X6_emboss_L54b kk (J_X6_emboss_L54 kk m) M (nI i) (nI p) σ = _
      unfold J_X6_emboss_L54b
      rw [if_neg (show ¬ (6 : Int32) ≤ nI p from nI_ge (b := 6) (by omega) (by omega)), jgR_ok h.1, h.fr (f := 21) (c := 15) (r := 6) (by decide), jdr_ok, jaI_ok (h.fk (f := 21) (c := 15) (r := 6) (by decide)) hp6 (by decide), hZ.2.2 p hp6, jcv_ok h.1 (m_due h hE hL hi p), jvI_ok, jsI_ok (h.fk (f := 21) (c := 15) (r := 6) (by decide)) hp6 (by decide), nI_1]
      exact a1
    · rw [a3 j hj, getD_set (by omega)]
      by_cases c : p + 1 ≤ j
      · rw [if_pos c, if_neg (by omega), if_pos (by omega)]
      · rw [if_neg c]
        by_cases e : j = p
        · rw [if_pos e, if_pos (by omega), e]
        · rw [if_neg e, if_neg (by omega)]
theorem m_emb_L2 {σ : Hp} (h : MH σ M) (hE : ME σ M i em) (hL : ML σ M ls) (hi : i < 6) (kk : Nat → Int32 → Int32 → Int32 → Hp → jR) : ∀ (d m j c p : Nat) (l : Int32), ls.length - j = d → j ≤ ls.length → d < m → J_X6_emboss_L96 kk m M (nI i) (nI c) (nI p) l (nI j) σ = kk M (nI i) (nI (c + cntD (fun j => !shr ls em j) d j)) (nI (p + pgD (fun j => !shr ls em j) d j l)) σ := by
  have hl := hL.1
  intro d
  induction d with
  | zero =>
    intro m j c p l hd hj hm
    obtain ⟨m, rfl⟩ : ∃ z, m = z + 1 := ⟨m - 1, by omega⟩
    show J_X6_emboss_L96b kk (J_X6_emboss_L96 kk m) M (nI i) (nI c) (nI p) l (nI j) σ = _
    unfold J_X6_emboss_L96b
    rw [jgI_ok h.1, hL.2.1, if_pos (nI_le (by omega) (by omega))]
    rfl
  | succ d ih =>
    intro m j c p l hd hj hm
    obtain ⟨m, rfl⟩ : ∃ z, m = z + 1 := ⟨m - 1, by omega⟩
    have e4 : nI j / 4 = nI (j / 4) := pk_div (a := j) (d := 4) (by omega) (by omega) (by omega)
    show J_X6_emboss_L96b kk (J_X6_emboss_L96 kk m) M (nI i) (nI c) (nI p) l (nI j) σ = _
    unfold J_X6_emboss_L96b jj
    dsimp only
    rw [jgI_ok h.1, hL.2.1, if_neg (nI_ge (by omega) (by omega)), jcv_ok h.1 (m_isEmb h hE hL hi (by omega)), jvI_ok, e4, nI_1, nI_1]
    unfold cntD pgD
    cases hs : shr ls em j
    · rw [if_pos (show bI false = 0 by decide)]
      simp only [Bool.not_false, if_true]
      by_cases e : nI (j / 4) = l
      · rw [if_pos e, if_pos e, show nI p + 0 = nI (p + 0) from nI_add p 0, ih m (j + 1) (c + 1) (p + 0) _ (by omega) (by omega) (by omega), Nat.add_assoc, Nat.add_assoc]
      · rw [if_neg e, if_neg e, nI_1, ih m (j + 1) (c + 1) (p + 1) _ (by omega) (by omega) (by omega), Nat.add_assoc, Nat.add_assoc]
    · rw [if_neg (show ¬ bI true = 0 by decide), ih m (j + 1) c p l (by omega) (by omega) (by omega)]
      simp
/-- the first j lines are kept -/
def LE (σ : Hp) (M i : Nat) (ls : List (List Int32)) (j : Nat) : Prop := ∀ j', j' < j → inH σ (M + 12) (100 * i + j') = nI (ls.getD j' []).length ∧ ∀ k, k < (ls.getD j' []).length → inH σ (M + 11) (40 * (100 * i + j') + k) = (ls.getD j' []).getD k 0
theorem m_emb_L3 (hi : i < 6) {j : Nat} (hj : j < ls.length) (v4 v5 : Int32) (kk : Nat → Int32 → Int32 → Int32 → Int32 → Hp → jR) : ∀ (d m k : Nat) (σ : Hp), MH σ M → ML σ M ls → LE σ M i ls j → inH σ (M + 12) (100 * i + j) = nI (ls.getD j []).length → (∀ k', k' < k → inH σ (M + 11) (40 * (100 * i + j) + k') = (ls.getD j []).getD k' 0) → (ls.getD j []).length - k = d → k ≤ (ls.getD j []).length → d < m → ∃ τ, J_X6_emboss_L183 kk m M (nI i) v4 v5 (nI j) (nI k) σ = kk M (nI i) v4 v5 (nI j) τ ∧ LE τ M i ls (j + 1) ∧ ai (qE M i) σ τ := by
  intro d
  induction d with
  | zero =>
    intro m k σ h hL hE h12 h11 hd hk hm
    obtain ⟨m, rfl⟩ : ∃ z, m = z + 1 := ⟨m - 1, by omega⟩
    obtain ⟨l1, l2, l3⟩ := hL
    obtain ⟨n1, n2, n3⟩ := l3 j hj
    refine ⟨σ, ?_, fun j' hj' => ?_, ai.rf⟩
    · show J_X6_emboss_L183b kk (J_X6_emboss_L183 kk m) M (nI i) v4 v5 (nI j) (nI k) σ = _
      unfold J_X6_emboss_L183b
      rw [mrd h (f := 26) (c := 19) (r := 100) (by decide) (by omega), n2, if_pos (nI_le (by omega) (by omega))]
    · by_cases e : j' = j
      · subst e
        exact ⟨h12, fun k' hk' => h11 k' (by omega)⟩
      · exact hE j' (by omega)
  | succ d ih =>
    intro m k σ h hL hE h12 h11 hd hk hm
    obtain ⟨m, rfl⟩ : ∃ z, m = z + 1 := ⟨m - 1, by omega⟩
    have hLL := hL
    obtain ⟨l1, l2, l3⟩ := hL
    obtain ⟨n1, n2, n3⟩ := l3 j hj
    have hg : ai (qE M i) σ (inS σ (M + 11) (40 * (100 * i + j) + k) ((ls.getD j []).getD k 0)) := ai_in σ _ (Or.inl ⟨rfl, by omega, by omega⟩)
    obtain ⟨τ, a1, a2, a3⟩ := ih m (k + 1) (inS σ (M + 11) (40 * (100 * i + j) + k) ((ls.getD j []).getD k 0)) (h.ai hg) (hLL.ai hg (fun z => by unfold qE at z; omega) (fun k => ⟨fun z => by unfold qE at z; omega, fun z => by unfold qE at z; omega⟩)) (fun j' hj' => by
      have hl' := (l3 j' (by omega)).1
      refine ⟨by rw [in_inS, if_neg (by omega)]; exact (hE j' hj').1, fun k' hk' => ?_⟩
      rw [in_inS, if_neg (by omega)]
      exact (hE j' hj').2 k' hk') (by rw [in_inS, if_neg (by omega)]; exact h12) (fun k' hk' => by
      rw [in_inS]
      by_cases e : k' = k
      · rw [if_pos ⟨rfl, by rw [e]⟩, e]
      · rw [if_neg (by omega)]
        exact h11 k' (by omega)) (by omega) (by omega) (by omega)
    refine ⟨τ, ?_, a2, hg.tr a3⟩
    show J_X6_emboss_L183b kk (J_X6_emboss_L183 kk m) M (nI i) v4 v5 (nI j) (nI k) σ = _
    unfold J_X6_emboss_L183b
    rw [mrd h (f := 26) (c := 19) (r := 100) (by decide) (by omega), n2, if_neg (nI_ge (by omega) (by omega)), jgR_ok h.1, jgR_ok h.1, h.fr (f := 25) (c := 18) (r := 4000) (by decide), jdr_ok, e40, jaI_ok (h.fk (f := 25) (c := 18) (r := 4000) (by decide)) (by omega) (by decide), n3 k (by omega), h.fr (f := 16) (c := 11) (r := 24000) (by decide), jdr_ok, e100, e40, jsI_ok (h.fk (f := 16) (c := 11) (r := 24000) (by decide)) (by omega) (by decide), nI_1]
    exact a1
theorem m_emb_L4 (hi : i < 6) (c p : Nat) : ∀ (d m j : Nat) (σ : Hp), MH σ M → ML σ M ls → LE σ M i ls j → ls.length - j = d → j ≤ ls.length → d < m → ∃ τ, J_X6_emboss_L152 m M (nI i) (nI c) (nI p) (nI j) σ = some (.inl (some (.int (nI (100 * p + c)))), τ) ∧ ME τ M i ls ∧ ai (qE M i) σ τ := by
  intro d
  induction d with
  | zero =>
    intro m j σ h hL hE hd hj hm
    obtain ⟨m, rfl⟩ : ∃ z, m = z + 1 := ⟨m - 1, by omega⟩
    obtain rfl : j = ls.length := by omega
    refine ⟨inS σ (M + 13) i (nI ls.length), ?_, ⟨⟨hL.1, fun j hj => (hL.2.2 j hj).1⟩, by rw [in_inS, if_pos ⟨rfl, rfl⟩], fun j' hj' => ⟨?_, fun k hk => ?_⟩⟩, ai_in σ _ (Or.inr (Or.inr ⟨rfl, rfl⟩))⟩
    · show J_X6_emboss_L152b (J_X6_emboss_L152 m) M (nI i) (nI c) (nI p) (nI ls.length) σ = _
      unfold J_X6_emboss_L152b
      rw [jgI_ok h.1, hL.2.1, if_pos (nI_le (by omega) (by have := hL.1; omega)), jgR_ok h.1, jgI_ok h.1, h.fr (f := 18) (c := 13) (r := 6) (by decide), jdr_ok, hL.2.1, jsI_ok (h.fk (f := 18) (c := 13) (r := 6) (by decide)) hi (by decide), e100]
    · rw [in_inS, if_neg (by omega)]
      exact (hE j' hj').1
    · rw [in_inS, if_neg (by omega)]
      exact (hE j' hj').2 k hk
  | succ d ih =>
    intro m j σ h hL hE hd hj hm
    obtain ⟨m, rfl⟩ : ∃ z, m = z + 1 := ⟨m - 1, by omega⟩
    have hLL := hL
    obtain ⟨l1, l2, l3⟩ := hL
    have hjl : j < ls.length := by omega
    obtain ⟨n1, n2, n3⟩ := l3 j hjl
    have hg : ai (qE M i) σ (inS σ (M + 12) (100 * i + j) (nI (ls.getD j []).length)) := ai_in σ _ (Or.inr (Or.inl ⟨rfl, by omega, by omega⟩))
    have noL : ¬ qE M i M 27 ∧ ∀ k, ¬ qE M i (M + 18) k ∧ ¬ qE M i (M + 19) k := ⟨fun z => by unfold qE at z; omega, fun k => ⟨fun z => by unfold qE at z; omega, fun z => by unfold qE at z; omega⟩⟩
    obtain ⟨τ, a1, a2, a3⟩ := m_emb_L3 hi hjl (nI c) (nI p) (fun (x56 : Nat) (x57 : Int32) (x58 : Int32) (x59 : Int32) (x60 : Int32) (t61 : Hp) => J_X6_emboss_L152 m x56 x57 x58 x59 (x60 + 1) t61) (ls.getD j []).length jN 0 _ (h.ai hg) (hLL.ai hg noL.1 noL.2) (fun j' hj' => ⟨by rw [in_inS, if_neg (by omega)]; exact (hE j' hj').1, fun k hk => by rw [in_inS, if_neg (by omega)]; exact (hE j' hj').2 k hk⟩) (by rw [in_inS, if_pos ⟨rfl, rfl⟩]) (fun k' hk' => (Nat.not_lt_zero k' hk').elim) rfl (Nat.zero_le _) (by unfold jN; omega)
    obtain ⟨υ, b1, b2, b3⟩ := ih m (j + 1) τ ((h.ai hg).ai a3) ((hLL.ai hg noL.1 noL.2).ai a3 noL.1 noL.2) a2 (by omega) (by omega) (by omega)
    refine ⟨υ, ?_, b2, hg.tr (a3.tr b3)⟩
    show J_X6_emboss_L152b (J_X6_emboss_L152 m) M (nI i) (nI c) (nI p) (nI j) σ = _
    unfold J_X6_emboss_L152b
    rw [jgI_ok h.1, l2, if_neg (nI_ge hjl (by omega)), jgR_ok h.1, jgR_ok h.1, h.fr (f := 26) (c := 19) (r := 100) (by decide), jdr_ok, jaI_ok (h.fk (f := 26) (c := 19) (r := 100) (by decide)) (by omega) (by decide), n2, h.fr (f := 17) (c := 12) (r := 600) (by decide), jdr_ok, e100, jsI_ok (h.fk (f := 17) (c := 12) (r := 600) (by decide)) (by omega) (by decide)]
    refine (show _ = _ from a1).trans ?_
    rw [nI_1]
    exact b1
/-- one text's embossed lines are others -/
theorem me_other {σ τ : Hp} {i' : Nat} (h : ME σ M i' em) (hg : ai (qE M i) σ τ) (hne : i' ≠ i) : ME τ M i' em := by
  obtain ⟨⟨m1, m2⟩, m3, m4⟩ := h
  refine ⟨⟨m1, m2⟩, by rw [hg.i (fun z => by unfold qE at z; omega)]; exact m3, fun j hj => ?_⟩
  have := m2 j hj
  exact ⟨by rw [hg.i (fun z => by unfold qE at z; omega)]; exact (m4 j hj).1, fun k hk => by rw [hg.i (fun z => by unfold qE at z; omega)]; exact (m4 j hj).2 k hk⟩
end MODE2
