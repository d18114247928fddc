/-! The model's lines. -/
/-- line j of the model -/
def Ln (σ : Hp) (M j : Nat) (l : List Int32) : Prop := l.length ≤ 40 ∧ inH σ (M + 19) j = nI l.length ∧ ∀ k, k < l.length → inH σ (M + 18) (40 * j + k) = l.getD k 0
/-- its lines -/
def ML (σ : Hp) (M : Nat) (L : List (List Int32)) : Prop := L.length ≤ 60 ∧ inH σ M 27 = nI L.length ∧ ∀ j, j < L.length → Ln σ M j (L.getD j [])
def qL (M : Nat) : Nat → Nat → Prop := fun a k => a = M + 18 ∨ a = M + 19 ∨ (a = M ∧ k = 27)
theorem qL_S {M : Nat} : ∀ a k, qL M a k → qS M a k := fun a k h => by unfold qL at h; unfold qS; omega
theorem qL_T {M : Nat} : ∀ a k, qL M a k → qT M a k := fun a k h => qS_T a k (qL_S a k h)
theorem Ln.ai {Q : Nat → Nat → Prop} {σ τ : Hp} {M j : Nat} {l : List Int32} (h : Ln σ M j l) (hg : ai Q σ τ) (hq : ∀ k, ¬ Q (M + 18) k ∧ ¬ Q (M + 19) k) : Ln τ M j l := ⟨h.1, by rw [hg.i (hq _).2]; exact h.2.1, fun k hk => by rw [hg.i (hq _).1]; exact h.2.2 k hk⟩
theorem ML.ai {Q : Nat → Nat → Prop} {σ τ : Hp} {M : Nat} {L : List (List Int32)} (h : ML σ M L) (hg : ai Q σ τ) (h0 : ¬ Q M 27) (hq : ∀ k, ¬ Q (M + 18) k ∧ ¬ Q (M + 19) k) : ML τ M L := ⟨h.1, by rw [hg.i h0]; exact h.2.1, fun j hj => (h.2.2 j hj).ai hg hq⟩
theorem getl_l {L : List (List Int32)} {l : List Int32} {j : Nat} (h : j < L.length) : (L ++ [l]).getD j [] = L.getD j [] := by simp [List.getD_eq_getElem?_getD, List.getElem?_append_left h]
theorem getl_e {L : List (List Int32)} {l : List Int32} : (L ++ [l]).getD L.length [] = l := by simp [List.getD_eq_getElem?_getD]
theorem getl_len {L : List (List Int32)} {l : List Int32} : (L ++ [l]).length = L.length + 1 := by rw [List.length_append]; rfl
theorem m_begins {σ : Hp} {M : Nat} (h : MH σ M) {L : List (List Int32)} (hL : ML σ M L) (hl : L.length < 60) : ∃ τ, J_X6_begins M σ = some (.inl none, τ) ∧ ML τ M (L ++ [[]]) ∧ ai (qL M) σ τ := by
  refine ⟨inS (inS σ (M + 19) L.length 0) M 27 (nI (L.length + 1)), ?_, ⟨by rw [getl_len]; omega, ?_, fun j hj => ?_⟩, (ai_in (Q := qL M) _ _ (Or.inr (Or.inl rfl))).tr (ai_in (Q := qL M) _ _ (Or.inr (Or.inr ⟨rfl, rfl⟩)))⟩
  · unfold J_X6_begins
    rw [jgR_ok h.1, jgI_ok h.1, h.fr (f := 26) (c := 19) (r := 100) (by decide), jdr_ok, hL.2.1, jsI_ok (h.fk (f := 26) (c := 19) (r := 100) (by decide)) (by omega) (by decide), jgI_ok (by exact h.1), in_inS, if_neg (by omega), hL.2.1, jpI_ok (by exact h.1), nI_1]
  · rw [in_inS, if_pos ⟨rfl, rfl⟩, getl_len]
  · rw [getl_len] at hj
    by_cases e : j = L.length
    · subst e
      rw [getl_e]
      refine ⟨Nat.zero_le _, ?_, fun k hk => (Nat.not_lt_zero k hk).elim⟩
      rw [in_inS, if_neg (by omega), in_inS, if_pos ⟨rfl, rfl⟩]
      rfl
    · have hj' : j < L.length := by omega
      rw [getl_l hj']
      obtain ⟨a, b, c⟩ := hL.2.2 j hj'
      refine ⟨a, ?_, fun k hk => ?_⟩
      · rw [in_inS, if_neg (by omega), in_inS, if_neg (by omega)]
        exact b
      · rw [in_inS, if_neg (by omega), in_inS, if_neg (by omega)]
        exact c k hk
theorem m_adds {σ : Hp} {M : Nat} (h : MH σ M) {L : List (List Int32)} {l : List Int32} (hL : ML σ M (L ++ [l])) (hl : l.length < 40) (x : Int32) : ∃ τ, J_X6_addsCell M x σ = some (.inl none, τ) ∧ ML τ M (L ++ [l ++ [x]]) ∧ ai (qL M) σ τ := by
  obtain ⟨h1, h2, h3⟩ := hL
  rw [getl_len] at h1 h2
  have hn := h3 L.length (by rw [getl_len]; omega)
  rw [getl_e] at hn
  obtain ⟨n1, n2, n3⟩ := hn
  have h26 := h.fr (f := 26) (c := 19) (r := 100) (by decide)
  have k26 := h.fk (f := 26) (c := 19) (r := 100) (by decide)
  refine ⟨inS (inS σ (M + 18) (40 * L.length + l.length) x) (M + 19) L.length (nI (l.length + 1)), ?_, ⟨by rw [getl_len]; omega, ?_, fun j hj => ?_⟩, (ai_in (Q := qL M) _ _ (Or.inl rfl)).tr (ai_in (Q := qL M) _ _ (Or.inr (Or.inl rfl)))⟩
  · unfold J_X6_addsCell
    rw [jgR_ok h.1, jgI_ok h.1, jgR_ok h.1, jgI_ok h.1, h26, h.fr (f := 25) (c := 18) (r := 4000) (by decide), jdr_ok, h2, nI_pred, jaI_ok k26 (by omega) (by decide), n2, jdr_ok, e40, jsI_ok (h.fk (f := 25) (c := 18) (r := 4000) (by decide)) (by omega) (by decide), jgR_ok (by exact h.1), jgI_ok (by exact h.1), rf_inS, h26, in_inS, if_neg (by omega), h2, jdr_ok, nI_pred, jaI_ok (by exact k26) (by omega) (by decide), in_inS, if_neg (by omega), n2, jsI_ok (by exact k26) (by omega) (by decide), nI_1]
  · rw [in_inS, if_neg (by omega), in_inS, if_neg (by omega), h2, getl_len]
  · rw [getl_len] at hj
    by_cases e : j = L.length
    · subst e
      rw [getl_e]
      refine ⟨by rw [List.length_append]; exact hl, ?_, fun k hk => ?_⟩
      · rw [in_inS, if_pos ⟨rfl, rfl⟩, List.length_append]
        rfl
      · rw [List.length_append] at hk
        simp only [List.length_cons, List.length_nil] at hk
        rw [in_inS, if_neg (by omega), in_inS]
        by_cases e : k = l.length
        · subst e
          rw [if_pos ⟨rfl, rfl⟩]
          simp [List.getD_eq_getElem?_getD]
        · rw [if_neg (by omega), n3 k (by omega), getD_app_l (by omega)]
    · have hj' : j < L.length := by omega
      have hnj := h3 j (by rw [getl_len]; omega)
      rw [getl_l hj'] at hnj ⊢
      obtain ⟨a, b, c⟩ := hnj
      refine ⟨a, ?_, fun k hk => ?_⟩
      · rw [in_inS, if_neg (by omega), in_inS, if_neg (by omega)]
        exact b
      · rw [in_inS, if_neg (by omega), in_inS, if_neg (by omega)]
        exact c k hk
/-- the word's cells go into lines -/
theorem m_brk_L1 {M W K : Nat} {c : List Int32} (hW : 8 ≤ W) (hW2 : W ≤ 40) (hK : K ≤ 40) (hc : c.length ≤ 160) (v1 v2 v3 v4 v5 : Int32) (kk : Nat → Int32 → Int32 → Int32 → Int32 → Int32 → Hp → jR) : ∀ (d m j n : Nat) (σ : Hp) (a : List (List Int32) × List Int32), MH σ M → inH σ M 15 = nI W → MWd σ M c → ML σ M (a.1 ++ [a.2]) → LI W K n a → n + (c.length - j) ≤ 160 → c.length - j = d → j ≤ c.length → d < m → ∃ τ, J_X6_breaks_L107 kk m M v1 v2 v3 v4 v5 (nI j) σ = kk M v1 v2 v3 v4 v5 τ ∧ ML τ M (((c.drop j).foldl (addC W) a).1 ++ [((c.drop j).foldl (addC W) a).2]) ∧ ai (qL M) σ τ := by
  intro d
  induction d with
  | zero =>
    intro m j n σ a h hw hA hL hI hn hd hj hm
    obtain ⟨m, rfl⟩ : ∃ z, m = z + 1 := ⟨m - 1, by omega⟩
    refine ⟨σ, ?_, by rw [List.drop_of_length_le (by omega)]; exact hL, ai.rf⟩
    show J_X6_breaks_L107b kk (J_X6_breaks_L107 kk m) M v1 v2 v3 v4 v5 (nI j) σ = _
    unfold J_X6_breaks_L107b
    rw [jgI_ok h.1, hA.1, if_pos (nI_le (by omega) (by omega))]
  | succ d ih =>
    intro m j n σ a h hw hA hL hI hn hd hj hm
    obtain ⟨m, rfl⟩ : ∃ z, m = z + 1 := ⟨m - 1, by omega⟩
    have hI' := hI.add hW (c.getD j 0)
    have hjc : j < c.length := by omega
    have ed : c.drop j = c.getD j 0 :: c.drop (j + 1) := by
      rw [List.drop_eq_getElem_cons hjc]
      simp [List.getD_eq_getElem?_getD, hjc]
    obtain ⟨l1, l2, l3⟩ := hL
    rw [getl_len] at l1 l2
    have hn := l3 a.1.length (by rw [getl_len]; omega)
    rw [getl_e] at hn
    have hL : ML σ M (a.1 ++ [a.2]) := ⟨by rw [getl_len]; exact l1, by rw [getl_len]; exact l2, l3⟩
    have h26 := h.fr (f := 26) (c := 19) (r := 100) (by decide)
    have k26 := h.fk (f := 26) (c := 19) (r := 100) (by decide)
    have fin : ∀ (σ1 : Hp) (L : List (List Int32)) (l : List Int32), MH σ1 M → inH σ1 M 15 = nI W → MWd σ1 M c → ML σ1 M (L ++ [l]) → l.length < 40 → addC W a (c.getD j 0) = (L, l ++ [c.getD j 0]) → ai (qL M) σ σ1 → ∃ τ, jgR σ1 M 6 22 (fun r20 => jdr r20 (fun b21 => jaI σ1 b21 (nI j) (fun x22 => jcv σ1 M 6 (J_X6_addsCell M x22 σ1) (fun w24 t23 => jvV w24 (J_X6_breaks_L107 kk m M v1 v2 v3 v4 v5 (nI j + 1) t23)) (fun E t => some (.inr E, t))))) = kk M v1 v2 v3 v4 v5 τ ∧ ML τ M (((c.drop j).foldl (addC W) a).1 ++ [((c.drop j).foldl (addC W) a).2]) ∧ ai (qL M) σ τ := by
      intro σ1 L l h' hw' hA' hL' hl ha hg
      obtain ⟨τ, a1, a2, a3⟩ := m_adds h' hL' hl (c.getD j 0)
      rw [ha] at hI'
      obtain ⟨υ, b1, b2, b3⟩ := ih m (j + 1) (n + 1) τ (L, l ++ [c.getD j 0]) (h'.ai a3) (by rw [a3.i (fun z => by unfold qL at z; omega)]; exact hw') (hA'.ai a3 (fun z => by unfold qL at z; omega) (fun k z => by unfold qL at z; omega)) a2 hI' (by omega) (by omega) (by omega) (by omega)
      refine ⟨υ, ?_, ?_, hg.tr (a3.tr b3)⟩
      · rw [mrd h' (f := 22) (c := 16) (r := 160) (by decide) (by omega), hA'.2 j hjc, jcv_ok h'.1 a1, jvV_ok, nI_1]
        exact b1
      · rw [ed, List.foldl_cons, ha]
        exact b2
    show ∃ τ, J_X6_breaks_L107b kk (J_X6_breaks_L107 kk m) M v1 v2 v3 v4 v5 (nI j) σ = _ ∧ _
    unfold J_X6_breaks_L107b jj
    dsimp only
    rw [jgI_ok h.1, hA.1, if_neg (nI_ge hjc (by omega)), jgR_ok h.1, jgI_ok h.1, h26, jdr_ok, l2, nI_pred, jaI_ok k26 (by omega) (by decide), hn.2.1, jgI_ok h.1, hw]
    have h4 := hI.2.2.2
    by_cases e : W ≤ a.2.length
    · have ha : addC W a (c.getD j 0) = (a.1 ++ [a.2], [] ++ [c.getD j 0]) := by
        unfold addC
        rw [if_pos e]
        rfl
      have hlt : (a.1 ++ [a.2]).length < 60 := by
        have := hI'.2.1
        have h5 := hI'.1
        rw [ha] at this h5
        simp only [getl_len] at this ⊢
        simp only [List.nil_append, List.length_cons, List.length_nil] at h5
        omega
      obtain ⟨τ, a1, a2, a3⟩ := m_begins h hL hlt
      rw [if_pos (by rw [show a.2.length = W by omega]), jcv_ok h.1 a1, jvV_ok]
      exact fin τ _ _ (h.ai a3) (by rw [a3.i (fun z => by unfold qL at z; omega)]; exact hw) (hA.ai a3 (fun z => by unfold qL at z; omega) (fun k z => by unfold qL at z; omega)) a2 (by simp) ha a3
    · rw [if_neg (fun z => e (by have := (nI_eq (by omega) (by omega)).mp z; omega))]
      exact fin σ a.1 a.2 h hw hA hL (by omega) (by unfold addC; rw [if_neg e]) ai.rf
