/-! The model translates a word: the call. -/
theorem wd_getD {t : List Nat} {j : Nat} (hj : j < (wd t).length) : (wd t).getD j [] = wdt t (bgn t j) ∧ bgn t j < t.length := by
  have hj' := hj
  rw [wd_len] at hj'
  refine ⟨?_, (bgs_at t t.length j hj').1⟩
  have e := wd_at t
  unfold bgn
  rw [e]
  simp [List.getD_eq_getElem?_getD, hj']
theorem wdt_MW {σ : Hp} {M i : Nat} {t : List Nat} {g : Int32} (hT : MT σ M i t g) {j : Nat} (hj : j < (wd t).length) : MW σ M (80 * i + bgn t j) ((wd t).getD j []) ∧ ((wd t).getD j []).length ≤ 80 := by
  obtain ⟨e1, e2⟩ := wd_getD hj
  obtain ⟨⟨h1, h2, h3⟩, h4, h5, h6⟩ := hT
  have hI := wd_I h3 h2
  have hm := getl_mem hj
  have hle : (wdt t (bgn t j)).length ≤ t.length - bgn t j := by
    have := (List.takeWhile_sublist (fun c => decide (c ≠ 0)) (l := t.drop (bgn t j))).length_le
    rw [List.length_drop] at this
    exact this
  rw [← e1] at hle
  refine ⟨⟨by omega, (hI.1 _ hm).1, fun k hk => ?_⟩, by omega⟩
  rw [Nat.add_assoc, h6 _ (by omega), e1]
  rw [e1] at hk
  congr 1
  have hp : wdt t (bgn t j) <+: t.drop (bgn t j) := List.takeWhile_prefix _
  obtain ⟨r, hr⟩ := hp
  have : (t.drop (bgn t j)).getD k 0 = (wdt t (bgn t j)).getD k 0 := by
    rw [← hr]
    simp [List.getD_eq_getElem?_getD, List.getElem?_append_left hk]
  rw [← this]
  simp [List.getD_eq_getElem?_getD, List.getElem?_drop]
theorem s_M_translates {σ : Hp} {M : Nat} (h : MH σ M) {ks : List Nat} {gs fs ss : List Int32} (hR : MR σ M ks gs fs ss) {E : List (List Nat)} (hI : RubI ks gs fs ss E) (hss : ∀ s ∈ ss, ¬ s < 0) (hX : MX σ M E) {i : Nat} {t : List Nat} {g : Int32} (hT : MT σ M i t g) {j : Nat} (hj : j < (wd t).length) : ∃ τ, J_X6_translates M (nI i) (nI j) σ = some (.inl none, τ) ∧ MWd τ M (trC ks gs fs ss E g ((wd t).getD j [])) ∧ ai (qW M) σ τ := by
  obtain ⟨e1, e2⟩ := wd_getD hj
  obtain ⟨hW, hl⟩ := wdt_MW hT hj
  have hlc := s_M_letterCount h hT e2
  rw [← e1] at hlc
  have hex := s_M_isException h hX hW
  have g0 : ai (qW M) σ (inS σ M 23 0) := ai_in σ 0 (Or.inr ⟨rfl, rfl⟩)
  have hA0 : MWd (inS σ M 23 0) M [] := ⟨by rw [in_inS, if_pos ⟨rfl, rfl⟩]; rfl, fun k hk => (Nat.not_lt_zero k hk).elim⟩
  have hgo : ∀ m, 1 ≤ m → m ≤ 4 → ∃ τ, J_X6_translates_L40 jN M (nI i) (nI (80 * i + bgn t j)) (nI ((wd t).getD j []).length) (nI m) 0 (inS σ M 23 0) = some (.inl none, τ) ∧ MWd τ M (trW ks gs fs ss g m ((wd t).getD j []).length ((wd t).getD j [])) ∧ ai (qW M) (inS σ M 23 0) τ := fun m m1 m4 => by
    obtain ⟨τ, a1, a2, a3⟩ := s_M_translates_L hI hss m1 m4 hl ((wd t).getD j []).length jN 0 [] (inS σ M 23 0) (h.ai g0) (hR.ai g0 (fun j => ⟨qW_no (by omega) (by omega) j, qW_no (by omega) (by omega) j, qW_no (by omega) (by omega) j, qW_no (by omega) (by omega) j⟩) (fun z => by unfold qW at z; omega)) (hT.ai g0 (fun j => ⟨qW_no (by omega) (by omega) j, qW_no (by omega) (by omega) j, qW_no (by omega) (by omega) j⟩)) (hW.ai g0 (fun j => qW_no (by omega) (by omega) j)) hA0 (by rw [List.length_nil]; omega) (by omega) (Nat.zero_le _) (by unfold jN; omega)
    rw [List.nil_append, Nat.sub_zero, List.drop_zero] at a2
    exact ⟨τ, a1, a2, a3⟩
  unfold J_X6_translates jj trC
  dsimp only
  rw [jcv_ok h.1 (s_M_beginOf h hT hj), jvI_ok, jcv_ok h.1 hlc, jvI_ok, jcv_ok h.1 hex, jvI_ok]
  by_cases c : (wd t).getD j [] ∈ E
  · rw [decide_eq_true c, if_neg (show ¬ bI true = 0 by decide), if_pos c, jpI_ok h.1]
    obtain ⟨τ, a1, a2, a3⟩ := hgo 1 (by omega) (by omega)
    exact ⟨τ, a1, a2, g0.tr a3⟩
  · rw [decide_eq_false c, if_pos (show bI false = 0 by decide), if_neg c, jpI_ok h.1]
    obtain ⟨τ, a1, a2, a3⟩ := hgo 4 (by omega) (by omega)
    exact ⟨τ, a1, a2, g0.tr a3⟩
