/-! The model translates a word: the call. -/
theorem wd_getD {t : List Nat} {j : Nat} (hj : j < (wd t).length) : (wd t).getD j [] = wdt t (bgn t j) ∧ bgn t j < t.length := by
  have hj' := hj
  rw [wd_len] at hj'
  refine ⟨?_, (bgs_at t t.length j hj').1⟩
  have e := wd_at t
  unfold bgn
  rw [e]
  simp [List.getD_eq_getElem?_getD, hj']
theorem wdt_MW {σ : Hp} {M i : Nat} {t : List Nat} {g : Int32} (hT : MT σ M i t g) {j : Nat} (hj : j < (wd t).length) : MW σ M (80 * i + bgn t j) ((wd t).getD j []) ∧ ((wd t).getD j []).length ≤ 80 := by
  obtain ⟨e1, e2⟩ := wd_getD hj
  obtain ⟨⟨h1, h2, h3⟩, h4, h5, h6⟩ := hT
  have hI := wd_I h3 h2
  have hm := getl_mem hj
  have hle : (wdt t (bgn t j)).length ≤ t.length - bgn t j := by
    have := (List.takeWhile_sublist (fun c => decide (c ≠ 0)) (l := t.drop (bgn t j))).length_le
    rw [List.length_drop] at this
    exact this
  rw [← e1] at hle
  refine ⟨⟨by omega, (hI.1 _ hm).1, fun k hk => ?_⟩, by omega⟩
  rw [Nat.add_assoc, h6 _ (by omega), e1]
  rw [e1] at hk
  congr 1
  have hp : wdt t (bgn t j) <+: t.drop (bgn t j) := List.takeWhile_prefix _
  obtain ⟨r, hr⟩ := hp
  have : (t.drop (bgn t j)).getD k 0 = (wdt t (bgn t j)).getD k 0 := by
    rw [← hr]
    simp [List.getD_eq_getElem?_getD, List.getElem?_append_left hk]
  rw [← this]
  simp [List.getD_eq_getElem?_getD, List.getElem?_drop]
