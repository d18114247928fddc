/-! The model's longest rule is the class's. -/
theorem k27_inj {v w : List Nat} (hv : lts v) (hw : lts w) (hv4 : v.length ≤ 4) (hw4 : w.length ≤ 4) (e : k27 v = k27 w) : v = w := by
  have dg : ∀ k, k < 4 → v.getD k 0 = w.getD k 0 := fun k hk => by rw [← k27_dig hv hk, ← k27_dig hw hk, e]
  have hl : v.length = w.length := by
    apply Classical.byContradiction
    intro z
    rcases Nat.lt_or_gt_of_ne z with y | y
    · have h1 := dg v.length (by omega)
      have h2 := hw.p y
      have h3 : v.getD v.length 0 = 0 := by simp [List.getD_eq_getElem?_getD]
      omega
    · have h1 := dg w.length (by omega)
      have h2 := hv.p y
      have h3 : w.getD w.length 0 = 0 := by simp [List.getD_eq_getElem?_getD]
      omega
  apply List.ext_getElem hl
  intro k h1 h2
  have := dg k (by omega)
  simpa [List.getD_eq_getElem?_getD, h1, h2] using this
/-- the letters of the rules -/
def RW (ks : List Nat) (wf : Nat → List Nat) : Prop := ∀ i, i < ks.length → lts (wf i) ∧ 1 ≤ (wf i).length ∧ (wf i).length ≤ 4 ∧ ks.getD i 0 = k27 (wf i)
theorem RubI.rw {ks : List Nat} {gs fs ss : List Int32} {E : List (List Nat)} (h : RubI ks gs fs ss E) : ∃ wf, RW ks wf := by
  refine Classical.axiomOfChoice (r := fun i w => i < ks.length → lts w ∧ 1 ≤ w.length ∧ w.length ≤ 4 ∧ ks.getD i 0 = k27 w) (fun i => ?_)
  by_cases hi : i < ks.length
  · obtain ⟨w, w1, w2, w3, w4⟩ := h.2.2.2.1 _ (getD_mem 0 hi)
    exact ⟨w, fun _ => ⟨w1, w2, w3, w4⟩⟩
  · exact ⟨[], fun z => (hi z).elim⟩
theorem s_M_stands {σ : Hp} {M : Nat} (h : MH σ M) {ks : List Nat} {gs fs ss : List Int32} (hR : MR σ M ks gs fs ss) {wf : Nat → List Nat} (hF : RW ks wf) {i : Nat} (hi : i < ks.length) {a : Nat} {v : List Nat} (hv : MW σ M a v) : J_X6_stands M (nI i) (nI a) (nI v.length) σ = some (.inl (some (.int (bI (decide ((wf i).length ≤ v.length ∧ wf i = v.take (wf i).length))))), σ) := by
  obtain ⟨f1, f2, f3, f4⟩ := hF i hi
  obtain ⟨v1, v2, v3⟩ := hv
  have no : ∀ (m k : Nat), J_X6_stands_L23 (m + 1) M (nI i) (nI a) (nI (wf i).length) 0 (nI k) σ = some (.inl (some (.int 0)), σ) := fun m k => by
    show J_X6_stands_L23b (J_X6_stands_L23 m) M (nI i) (nI a) (nI (wf i).length) 0 (nI k) σ = _
    unfold J_X6_stands_L23b
    rw [if_pos rfl, jrt_0]
    split <;> rfl
  have loop : ∀ (d m k : Nat), (wf i).length ≤ v.length → (wf i).length - k = d → k ≤ (wf i).length → d < m → J_X6_stands_L23 (m + 1) M (nI i) (nI a) (nI (wf i).length) 1 (nI k) σ = some (.inl (some (.int (bI (decide ((wf i).drop k = (v.take (wf i).length).drop k))))), σ) := by
    intro d
    induction d with
    | zero =>
      intro m k hl hd hk hm
      show J_X6_stands_L23b (J_X6_stands_L23 m) M (nI i) (nI a) (nI (wf i).length) 1 (nI k) σ = _
      unfold J_X6_stands_L23b
      rw [if_pos (nI_le (by omega) (by omega)), jrt_1, List.drop_of_length_le (by omega), List.drop_of_length_le (by rw [List.length_take]; omega)]
      rfl
    | succ d ih =>
      intro m k hl hd hk hm
      obtain ⟨m, rfl⟩ : ∃ z, m = z + 1 := ⟨m - 1, by omega⟩
      have b1 := f1.p (i := k) (by omega)
      have b2 := v2.p (i := k) (by omega)
      have et : (v.take (wf i).length).getD k 0 = v.getD k 0 := by simp [List.getD_eq_getElem?_getD, List.getElem?_take, show k < (wf i).length by omega]
      show J_X6_stands_L23b (J_X6_stands_L23 (m + 1)) M (nI i) (nI a) (nI (wf i).length) 1 (nI k) σ = _
      unfold J_X6_stands_L23b jj
      dsimp only
      rw [if_neg (nI_ge (by omega) (by omega)), if_neg (by decide), jcv_ok h.1 (s_M_letterOf h hR hi (by omega) f1 f4), jvI_ok, nI_add, mrd h (f := 11) (c := 8) (r := 480) (by decide) (by omega), v3 k (by omega), nI_1, dropN (l := wf i) (by omega), dropN (l := v.take (wf i).length) (by rw [List.length_take]; omega), et]
      by_cases c : (wf i).getD k 0 = v.getD k 0
      · rw [if_pos (by rw [c]), ih m (k + 1) hl (by omega) (by omega) (by omega), c]
        simp
      · rw [if_neg (fun z => c ((nI_eq (by omega) (by omega)).mp z)), no, decide_eq_false (fun z => c (List.cons.inj z).1)]
        rfl
  unfold J_X6_stands jj
  dsimp only
  rw [jcv_ok h.1 (s_M_lengthOf h hR hi f1 f3 f4), jvI_ok]
  by_cases c : (wf i).length ≤ v.length
  · rw [if_neg (nI_nlt c (by omega))]
    have := loop (wf i).length 99999 0 c rfl (Nat.zero_le _) (by omega)
    rw [List.drop_zero, List.drop_zero] at this
    rw [show decide ((wf i).length ≤ v.length ∧ wf i = v.take (wf i).length) = decide (wf i = v.take (wf i).length) from by simp [c]]
    exact this
  · rw [if_pos (nI_lt (by omega) (by omega)), decide_eq_false (fun z => c z.1)]
    exact no 99999 0
