/-! The model's texts: words. -/
/-- text i of the model: what was typed, and its grade -/
def MT (σ : Hp) (M i : Nat) (t : List Nat) (g : Int32) : Prop := (i < 6 ∧ t.length ≤ 80 ∧ ∀ c ∈ t, c ≤ 26) ∧ inH σ (M + 9) i = nI t.length ∧ inH σ (M + 10) i = g ∧ ∀ k, k < 80 → inH σ (M + 8) (80 * i + k) = nI (t.getD k 0)
theorem MT.b {σ : Hp} {M i : Nat} {t : List Nat} {g : Int32} (h : MT σ M i t g) (k : Nat) : t.getD k 0 ≤ 26 := by
  by_cases hk : k < t.length
  · exact h.1.2.2 _ (getD_mem 0 hk)
  · simp [List.getD_eq_getElem?_getD, Nat.not_lt.mp hk]
theorem e80 (i k : Nat) : (80 : Int32) * nI i + nI k = nI (80 * i + k) := (congrArg (· + nI k) (pk_mul 80 i)).trans (nI_add _ _)
theorem s_M_isBegin {σ : Hp} {M i : Nat} {t : List Nat} {g : Int32} (h : MH σ M) (hT : MT σ M i t g) {k : Nat} (hk : k < 80) : J_X6_isBegin M (nI i) (nI k) σ = some (.inl (some (.int (bI (bg t k)))), σ) := by
  obtain ⟨⟨hi, h1, h2⟩, h3, h4, h5⟩ := hT
  have hb := MT.b (σ := σ) (M := M) (i := i) (g := g) ⟨⟨hi, h1, h2⟩, h3, h4, h5⟩
  have hbk := hb k
  have hbk1 := hb (k - 1)
  unfold J_X6_isBegin bg
  rw [e80, mrd h (f := 11) (c := 8) (r := 480) (by decide) (by omega), h5 k hk]
  by_cases c : t.getD k 0 = 0
  · rw [if_pos (by rw [c]; exact nI_le (a := 0) (b := 0) (Nat.le_refl _) (by omega)), jrt_0, decide_eq_false (fun z => z.1 c)]
    rfl
  · rw [if_neg (nI_nle (by omega) (by omega))]
    by_cases c0 : k = 0
    · rw [if_pos ((nI_z (by omega)).mpr c0), jrt_1, decide_eq_true ⟨c, Or.inl c0⟩]
      rfl
    · obtain ⟨k', rfl⟩ : ∃ k', k = k' + 1 := ⟨k - 1, by omega⟩
      rw [if_neg (nI_ne0 (by omega) (by omega)), show 80 * i + (k' + 1) = 80 * i + k' + 1 by omega, nI_pred, mrd h (f := 11) (c := 8) (r := 480) (by decide) (by omega), h5 k' (by omega)]
      rw [Nat.add_sub_cancel] at hbk1 ⊢
      by_cases c1 : t.getD k' 0 = 0
      · rw [if_pos ((nI_z (by omega)).mpr c1), jrt_1, decide_eq_true ⟨c, Or.inr c1⟩]
        rfl
      · rw [if_neg (nI_ne0 (by omega) (by omega)), jrt_0, decide_eq_false (fun z => z.2.elim c0 c1)]
        rfl
theorem bgs_len (t : List Nat) (k : Nat) : (bgs t k).length ≤ k := by
  have := List.length_filter_le (bg t) (List.range k)
  rw [List.length_range] at this
  exact this
theorem wd_len (t : List Nat) : (wd t).length = (bgs t t.length).length := by rw [wd_at, List.length_map]
theorem s_M_wordsOf {σ : Hp} {M i : Nat} {t : List Nat} {g : Int32} (h : MH σ M) (hT : MT σ M i t g) : J_X6_wordsOf M (nI i) σ = some (.inl (some (.int (nI (wd t).length))), σ) := by
  have hTT := hT
  obtain ⟨⟨hi, h1, h2⟩, h3, h4, h5⟩ := hT
  have loop : ∀ (d m k : Nat), t.length - k = d → k ≤ t.length → d < m → J_X6_wordsOf_L4 m M (nI i) (nI (bgs t k).length) (nI k) σ = some (.inl (some (.int (nI (bgs t t.length).length))), σ) := by
    intro d
    induction d with
    | zero =>
      intro m k hd hk hm
      obtain ⟨m, rfl⟩ : ∃ z, m = z + 1 := ⟨m - 1, by omega⟩
      show J_X6_wordsOf_L4b (J_X6_wordsOf_L4 m) M (nI i) (nI (bgs t k).length) (nI k) σ = _
      unfold J_X6_wordsOf_L4b
      rw [mrd h (f := 12) (c := 9) (r := 6) (by decide) hi, h3, if_pos (nI_le (by omega) (by omega)), show k = t.length by omega]
    | succ d ih =>
      intro m k hd hk hm
      obtain ⟨m, rfl⟩ : ∃ z, m = z + 1 := ⟨m - 1, by omega⟩
      have hih := ih m (k + 1) (by omega) (by omega) (by omega)
      rw [bgs_succ] at hih
      show J_X6_wordsOf_L4b (J_X6_wordsOf_L4 m) M (nI i) (nI (bgs t k).length) (nI k) σ = _
      unfold J_X6_wordsOf_L4b jj
      dsimp only
      rw [mrd h (f := 12) (c := 9) (r := 6) (by decide) hi, h3, if_neg (nI_ge (by omega) (by omega)), jcv_ok h.1 (s_M_isBegin h hTT (by omega)), jvI_ok]
      cases c : bg t k
      · rw [c, if_neg (by decide)] at hih
        rw [if_pos (by decide), nI_1, show nI (bgs t k).length + 0 = nI (bgs t k).length from nI_add _ 0]
        exact hih
      · rw [c, if_pos rfl, List.length_append] at hih
        rw [if_neg (by decide), nI_1, nI_1]
        exact hih
  rw [wd_len]
  exact loop t.length jN 0 rfl (Nat.zero_le _) (by unfold jN; omega)
theorem bgs_at (t : List Nat) : ∀ (n j : Nat), j < (bgs t n).length → (bgs t n).getD j 0 < n ∧ bg t ((bgs t n).getD j 0) = true ∧ (bgs t ((bgs t n).getD j 0)).length = j
  | 0, j, h => by simp [bgs] at h
  | n + 1, j, h => by
    rw [bgs_succ] at h ⊢
    by_cases c : bg t n = true
    · rw [if_pos c] at h ⊢
      rw [List.length_append] at h
      simp only [List.length_cons, List.length_nil] at h
      by_cases e : j < (bgs t n).length
      · have := bgs_at t n j e
        have e2 : (bgs t n ++ [n]).getD j 0 = (bgs t n).getD j 0 := by simp [List.getD_eq_getElem?_getD, List.getElem?_append_left e]
        rw [e2]
        exact ⟨by omega, this.2⟩
      · have e1 : j = (bgs t n).length := by omega
        have e2 : (bgs t n ++ [n]).getD j 0 = n := by
          subst e1
          simp [List.getD_eq_getElem?_getD]
        rw [e2]
        exact ⟨by omega, c, e1.symm⟩
    · rw [if_neg c] at h ⊢
      have := bgs_at t n j h
      exact ⟨by omega, this.2⟩
theorem bgs_mono (t : List Nat) {a b : Nat} (h : a ≤ b) : (bgs t a).length ≤ (bgs t b).length := by
  induction b with
  | zero => rw [Nat.le_zero.mp h]; exact Nat.le_refl _
  | succ b ih =>
    by_cases e : a = b + 1
    · rw [e]; exact Nat.le_refl _
    · have := ih (by omega)
      rw [bgs_succ]
      split
      · rw [List.length_append]; omega
      · exact this
/-- where word j begins -/
def bgn (t : List Nat) (j : Nat) : Nat := (bgs t t.length).getD j 0
theorem s_M_beginOf {σ : Hp} {M i : Nat} {t : List Nat} {g : Int32} (h : MH σ M) (hT : MT σ M i t g) {j : Nat} (hj : j < (wd t).length) : J_X6_beginOf M (nI i) (nI j) σ = some (.inl (some (.int (nI (80 * i + bgn t j)))), σ) := by
  rw [wd_len] at hj
  obtain ⟨b1, b2, b3⟩ := bgs_at t t.length j hj
  have h80 := hT.1.2.1
  show J_X6_beginOf_L5 jN M (nI i) (nI j) (nI 0) σ = _
  have hbd : bgn t j = (bgs t t.length).getD j 0 := rfl
  rw [← hbd] at b1 b2 b3
  generalize bgn t j = b at *
  have loop : ∀ (d m k : Nat), b - k = d → k ≤ b → d < m → J_X6_beginOf_L5 m M (nI i) (nI (j - (bgs t k).length)) (nI k) σ = some (.inl (some (.int (nI (80 * i + b)))), σ) := by
    intro d
    induction d with
    | zero =>
      intro m k hd hk hm
      obtain ⟨m, rfl⟩ : ∃ z, m = z + 1 := ⟨m - 1, by omega⟩
      obtain rfl : k = b := by omega
      show J_X6_beginOf_L5b (J_X6_beginOf_L5 m) M (nI i) (nI (j - (bgs t k).length)) (nI k) σ = _
      unfold J_X6_beginOf_L5b jj
      dsimp only
      rw [jcv_ok h.1 (s_M_isBegin h hT (by omega)), jvI_ok, b2, if_neg (by decide), b3, Nat.sub_self, if_pos (show nI 0 ≤ 0 from nI_le (b := 0) (Nat.le_refl _) (by omega)), e80]
    | succ d ih =>
      intro m k hd hk hm
      obtain ⟨m, rfl⟩ : ∃ z, m = z + 1 := ⟨m - 1, by omega⟩
      have hih := ih m (k + 1) (by omega) (by omega) (by omega)
      have hmo := bgs_mono t (show k + 1 ≤ b by omega)
      have hjb := bgs_len t b
      rw [bgs_succ] at hih hmo
      have hib := s_M_isBegin h hT (k := k) (by omega)
      show J_X6_beginOf_L5b (J_X6_beginOf_L5 m) M (nI i) (nI (j - (bgs t k).length)) (nI k) σ = _
      unfold J_X6_beginOf_L5b jj
      dsimp only
      cases c : bg t k
      · rw [c] at hib
        rw [c, if_neg (by decide)] at hih
        rw [jcv_ok h.1 hib, jvI_ok, if_pos (by decide), jcv_ok h.1 hib, jvI_ok, if_pos (by decide), nI_1, show nI (j - (bgs t k).length) - 0 = nI (j - (bgs t k).length) from pk_sub (b := 0) (Nat.zero_le _)]
        exact hih
      · rw [c] at hib
        rw [c, if_pos rfl, List.length_append] at hih hmo
        simp only [List.length_cons, List.length_nil] at hih hmo
        rw [jcv_ok h.1 hib, jvI_ok, if_neg (by decide), if_neg (nI_nle (by omega) (by omega)), jcv_ok h.1 hib, jvI_ok, if_neg (by decide), nI_1, show nI (j - (bgs t k).length) - 1 = nI (j - ((bgs t k).length + 1)) from (pk_sub (b := 1) (by omega)).trans (by rw [Nat.sub_sub])]
        exact hih
  have := loop b jN 0 rfl (Nat.zero_le _) (by unfold jN; omega)
  exact this
theorem s_M_letterCount {σ : Hp} {M i : Nat} {t : List Nat} {g : Int32} (h : MH σ M) (hT : MT σ M i t g) {b : Nat} (hb : b < t.length) : J_X6_letterCount M (nI i) (nI (80 * i + b)) σ = some (.inl (some (.int (nI (wdt t b).length))), σ) := by
  have hTb := hT.b
  obtain ⟨⟨hi, h1, h2⟩, h3, h4, h5⟩ := hT
  have loop : ∀ (d m n : Nat), t.length - (b + n) = d → b + n ≤ t.length → d < m → J_X6_letterCount_L15 m M (nI (80 * i + b)) (nI (80 * i + t.length)) (nI n) σ = some (.inl (some (.int (nI (n + (wdt t (b + n)).length)))), σ) := by
    intro d
    induction d with
    | zero =>
      intro m n hd hn hm
      obtain ⟨m, rfl⟩ : ∃ z, m = z + 1 := ⟨m - 1, by omega⟩
      show J_X6_letterCount_L15b (J_X6_letterCount_L15 m) M (nI (80 * i + b)) (nI (80 * i + t.length)) (nI n) σ = _
      unfold J_X6_letterCount_L15b
      rw [nI_add, if_pos (nI_le (by omega) (by omega))]
      unfold wdt
      rw [List.drop_of_length_le (by omega)]
      rfl
    | succ d ih =>
      intro m n hd hn hm
      obtain ⟨m, rfl⟩ : ∃ z, m = z + 1 := ⟨m - 1, by omega⟩
      have hc := hTb (b + n)
      have ew : wdt t (b + n) = if t.getD (b + n) 0 = 0 then [] else t.getD (b + n) 0 :: wdt t (b + n + 1) := by
        unfold wdt
        rw [List.drop_eq_getElem_cons (show b + n < t.length by omega), List.takeWhile_cons]
        have : t.getD (b + n) 0 = t[b + n] := by simp [List.getD_eq_getElem?_getD, show b + n < t.length by omega]
        rw [this]
        by_cases c : t[b + n] = 0
        · rw [if_pos c, if_neg (by simpa using c)]
        · rw [if_neg c, if_pos (by simpa using c)]
      show J_X6_letterCount_L15b (J_X6_letterCount_L15 m) M (nI (80 * i + b)) (nI (80 * i + t.length)) (nI n) σ = _
      unfold J_X6_letterCount_L15b
      rw [nI_add, if_neg (nI_ge (by omega) (by omega)), mrd h (f := 11) (c := 8) (r := 480) (by decide) (by omega), Nat.add_assoc, h5 (b + n) (by omega), ew]
      by_cases c : t.getD (b + n) 0 = 0
      · rw [if_pos (by rw [c]; exact nI_le (a := 0) (b := 0) (Nat.le_refl _) (by omega)), if_pos c]
        rfl
      · rw [if_neg (nI_nle (by omega) (by omega)), if_neg c, nI_1, ih m (n + 1) (by omega) (by omega) (by omega), List.length_cons]
        rw [show n + ((wdt t (b + n + 1)).length + 1) = n + 1 + (wdt t (b + (n + 1))).length from by
          rw [show b + (n + 1) = b + n + 1 by omega]
          omega]
  unfold J_X6_letterCount
  rw [mrd h (f := 12) (c := 9) (r := 6) (by decide) hi, h3, e80]
  have := loop (t.length - b) jN 0 rfl (by omega) (by unfold jN; omega)
  rw [Nat.zero_add, Nat.add_zero] at this
  exact this
