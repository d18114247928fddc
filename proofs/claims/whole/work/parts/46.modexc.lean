/-! The model's exceptions, and rules that stand somewhere. -/
/-- the model's exceptions -/
def MX (σ : Hp) (M : Nat) (E : List (List Nat)) : Prop := inH σ M 10 = nI E.length ∧ E.length ≤ 20 ∧ ∀ e, e < E.length → (E.getD e []).length ≤ 80 ∧ lts (E.getD e []) ∧ inH σ (M + 7) e = nI (E.getD e []).length ∧ ∀ k, k < (E.getD e []).length → inH σ (M + 6) (80 * e + k) = nI ((E.getD e []).getD k 0)
/-- letters in the model's row of texts -/
def MW (σ : Hp) (M a : Nat) (w : List Nat) : Prop := a + w.length ≤ 480 ∧ lts w ∧ ∀ k, k < w.length → inH σ (M + 8) (a + k) = nI (w.getD k 0)
theorem dropN {l : List Nat} {k : Nat} (h : k < l.length) : l.drop k = l.getD k 0 :: l.drop (k + 1) := by
  rw [List.drop_eq_getElem_cons h]
  simp [List.getD_eq_getElem?_getD, h]
theorem s_M_isThis {σ : Hp} {M : Nat} (h : MH σ M) {E : List (List Nat)} (hX : MX σ M E) {e : Nat} (he : e < E.length) {a : Nat} {w : List Nat} (hw : MW σ M a w) : J_X6_isThis M (nI e) (nI a) (nI w.length) σ = some (.inl (some (.int (bI (decide (E.getD e [] = w))))), σ) := by
  obtain ⟨x1, x2, x3⟩ := hX
  obtain ⟨y1, y2, y3, y4⟩ := x3 e he
  obtain ⟨w1, w2, w3⟩ := hw
  have no : ∀ (m k : Nat), J_X6_isThis_L20 (m + 1) M (nI e) (nI a) (nI w.length) 0 (nI k) σ = some (.inl (some (.int 0)), σ) := fun m k => by
    show J_X6_isThis_L20b (J_X6_isThis_L20 m) M (nI e) (nI a) (nI w.length) 0 (nI k) σ = _
    unfold J_X6_isThis_L20b
    rw [if_pos rfl, jrt_0]
    split <;> rfl
  have loop : ∀ (d m k : Nat), (E.getD e []).length = w.length → w.length - k = d → k ≤ w.length → d < m → J_X6_isThis_L20 (m + 1) M (nI e) (nI a) (nI w.length) 1 (nI k) σ = some (.inl (some (.int (bI (decide ((E.getD e []).drop k = w.drop k))))), σ) := by
    intro d
    induction d with
    | zero =>
      intro m k hl hd hk hm
      show J_X6_isThis_L20b (J_X6_isThis_L20 m) M (nI e) (nI a) (nI w.length) 1 (nI k) σ = _
      unfold J_X6_isThis_L20b
      rw [if_pos (nI_le (by omega) (by omega)), jrt_1, List.drop_of_length_le (by omega), List.drop_of_length_le (by omega)]
      rfl
    | succ d ih =>
      intro m k hl hd hk hm
      obtain ⟨m, rfl⟩ : ∃ z, m = z + 1 := ⟨m - 1, by omega⟩
      have b1 := y2.p (i := k) (by omega)
      have b2 := w2.p (i := k) (by omega)
      show J_X6_isThis_L20b (J_X6_isThis_L20 (m + 1)) M (nI e) (nI a) (nI w.length) 1 (nI k) σ = _
      unfold J_X6_isThis_L20b jj
      dsimp only
      rw [if_neg (nI_ge (by omega) (by omega)), if_neg (by decide), e80, mrd h (f := 8) (c := 6) (r := 1600) (by decide) (by omega), nI_add, mrd h (f := 11) (c := 8) (r := 480) (by decide) (by omega), y4 k (by omega), w3 k (by omega), nI_1, dropN (l := E.getD e []) (by omega), dropN (l := w) (by omega)]
      by_cases c : (E.getD e []).getD k 0 = w.getD k 0
      · rw [if_pos (by rw [c]), ih m (k + 1) hl (by omega) (by omega) (by omega), c]
        simp
      · rw [if_neg (fun z => c ((nI_eq (by omega) (by omega)).mp z)), no, decide_eq_false (fun z => c (List.cons.inj z).1)]
        rfl
  unfold J_X6_isThis jj
  dsimp only
  rw [mrd h (f := 9) (c := 7) (r := 20) (by decide) (by omega), y3]
  by_cases c : (E.getD e []).length = w.length
  · rw [if_pos (by rw [c])]
    have := loop w.length 99999 0 c rfl (Nat.zero_le _) (by omega)
    rw [List.drop_zero, List.drop_zero] at this
    exact this
  · rw [if_neg (fun z => c ((nI_eq (by omega) (by omega)).mp z)), decide_eq_false (fun z => c (by rw [z]))]
    exact no 99999 0
theorem s_M_isException {σ : Hp} {M : Nat} (h : MH σ M) {E : List (List Nat)} (hX : MX σ M E) {a : Nat} {w : List Nat} (hw : MW σ M a w) : J_X6_isException M (nI a) (nI w.length) σ = some (.inl (some (.int (bI (decide (w ∈ E))))), σ) := by
  have hX' := hX
  obtain ⟨x1, x2, x3⟩ := hX
  have loop : ∀ (d m e : Nat) (f : Bool), E.length - e = d → e ≤ E.length → d < m → J_X6_isException_L5 m M (nI a) (nI w.length) (bI f) (nI e) σ = some (.inl (some (.int (bI (f || decide (w ∈ E.drop e))))), σ) := by
    intro d
    induction d with
    | zero =>
      intro m e f hd he hm
      obtain ⟨m, rfl⟩ : ∃ z, m = z + 1 := ⟨m - 1, by omega⟩
      show J_X6_isException_L5b (J_X6_isException_L5 m) M (nI a) (nI w.length) (bI f) (nI e) σ = _
      unfold J_X6_isException_L5b
      rw [jgI_ok h.1, x1, if_pos (nI_le (by omega) (by omega)), bI_nar, List.drop_of_length_le (by omega)]
      simp
    | succ d ih =>
      intro m e f hd he hm
      obtain ⟨m, rfl⟩ : ∃ z, m = z + 1 := ⟨m - 1, by omega⟩
      have ed : E.drop e = E.getD e [] :: E.drop (e + 1) := by
        rw [List.drop_eq_getElem_cons (show e < E.length by omega)]
        simp [List.getD_eq_getElem?_getD, show e < E.length by omega]
      show J_X6_isException_L5b (J_X6_isException_L5 m) M (nI a) (nI w.length) (bI f) (nI e) σ = _
      unfold J_X6_isException_L5b jj
      dsimp only
      rw [jgI_ok h.1, x1, if_neg (nI_ge (by omega) (by omega)), nI_1, ed]
      cases f
      · rw [if_pos (show bI false = 0 by decide), jcv_ok h.1 (s_M_isThis h hX' (by omega) hw), jvI_ok]
        by_cases c : E.getD e [] = w
        · rw [decide_eq_true c, if_neg (show ¬ bI true = 0 by decide), show (1 : Int32) = bI true from rfl, ih m (e + 1) true (by omega) (by omega) (by omega), c]
          simp
        · rw [decide_eq_false c, if_pos (show bI false = 0 by decide), show (0 : Int32) = bI false from rfl, ih m (e + 1) false (by omega) (by omega) (by omega)]
          have : ¬ w = E.getD e [] := fun z => c z.symm
          simp only [Bool.false_or, List.mem_cons, this, false_or]
      · rw [if_neg (show ¬ bI true = 0 by decide), show (1 : Int32) = bI true from rfl, ih m (e + 1) true (by omega) (by omega) (by omega)]
        simp
  have := loop E.length jN 0 false rfl (Nat.zero_le _) (by unfold jN; omega)
  rw [Bool.false_or, List.drop_zero] at this
  exact this
