/-! The model's buffer as a rule's letters; its rows of rules. -/
section MODRU
variable {σ : Hp} {M : Nat} {buf : List Nat}
theorem m_hasBlank (h : MH σ M) (hB : MB σ M buf) (hb : buf.length ≤ 80) (h26 : ∀ c ∈ buf, c ≤ 26) : J_X6_hasBlank M σ = some (.inl (some (.int (bI (decide (0 ∈ buf))))), σ) := by
  have loop : ∀ (d m k : Nat) (f : Bool), buf.length - k = d → k ≤ buf.length → d < m → J_X6_hasBlank_L4 m M (bI f) (nI k) σ = some (.inl (some (.int (bI (f || decide (0 ∈ buf.drop k))))), σ) := by
    intro d
    induction d with
    | zero =>
      intro m k f hd hk hm
      obtain ⟨m, rfl⟩ : ∃ z, m = z + 1 := ⟨m - 1, by omega⟩
      show J_X6_hasBlank_L4b (J_X6_hasBlank_L4 m) M (bI f) (nI k) σ = _
      unfold J_X6_hasBlank_L4b
      rw [jgI_ok h.1, hB.1, if_pos (nI_le (by omega) (by omega)), bI_nar, List.drop_of_length_le (by omega)]
      simp
    | succ d ih =>
      intro m k f hd hk hm
      obtain ⟨m, rfl⟩ : ∃ z, m = z + 1 := ⟨m - 1, by omega⟩
      have hkl : k < buf.length := by omega
      have hc := h26 _ (getD_mem 0 hkl)
      have i1 := ih m (k + 1) true (by omega) (by omega) (by omega)
      have i0 := ih m (k + 1) false (by omega) (by omega) (by omega)
      rw [show bI true = 1 from rfl] at i1
      rw [show bI false = 0 from rfl, Bool.false_or] at i0
      show J_X6_hasBlank_L4b (J_X6_hasBlank_L4 m) M (bI f) (nI k) σ = _
      unfold J_X6_hasBlank_L4b jj
      dsimp only
      rw [jgI_ok h.1, hB.1, if_neg (nI_ge hkl (by omega)), nI_1, dropN hkl]
      cases f
      · rw [if_pos (show bI false = 0 by decide), mrd h (f := 1) (c := 1) (r := 80) (by decide) (by omega), hB.2 k hkl]
        by_cases c : buf.getD k 0 = 0
        · rw [if_pos ((nI_z (by omega)).mpr c), i1, c]
          simp
        · rw [if_neg (fun z => c ((nI_z (by omega)).mp z)), i0]
          have : ¬ 0 = buf.getD k 0 := fun z => c z.symm
          simp only [Bool.false_or, List.mem_cons, this, false_or]
      · rw [if_neg (show ¬ bI true = 0 by decide), i1]
        simp
  have := loop buf.length jN 0 false rfl (Nat.zero_le _) (by unfold jN; omega)
  rw [Bool.false_or, List.drop_zero] at this
  exact this
theorem rkey_b : rkey buf ↔ (1 ≤ buf.length ∧ buf.length ≤ 4) ∧ 0 ∉ buf := by
  unfold rkey
  constructor
  · intro ⟨a, b, c⟩
    exact ⟨⟨a, b⟩, fun z => c 0 z rfl⟩
  · intro ⟨⟨a, b⟩, c⟩
    exact ⟨a, b, fun x hx z => c (z ▸ hx)⟩
theorem m_letters (h : MH σ M) (hB : MB σ M buf) (hb : buf.length ≤ 80) (h26 : ∀ c ∈ buf, c ≤ 26) : (rkey buf → J_X6_ruleLetters M σ = some (.inl (some (.int (nI (k27 buf)))), σ)) ∧ (¬ rkey buf → J_X6_ruleLetters M σ = some (.inl (some (.int (-1))), σ)) := by
  have step : ∀ (m a k : Nat), k < 4 → J_X6_ruleLetters_L25 (m + 1) M (nI a) (nI k) σ = J_X6_ruleLetters_L25 m M (nI (27 * a + buf.getD k 0)) (nI (k + 1)) σ := by
    intro m a k hk
    show J_X6_ruleLetters_L25b (J_X6_ruleLetters_L25 m) M (nI a) (nI k) σ = _
    unfold J_X6_ruleLetters_L25b jj
    dsimp only
    rw [if_neg (show ¬ (4 : Int32) ≤ nI k from nI_ge (b := 4) (by omega) (by omega)), jgI_ok h.1, hB.1, show (27 : Int32) * nI a = nI (27 * a) from pk_mul 27 a, nI_1]
    by_cases c : buf.length ≤ k
    · rw [if_pos (nI_le c (by omega)), show nI (27 * a) + 0 = nI (27 * a) from nI_add _ 0]
      have : buf.getD k 0 = 0 := by simp [List.getD_eq_getElem?_getD, c]
      rw [this, Nat.add_zero (27 * a)]
    · rw [if_neg (nI_ge (by omega) (by omega)), mrd h (f := 1) (c := 1) (r := 80) (by decide) (by omega), hB.2 k (by omega), nI_add]
  have last : ∀ (m : Nat) (v : Int32), J_X6_ruleLetters_L25 (m + 1) M v (nI 4) σ = some (.inl (some (.int v)), σ) := fun m v => by
    show J_X6_ruleLetters_L25b (J_X6_ruleLetters_L25 m) M v (nI 4) σ = _
    unfold J_X6_ruleLetters_L25b
    rw [if_pos (by decide)]
  have all : J_X6_ruleLetters_L25 jN M 0 0 σ = some (.inl (some (.int (nI (k27 buf)))), σ) := by
    have e := step 99999 0 0 (by omega)
    rw [nI_0] at e
    show J_X6_ruleLetters_L25 (99999 + 1) M 0 0 σ = _
    rw [e, show (99999 : Nat) = 99998 + 1 from rfl, step _ _ _ (by omega), show (99998 : Nat) = 99997 + 1 from rfl, step _ _ _ (by omega), show (99997 : Nat) = 99996 + 1 from rfl, step _ _ _ (by omega), show (99996 : Nat) = 99995 + 1 from rfl, last]
    unfold k27
    rw [show 27 * (27 * (27 * (27 * 0 + buf.getD 0 0) + buf.getD (0 + 1) 0) + buf.getD (0 + 1 + 1) 0) + buf.getD (0 + 1 + 1 + 1) 0 = ((buf.getD 0 0 * 27 + buf.getD 1 0) * 27 + buf.getD 2 0) * 27 + buf.getD 3 0 by simp only [Nat.zero_add, Nat.reduceAdd]; omega]
  have hin : inR (nI buf.length) 1 4 ↔ 1 ≤ buf.length ∧ buf.length ≤ 4 := by
    unfold inR
    constructor
    · intro ⟨a, b⟩
      refine ⟨Classical.byContradiction (fun z => a (nI_lt (b := 1) (by omega) (by omega))), Classical.byContradiction (fun z => b (nI_lt (a := 4) (by omega) (by omega)))⟩
    · intro ⟨a, b⟩
      exact ⟨nI_nlt (b := 1) a (by omega), nI_nlt (a := 4) b (by omega)⟩
  unfold J_X6_ruleLetters
  rw [jgI_ok h.1, hB.1]
  by_cases c1 : 1 ≤ buf.length ∧ buf.length ≤ 4
  · rw [jcs_ok ((m_in_R _ 1 4).1 (hin.mpr c1)), jvI_ok, if_neg (by decide), jcv_ok h.1 (m_hasBlank h hB hb h26), jvI_ok]
    by_cases c2 : 0 ∈ buf
    · rw [decide_eq_true c2, if_neg (show ¬ bI true = 0 by decide)]
      exact ⟨fun z => ((rkey_b.mp z).2 c2).elim, fun _ => rfl⟩
    · rw [decide_eq_false c2, if_pos (show bI false = 0 by decide)]
      exact ⟨fun _ => all, fun z => (z (rkey_b.mpr ⟨c1, c2⟩)).elim⟩
  · rw [jcs_ok ((m_in_R _ 1 4).2 (fun z => c1 (hin.mp z))), jvI_ok, if_pos rfl]
    exact ⟨fun z => (c1 (rkey_b.mp z).1).elim, fun _ => rfl⟩
theorem m_fine (g x y : Int32) : (fineR g x y → J_X6_areFine g x y σ = some (.inl (some (.int 1)), σ)) ∧ (¬ fineR g x y → J_X6_areFine g x y σ = some (.inl (some (.int 0)), σ)) := by
  unfold J_X6_areFine fineR
  by_cases c1 : inR g 1 2
  · rw [jcs_ok ((m_in_R g 1 2).1 c1), jvI_ok, if_neg (by decide)]
    by_cases c2 : inR x 1 63
    · rw [jcs_ok ((m_in_R x 1 63).1 c2), jvI_ok, if_neg (by decide)]
      by_cases c3 : inR y 0 63
      · rw [jcs_ok ((m_in_R y 0 63).1 c3), jvI_ok, if_neg (by decide), jrt_1]
        exact ⟨fun _ => rfl, fun z => (z ⟨c1, c2, c3⟩).elim⟩
      · rw [jcs_ok ((m_in_R y 0 63).2 c3), jvI_ok, if_pos rfl, jrt_0]
        exact ⟨fun z => (c3 z.2.2).elim, fun _ => rfl⟩
    · rw [jcs_ok ((m_in_R x 1 63).2 c2), jvI_ok, if_pos rfl, jrt_0]
      exact ⟨fun z => (c2 z.2.1).elim, fun _ => rfl⟩
  · rw [jcs_ok ((m_in_R g 1 2).2 c1), jvI_ok, if_pos rfl, jrt_0]
    exact ⟨fun z => (c1 z.1).elim, fun _ => rfl⟩
/-- a row of the rules -/
def MRow (σ : Hp) (M i : Nat) (k g f s : Int32) : Prop := inH σ (M + 2) i = k ∧ inH σ (M + 3) i = g ∧ inH σ (M + 4) i = f ∧ inH σ (M + 5) i = s
def qR (M b : Nat) : Nat → Nat → Prop := fun a k => (M + 2 ≤ a ∧ a ≤ M + 5) ∧ k = b
theorem MRow.ai {τ : Hp} {b i : Nat} {k g f s : Int32} (h : MRow σ M i k g f s) (hg : ai (qR M b) σ τ) (hi : i ≠ b) : MRow τ M i k g f s := by
  obtain ⟨a, b, c, d⟩ := h
  exact ⟨by rw [hg.i (fun z => hi z.2)]; exact a, by rw [hg.i (fun z => hi z.2)]; exact b, by rw [hg.i (fun z => hi z.2)]; exact c, by rw [hg.i (fun z => hi z.2)]; exact d⟩
theorem m_moves (h : MH σ M) {a b : Nat} (ha : a < 40) (hb : b < 40) {k g f s : Int32} (hr : MRow σ M a k g f s) : ∃ τ, J_X6_moves M (nI a) (nI b) σ = some (.inl none, τ) ∧ MRow τ M b k g f s ∧ ai (qR M b) σ τ := by
  obtain ⟨r1, r2, r3, r4⟩ := hr
  have f3 := h.fr (f := 3) (c := 2) (r := 40) (by decide)
  have k3 := h.fk (f := 3) (c := 2) (r := 40) (by decide)
  have f4 := h.fr (f := 4) (c := 3) (r := 40) (by decide)
  have k4 := h.fk (f := 4) (c := 3) (r := 40) (by decide)
  have f5 := h.fr (f := 5) (c := 4) (r := 40) (by decide)
  have k5 := h.fk (f := 5) (c := 4) (r := 40) (by decide)
  have f6 := h.fr (f := 6) (c := 5) (r := 40) (by decide)
  have k6 := h.fk (f := 6) (c := 5) (r := 40) (by decide)
  have g1 : ai (qR M b) σ (inS (inS (inS (inS σ (M + 2) b k) (M + 3) b g) (M + 4) b f) (M + 5) b s) := (((ai_in (Q := qR M b) _ _ ⟨by omega, rfl⟩).tr (ai_in (Q := qR M b) _ _ ⟨by omega, rfl⟩)).tr (ai_in (Q := qR M b) _ _ ⟨by omega, rfl⟩)).tr (ai_in (Q := qR M b) _ _ ⟨by omega, rfl⟩)
  refine ⟨inS (inS (inS (inS σ (M + 2) b k) (M + 3) b g) (M + 4) b f) (M + 5) b s, ?_, ⟨?_, ?_, ?_, ?_⟩, g1⟩
  · unfold J_X6_moves
    rw [jgR_ok h.1, jgR_ok h.1, f3, jdr_ok, jaI_ok k3 ha (by decide), r1, jdr_ok, jsI_ok k3 hb (by decide)]
    rw [jgR_ok (by exact h.1), jgR_ok (by exact h.1), rf_inS, f4, jdr_ok, jaI_ok (by exact k4) ha (by decide), in_inS, if_neg (by omega), r2, jdr_ok, jsI_ok (by exact k4) hb (by decide)]
    rw [jgR_ok (by exact h.1), jgR_ok (by exact h.1), rf_inS, rf_inS, f5, jdr_ok, jaI_ok (by exact k5) ha (by decide), in_inS, if_neg (by omega), in_inS, if_neg (by omega), r3, jdr_ok, jsI_ok (by exact k5) hb (by decide)]
    rw [jgR_ok (by exact h.1), jgR_ok (by exact h.1), rf_inS, rf_inS, rf_inS, f6, jdr_ok, jaI_ok (by exact k6) ha (by decide), in_inS, if_neg (by omega), in_inS, if_neg (by omega), in_inS, if_neg (by omega), r4, jdr_ok, jsI_ok (by exact k6) hb (by decide)]
  · rw [in_inS, if_neg (by omega), in_inS, if_neg (by omega), in_inS, if_neg (by omega), in_inS, if_pos ⟨rfl, rfl⟩]
  · rw [in_inS, if_neg (by omega), in_inS, if_neg (by omega), in_inS, if_pos ⟨rfl, rfl⟩]
  · rw [in_inS, if_neg (by omega), in_inS, if_pos ⟨rfl, rfl⟩]
  · rw [in_inS, if_pos ⟨rfl, rfl⟩]
theorem m_puts (h : MH σ M) {b : Nat} (hb : b < 40) (k g f s : Int32) : ∃ τ, J_X6_puts M (nI b) k g f s σ = some (.inl none, τ) ∧ MRow τ M b k g f s ∧ ai (qR M b) σ τ := by
  have f3 := h.fr (f := 3) (c := 2) (r := 40) (by decide)
  have k3 := h.fk (f := 3) (c := 2) (r := 40) (by decide)
  have f4 := h.fr (f := 4) (c := 3) (r := 40) (by decide)
  have k4 := h.fk (f := 4) (c := 3) (r := 40) (by decide)
  have f5 := h.fr (f := 5) (c := 4) (r := 40) (by decide)
  have k5 := h.fk (f := 5) (c := 4) (r := 40) (by decide)
  have f6 := h.fr (f := 6) (c := 5) (r := 40) (by decide)
  have k6 := h.fk (f := 6) (c := 5) (r := 40) (by decide)
  have g1 : ai (qR M b) σ (inS (inS (inS (inS σ (M + 2) b k) (M + 3) b g) (M + 4) b f) (M + 5) b s) := (((ai_in (Q := qR M b) _ _ ⟨by omega, rfl⟩).tr (ai_in (Q := qR M b) _ _ ⟨by omega, rfl⟩)).tr (ai_in (Q := qR M b) _ _ ⟨by omega, rfl⟩)).tr (ai_in (Q := qR M b) _ _ ⟨by omega, rfl⟩)
  refine ⟨inS (inS (inS (inS σ (M + 2) b k) (M + 3) b g) (M + 4) b f) (M + 5) b s, ?_, ⟨?_, ?_, ?_, ?_⟩, g1⟩
  · unfold J_X6_puts
    rw [jgR_ok h.1, f3, jdr_ok, jsI_ok k3 hb (by decide)]
    rw [jgR_ok (by exact h.1), rf_inS, f4, jdr_ok, jsI_ok (by exact k4) hb (by decide)]
    rw [jgR_ok (by exact h.1), rf_inS, rf_inS, f5, jdr_ok, jsI_ok (by exact k5) hb (by decide)]
    rw [jgR_ok (by exact h.1), rf_inS, rf_inS, rf_inS, f6, jdr_ok, jsI_ok (by exact k6) hb (by decide)]
  · rw [in_inS, if_neg (by omega), in_inS, if_neg (by omega), in_inS, if_neg (by omega), in_inS, if_pos ⟨rfl, rfl⟩]
  · rw [in_inS, if_neg (by omega), in_inS, if_neg (by omega), in_inS, if_pos ⟨rfl, rfl⟩]
  · rw [in_inS, if_neg (by omega), in_inS, if_pos ⟨rfl, rfl⟩]
  · rw [in_inS, if_pos ⟨rfl, rfl⟩]
end MODRU
