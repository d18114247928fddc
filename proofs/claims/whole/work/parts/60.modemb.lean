/-! The model: is a line the one embossed last, how often is a pin struck, would it be worn. -/
theorem e100 (i k : Nat) : (100 : Int32) * nI i + nI k = nI (100 * i + k) := (congrArg (· + nI k) (pk_mul 100 i)).trans (nI_add _ _)
theorem dropI {l : List Int32} {k : Nat} (h : k < l.length) : l.drop k = l.getD k 0 :: l.drop (k + 1) := by
  rw [List.drop_eq_getElem_cons h]
  simp [List.getD_eq_getElem?_getD, h]
section MODEM
variable {σ : Hp} {M i j : Nat} {ls em : List (List Int32)}
theorem m_isEmb (h : MH σ M) (hE : ME σ M i em) (hL : ML σ M ls) (hi : i < 6) (hj : j < ls.length) : J_X6_isEmbossed M (nI i) (nI j) σ = some (.inl (some (.int (bI (shr ls em j)))), σ) := by
  obtain ⟨⟨m1, m2⟩, m3, m4⟩ := hE
  obtain ⟨l1, l2, l3⟩ := hL
  obtain ⟨n1, n2, n3⟩ := l3 j hj
  have h26 := h.fr (f := 26) (c := 19) (r := 100) (by decide)
  have k26 := h.fk (f := 26) (c := 19) (r := 100) (by decide)
  have loop : ∀ (d m k : Nat) (f : Bool), (f = true → j < em.length ∧ (em.getD j []).length = (ls.getD j []).length) → (ls.getD j []).length - k = d → k ≤ (ls.getD j []).length → d < m → J_X6_isEmbossed_L42 m M (nI j) (nI (100 * i + j)) (bI f) (nI k) σ = some (.inl (some (.int (bI (f && decide ((ls.getD j []).drop k = (em.getD j []).drop k))))), σ) := by
    intro d
    induction d with
    | zero =>
      intro m k f hf hd hk hm
      obtain ⟨m, rfl⟩ : ∃ z, m = z + 1 := ⟨m - 1, by omega⟩
      show J_X6_isEmbossed_L42b (J_X6_isEmbossed_L42 m) M (nI j) (nI (100 * i + j)) (bI f) (nI k) σ = _
      unfold J_X6_isEmbossed_L42b
      rw [jgR_ok h.1, h26, jdr_ok, jaI_ok k26 (by omega) (by decide), n2, if_pos (nI_le (by omega) (by omega)), bI_nar]
      cases f
      · rfl
      · have := hf rfl
        rw [List.drop_of_length_le (by omega), List.drop_of_length_le (by omega)]
        rfl
    | succ d ih =>
      intro m k f hf hd hk hm
      obtain ⟨m, rfl⟩ : ∃ z, m = z + 1 := ⟨m - 1, by omega⟩
      show J_X6_isEmbossed_L42b (J_X6_isEmbossed_L42 m) M (nI j) (nI (100 * i + j)) (bI f) (nI k) σ = _
      unfold J_X6_isEmbossed_L42b jj
      dsimp only
      rw [jgR_ok h.1, h26, jdr_ok, jaI_ok k26 (by omega) (by decide), n2, if_neg (nI_ge (by omega) (by omega))]
      cases f
      · rw [if_pos (show bI false = 0 by decide), bI_nar]
        rfl
      · obtain ⟨f1, f2⟩ := hf rfl
        have m2' := m2 j f1
        rw [if_neg (show ¬ bI true = 0 by decide), e40, mrd h (f := 16) (c := 11) (r := 24000) (by decide) (by omega), (m4 j f1).2 k (by omega), e40, mrd h (f := 25) (c := 18) (r := 4000) (by decide) (by omega), n3 k (by omega), nI_1, dropI (l := ls.getD j []) (by omega), dropI (l := em.getD j []) (by omega)]
        by_cases z : (em.getD j []).getD k 0 = (ls.getD j []).getD k 0
        · rw [if_pos z, show (1 : Int32) = bI true from rfl, ih m (k + 1) true hf (by omega) (by omega) (by omega), z]
          simp
        · rw [if_neg z, decide_eq_false (fun y => z (List.cons.inj y).1.symm)]
          exact ih m (k + 1) false (fun y => by cases y) (by omega) (by omega) (by omega)
  have l0 := fun f hf => loop (ls.getD j []).length jN 0 f hf rfl (Nat.zero_le _) (by unfold jN; omega)
  rw [List.drop_zero, List.drop_zero, nI_0] at l0
  unfold J_X6_isEmbossed jj
  dsimp only
  rw [mrd h (f := 18) (c := 13) (r := 6) (by decide) hi, m3, e100]
  by_cases c1 : j < em.length
  · rw [if_neg (nI_ge c1 (by omega)), mrd h (f := 17) (c := 12) (r := 600) (by decide) (by omega), (m4 j c1).1, jgR_ok h.1, h26, jdr_ok, jaI_ok k26 (by omega) (by decide), n2]
    have m2' := m2 j c1
    by_cases c2 : (em.getD j []).length = (ls.getD j []).length
    · rw [if_pos (by rw [c2]), show (1 : Int32) = bI true from rfl, l0 true (fun _ => ⟨c1, c2⟩)]
      unfold shr
      simp [hj, c1]
    · rw [if_neg (fun z => c2 ((nI_eq (by omega) (by omega)).mp z)), show (0 : Int32) = bI false from rfl, show J_X6_isEmbossed_L42 jN M (nI j) (nI (100 * i + j)) (bI false) (bI false) σ = _ from l0 false (fun y => by cases y)]
      unfold shr
      rw [decide_eq_false (fun z : j < ls.length ∧ j < em.length ∧ ls.getD j [] = em.getD j [] => c2 (by rw [z.2.2]))]
      rfl
  · rw [if_pos (nI_le (by omega) (by omega)), show J_X6_isEmbossed_L42 jN M (nI j) (nI (100 * i + j)) 0 0 σ = _ from l0 false (fun y => by cases y)]
    unfold shr
    rw [decide_eq_false (fun z : j < ls.length ∧ j < em.length ∧ ls.getD j [] = em.getD j [] => c1 z.2.1)]
    rfl
theorem m_due_L1 (h : MH σ M) (hE : ME σ M i em) (hL : ML σ M ls) (hi : i < 6) (hj : j < ls.length) (p : Nat) (kk : Nat → Int32 → Int32 → Int32 → Int32 → Hp → jR) : ∀ (d m k : Nat) (a : Int32), (ls.getD j []).length - k = d → k ≤ (ls.getD j []).length → d < m → J_X6_due_L17 kk m M (nI i) (nI p) a (nI j) (nI k) σ = kk M (nI i) (nI p) (if (!shr ls em j) = true then ((ls.getD j []).drop k).foldl (dot p) a else a) (nI j) σ := by
  have hb := m_isEmb h hE hL hi hj
  obtain ⟨l1, l2, l3⟩ := hL
  obtain ⟨n1, n2, n3⟩ := l3 j hj
  intro d
  induction d with
  | zero =>
    intro m k a hd hk hm
    obtain ⟨m, rfl⟩ : ∃ z, m = z + 1 := ⟨m - 1, by omega⟩
    show J_X6_due_L17b kk (J_X6_due_L17 kk m) M (nI i) (nI p) a (nI j) (nI k) σ = _
    unfold J_X6_due_L17b
    rw [mrd h (f := 26) (c := 19) (r := 100) (by decide) (by omega), n2, if_pos (nI_le (by omega) (by omega)), List.drop_of_length_le (by omega)]
    split <;> rfl
  | succ d ih =>
    intro m k a hd hk hm
    obtain ⟨m, rfl⟩ : ∃ z, m = z + 1 := ⟨m - 1, by omega⟩
    show J_X6_due_L17b kk (J_X6_due_L17 kk m) M (nI i) (nI p) a (nI j) (nI k) σ = _
    unfold J_X6_due_L17b
    rw [mrd h (f := 26) (c := 19) (r := 100) (by decide) (by omega), n2, if_neg (nI_ge (by omega) (by omega)), jcv_ok h.1 hb, jvI_ok]
    cases c : shr ls em j
    · rw [if_pos (show bI false = 0 by decide), e40, mrd h (f := 25) (c := 18) (r := 4000) (by decide) (by omega), n3 k (by omega), nI_1, ih m (k + 1) _ (by omega) (by omega) (by omega), c, dropI (l := ls.getD j []) (k := k) (by omega)]
      rfl
    · rw [if_neg (show ¬ bI true = 0 by decide), if_neg (by decide)]
theorem m_due (h : MH σ M) (hE : ME σ M i em) (hL : ML σ M ls) (hi : i < 6) (p : Nat) : J_X6_due M (nI i) (nI p) σ = some (.inl (some (.int (duD ls (fun j => !shr ls em j) p ls.length 0 0))), σ) := by
  have hl := hL.1
  have loop : ∀ (d m j : Nat) (a : Int32), ls.length - j = d → j ≤ ls.length → d < m → J_X6_due_L5 m M (nI i) (nI p) a (nI j) σ = some (.inl (some (.int (duD ls (fun j => !shr ls em j) p d j a))), σ) := by
    intro d
    induction d with
    | zero =>
      intro m j a hd hj hm
      obtain ⟨m, rfl⟩ : ∃ z, m = z + 1 := ⟨m - 1, by omega⟩
      show J_X6_due_L5b (J_X6_due_L5 m) M (nI i) (nI p) a (nI j) σ = _
      unfold J_X6_due_L5b
      rw [jgI_ok h.1, hL.2.1, if_pos (nI_le (by omega) (by omega))]
      rfl
    | succ d ih =>
      intro m j a hd hj hm
      obtain ⟨m, rfl⟩ : ∃ z, m = z + 1 := ⟨m - 1, by omega⟩
      have hn := (hL.2.2 j (by omega)).1
      show J_X6_due_L5b (J_X6_due_L5 m) M (nI i) (nI p) a (nI j) σ = _
      unfold J_X6_due_L5b
      rw [jgI_ok h.1, hL.2.1, if_neg (nI_ge (by omega) (by omega)), show (0 : Int32) = nI 0 from rfl, m_due_L1 h hE hL hi (by omega) p _ _ jN 0 a rfl (Nat.zero_le _) (by unfold jN; omega), nI_1, ih m (j + 1) _ (by omega) (by omega) (by omega), List.drop_zero]
      rfl
  exact loop ls.length jN 0 0 rfl (Nat.zero_le _) (by unfold jN; omega)
theorem m_isWorn {W : Nat} {wr : List Int32} {be : Int32} (h : MH σ M) (hE : ME σ M i em) (hL : ML σ M ls) (hZ : MZ σ M W wr be) (hi : i < 6) : J_X6_isWorn M (nI i) σ = some (.inl (some (.int (bI (anyD (ovF wr (fun p => duD ls (fun j => !shr ls em j) p ls.length 0 0) be) 6 0)))), σ) := by
  have loop : ∀ (d m p : Nat) (f : Bool), 6 - p = d → p ≤ 6 → d < m → J_X6_isWorn_L4 m M (nI i) (bI f) (nI p) σ = some (.inl (some (.int (bI (f || anyD (ovF wr (fun p => duD ls (fun j => !shr ls em j) p ls.length 0 0) be) d p)))), σ) := by
    intro d
    induction d with
    | zero =>
      intro m p f hd hp hm
      obtain ⟨m, rfl⟩ : ∃ z, m = z + 1 := ⟨m - 1, by omega⟩
      show J_X6_isWorn_L4b (J_X6_isWorn_L4 m) M (nI i) (bI f) (nI p) σ = _
      unfold J_X6_isWorn_L4b
      rw [if_pos (show (6 : Int32) ≤ nI p from nI_le (a := 6) (by omega) (by omega)), bI_nar, show anyD (ovF wr (fun p => duD ls (fun j => !shr ls em j) p ls.length 0 0) be) 0 p = false from rfl, Bool.or_false]
    | succ d ih =>
      intro m p f hd hp hm
      obtain ⟨m, rfl⟩ : ∃ z, m = z + 1 := ⟨m - 1, by omega⟩
      have i1 := ih m (p + 1) true (by omega) (by omega) (by omega)
      have i0 := ih m (p + 1) false (by omega) (by omega) (by omega)
      rw [show bI true = 1 from rfl] at i1
      rw [show bI false = 0 from rfl, Bool.false_or] at i0
      show J_X6_isWorn_L4b (J_X6_isWorn_L4 m) M (nI i) (bI f) (nI p) σ = _
      unfold J_X6_isWorn_L4b jj
      dsimp only
      rw [if_neg (show ¬ (6 : Int32) ≤ nI p from nI_ge (b := 6) (by omega) (by omega)), jcv_ok h.1 (m_due h hE hL hi p), jvI_ok, nI_1, anyD_or]
      cases f
      · rw [if_pos (show bI false = 0 by decide), Bool.false_or]
        by_cases c1 : duD ls (fun j => !shr ls em j) p ls.length 0 0 ≤ 0
        · rw [if_pos c1, i0, show ovF wr (fun p => duD ls (fun j => !shr ls em j) p ls.length 0 0) be p = false from decide_eq_false (fun z => z.1 c1), Bool.false_or]
        · rw [if_neg c1, mrd h (f := 21) (c := 15) (r := 6) (by decide) (by omega), hZ.2.2 p (by omega), jgI_ok h.1, hZ.2.1]
          by_cases c2 : wr.getD p 0 + duD ls (fun j => !shr ls em j) p ls.length 0 0 ≤ be
          · rw [if_pos c2, i0, show ovF wr (fun p => duD ls (fun j => !shr ls em j) p ls.length 0 0) be p = false from decide_eq_false (fun z => z.2 c2), Bool.false_or]
          · rw [if_neg c2, i1, show ovF wr (fun p => duD ls (fun j => !shr ls em j) p ls.length 0 0) be p = true from decide_eq_true ⟨c1, c2⟩]
      · rw [if_neg (show ¬ bI true = 0 by decide), i1]
        rfl
  exact loop 6 jN 0 false rfl (by omega) (by unfold jN; omega)
end MODEM
