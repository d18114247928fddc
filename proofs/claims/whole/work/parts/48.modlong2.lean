/-! The model's longest rule is the class's: the search. -/
/-- a rule that may be used -/
def isL (gs : List Int32) (wf : Nat → List Nat) (g : Int32) (v : List Nat) (m r : Nat) : Prop := gs.getD r 0 ≤ g ∧ (wf r).length ≤ m ∧ (wf r).length ≤ v.length ∧ wf r = v.take (wf r).length
def bv : Option Nat → Int32
  | none => -1
  | some p => nI p
def Best (gs : List Int32) (wf : Nat → List Nat) (g : Int32) (v : List Nat) (m : Nat) (b : Option Nat) (r : Nat) : Prop := (b = none → ∀ q, q < r → ¬ isL gs wf g v m q) ∧ ∀ p, b = some p → p < r ∧ isL gs wf g v m p ∧ ∀ q, q < r → isL gs wf g v m q → (wf q).length ≤ (wf p).length
theorem Best.no {gs : List Int32} {wf : Nat → List Nat} {g : Int32} {v : List Nat} {m : Nat} {b : Option Nat} {r : Nat} (h : Best gs wf g v m b r) (hr : ¬ isL gs wf g v m r ∨ ∃ p, b = some p ∧ (wf r).length ≤ (wf p).length) : Best gs wf g v m b (r + 1) := by
  refine ⟨fun e q hq => ?_, fun p e => ?_⟩
  · by_cases c : q = r
    · rw [c]
      rcases hr with z | ⟨p, z, _⟩
      · exact z
      · rw [e] at z; cases z
    · exact h.1 e q (by omega)
  · obtain ⟨h1, h2, h3⟩ := h.2 p e
    refine ⟨by omega, h2, fun q hq hL => ?_⟩
    by_cases c : q = r
    · rw [c] at hL ⊢
      rcases hr with z | ⟨p', z, z2⟩
      · exact (z hL).elim
      · rw [e] at z
        cases z
        exact z2
    · exact h3 q (by omega) hL
theorem Best.yes {gs : List Int32} {wf : Nat → List Nat} {g : Int32} {v : List Nat} {m : Nat} {b : Option Nat} {r : Nat} (h : Best gs wf g v m b r) (hr : isL gs wf g v m r) (hb : b = none ∨ ∃ p, b = some p ∧ (wf p).length < (wf r).length) : Best gs wf g v m (some r) (r + 1) := by
  refine ⟨fun e => (by cases e), fun p e => ?_⟩
  cases e
  refine ⟨by omega, hr, fun q hq hL => ?_⟩
  by_cases c : q = r
  · rw [c]; exact Nat.le_refl _
  · rcases hb with z | ⟨p, z, z2⟩
    · exact (h.1 z q (by omega) hL).elim
    · have := (h.2 p z).2.2 q (by omega) hL
      omega
theorem pick_L {ks : List Nat} {gs fs ss : List Int32} {E : List (List Nat)} (hI : RubI ks gs fs ss E) {wf : Nat → List Nat} (hF : RW ks wf) {g : Int32} {v : List Nat} (hv : lts v) {m : Nat} : ∀ n, n ≤ m → n ≤ v.length → n ≤ 4 → (pick ks gs g v n = none → ∀ q, q < ks.length → (wf q).length ≤ n → ¬ isL gs wf g v m q) ∧ (∀ s p, pick ks gs g v n = some (s, p) → p < ks.length ∧ isL gs wf g v m p ∧ (wf p).length = s ∧ ∀ q, q < ks.length → (wf q).length ≤ n → isL gs wf g v m q → (wf q).length ≤ s)
  | 0, _, _, _ => ⟨fun _ q hq hl => by have := (hF q hq).2.1; omega, fun s p e => by simp [pick] at e⟩
  | n + 1, h1, h2, h3 => by
    have ih := pick_L hI hF hv (g := g) (m := m) n (by omega) (by omega) (by omega)
    have hwl : (v.take (n + 1)).length = n + 1 := by rw [List.length_take]; omega
    have key : ∀ q, q < ks.length → isL gs wf g v m q → (wf q).length = n + 1 → k27 (v.take (n + 1)) ∈ ks ∧ ks.idxOf (k27 (v.take (n + 1))) = q := fun q hq hL hl => by
      have e := hL.2.2.2
      rw [hl] at e
      have e2 : ks.getD q 0 = k27 (v.take (n + 1)) := by rw [(hF q hq).2.2.2, e]
      have cm : k27 (v.take (n + 1)) ∈ ks := e2 ▸ getD_mem 0 hq
      have g1 := List.idxOf_lt_length_of_mem cm
      have g2 := idx_get cm
      refine ⟨cm, ?_⟩
      apply Classical.byContradiction
      intro z
      rcases Nat.lt_or_gt_of_ne z with y | y
      · have := hI.2.2.2.2.1 _ _ y hq
        omega
      · have := hI.2.2.2.2.1 _ _ y g1
        omega
    unfold pick
    by_cases c : k27 (v.take (n + 1)) ∈ ks ∧ gs.getD (ks.idxOf (k27 (v.take (n + 1)))) 0 ≤ g
    · rw [if_pos c]
      refine ⟨fun e => (by cases e), fun s p e => ?_⟩
      have e := Option.some.inj e
      have e1 : n + 1 = s := congrArg Prod.fst e
      have e2 : ks.idxOf (k27 (v.take (n + 1))) = p := congrArg Prod.snd e
      subst e1 e2
      have g1 := List.idxOf_lt_length_of_mem c.1
      have g2 := idx_get c.1
      obtain ⟨f1, f2, f3, f4⟩ := hF _ g1
      have ew : wf (ks.idxOf (k27 (v.take (n + 1)))) = v.take (n + 1) := k27_inj f1 (hv.take _) f3 (by omega) (by rw [← f4, g2])
      have el : (wf (ks.idxOf (k27 (v.take (n + 1))))).length = n + 1 := by rw [ew, hwl]
      exact ⟨g1, ⟨c.2, by omega, by omega, by rw [el]; exact ew⟩, el, fun q _ hl _ => hl⟩
    · rw [if_neg c]
      have no : ∀ q, q < ks.length → isL gs wf g v m q → (wf q).length ≠ n + 1 := fun q hq hL hl => by
        obtain ⟨k1, k2⟩ := key q hq hL hl
        exact c ⟨k1, by rw [k2]; exact hL.1⟩
      refine ⟨fun e q hq hl hL => ih.1 e q hq (by have := no q hq hL; omega) hL, fun s p e => ?_⟩
      obtain ⟨i1, i2, i3, i4⟩ := ih.2 s p e
      exact ⟨i1, i2, i3, fun q hq hl hL => i4 q hq (by have := no q hq hL; omega) hL⟩
theorem pick_best {ks : List Nat} {gs fs ss : List Int32} {E : List (List Nat)} (hI : RubI ks gs fs ss E) {wf : Nat → List Nat} (hF : RW ks wf) {g : Int32} {v : List Nat} (hv : lts v) {m : Nat} (hm : m ≤ 4) {b : Option Nat} (h : Best gs wf g v m b ks.length) : b = (pick ks gs g v (min m v.length)).map Prod.snd := by
  have hp := pick_L hI hF hv (g := g) (m := m) (min m v.length) (by omega) (by omega) (by omega)
  have hle : ∀ q, isL gs wf g v m q → (wf q).length ≤ min m v.length := fun q hq => by
    have := hq.2.1
    have := hq.2.2.1
    omega
  cases e : pick ks gs g v (min m v.length) with
  | none =>
    cases b with
    | none => rfl
    | some p =>
      obtain ⟨h1, h2, h3⟩ := h.2 p rfl
      exact (hp.1 e p h1 (hle p h2) h2).elim
  | some sp =>
    obtain ⟨s, p⟩ := sp
    obtain ⟨p1, p2, p3, p4⟩ := hp.2 s p e
    cases b with
    | none => exact (h.1 rfl p p1 p2).elim
    | some q =>
      obtain ⟨h1, h2, h3⟩ := h.2 q rfl
      have l1 := p4 q h1 (hle q h2) h2
      have l2 := h3 p p1 p2
      have el : (wf q).length = (wf p).length := by omega
      have ew : wf q = wf p := by rw [h2.2.2.2, p2.2.2.2, el]
      have ek : ks.getD q 0 = ks.getD p 0 := by rw [(hF q h1).2.2.2, (hF p p1).2.2.2, ew]
      have : q = p := by
        apply Classical.byContradiction
        intro z
        rcases Nat.lt_or_gt_of_ne z with y | y
        · have := hI.2.2.2.2.1 _ _ y p1
          omega
        · have := hI.2.2.2.2.1 _ _ y h1
          omega
      rw [this]
      rfl
