/-! Where words begin. -/
/-- a word begins at k -/
def bg (t : List Nat) (k : Nat) : Bool := decide (t.getD k 0 ≠ 0 ∧ (k = 0 ∨ t.getD (k - 1) 0 = 0))
/-- the letters from b up to the next blank -/
def wdt (t : List Nat) (b : Nat) : List Nat := (t.drop b).takeWhile (fun c => decide (c ≠ 0))
def bgs (t : List Nat) (k : Nat) : List Nat := (List.range k).filter (bg t)
theorem bgs_succ (t : List Nat) (k : Nat) : bgs t (k + 1) = if bg t k = true then bgs t k ++ [k] else bgs t k := by
  unfold bgs
  rw [List.range_succ, List.filter_append]
  by_cases c : bg t k = true
  · rw [if_pos c]
    simp [c]
  · rw [if_neg c]
    simp [c]
theorem tw_all {u r : List Nat} (h : ∀ c ∈ u, c ≠ 0) (hr : r = [] ∨ r.getD 0 0 = 0) : (u ++ r).takeWhile (fun c => decide (c ≠ 0)) = u := by
  induction u with
  | nil =>
    rcases hr with e | e
    · rw [e]; rfl
    · cases r with
      | nil => rfl
      | cons a r =>
        have : a = 0 := e
        subst this
        rfl
  | cons a u ih =>
    have ha : a ≠ 0 := h a (List.mem_cons_self ..)
    rw [List.cons_append, List.takeWhile_cons, if_pos (by simpa using ha), ih (fun c hc => h c (List.mem_cons_of_mem _ hc))]
def WB (t : List Nat) (k : Nat) (ps : List (List Nat)) (u : List Nat) : Prop := (u = [] → ps = (bgs t k).map (wdt t)) ∧ (u ≠ [] → ∃ B, bgs t k = B ++ [k - u.length] ∧ ps = B.map (wdt t) ∧ u.length ≤ k ∧ u = (t.drop (k - u.length)).take u.length) ∧ (u = [] ↔ (k = 0 ∨ t.getD (k - 1) 0 = 0)) ∧ ∀ c ∈ u, c ≠ 0
theorem wdt_u {t u : List Nat} {b : Nat} (h : u = (t.drop b).take u.length) (hu : ∀ c ∈ u, c ≠ 0) (he : t.length ≤ b + u.length ∨ t.getD (b + u.length) 0 = 0) : wdt t b = u := by
  unfold wdt
  have e : t.drop b = u ++ (t.drop b).drop u.length := by
    conv => lhs; rw [← List.take_append_drop u.length (t.drop b), ← h]
  rw [e]
  refine tw_all hu ?_
  rcases he with z | z
  · left
    rw [List.drop_drop]
    exact List.drop_of_length_le (by omega)
  · right
    rw [List.drop_drop]
    simpa [List.getD_eq_getElem?_getD, List.getElem?_drop] using z
theorem WB_step {t : List Nat} {k : Nat} (hk : k < t.length) {ps : List (List Nat)} {u : List Nat} (h : WB t k ps u) : WB t (k + 1) (stT (ps, u) (t.getD k 0)).1 (stT (ps, u) (t.getD k 0)).2 := by
  obtain ⟨h1, h2, h3, h4⟩ := h
  unfold stT
  dsimp only
  by_cases c : t.getD k 0 = 0
  · rw [if_pos c]
    have hb : ¬ bg t k = true := fun z => (of_decide_eq_true z).1 c
    unfold cutN WB
    refine ⟨fun _ => ?_, fun z => (z rfl).elim, ⟨fun _ => Or.inr (by rw [Nat.add_sub_cancel]; exact c), fun _ => rfl⟩, fun x hx => by simp at hx⟩
    rw [bgs_succ, if_neg hb]
    by_cases e : u = []
    · rw [if_pos e]
      exact h1 e
    · obtain ⟨B, b1, b2, b3, b4⟩ := h2 e
      rw [if_neg e, b1, List.map_append, b2]
      congr 1
      rw [List.map_singleton, wdt_u b4 h4 (Or.inr (by rw [show k - u.length + u.length = k by omega]; exact c))]
  · rw [if_neg c]
    unfold WB
    refine ⟨fun z => by simp at z, fun _ => ?_, ⟨fun z => by simp at z, fun z => ?_⟩, fun x hx => ?_⟩
    · rw [bgs_succ]
      by_cases e : u = []
      · have hb : bg t k = true := decide_eq_true ⟨c, h3.mp e⟩
        rw [if_pos hb, e]
        refine ⟨bgs t k, by simp, h1 e, by simp, ?_⟩
        simp only [List.nil_append, List.length_cons, List.length_nil, Nat.zero_add, Nat.add_sub_cancel]
        rw [List.drop_eq_getElem_cons hk, List.take_succ_cons, List.take_zero]
        simp [List.getD_eq_getElem?_getD, hk]
      · have hb : ¬ bg t k = true := fun z => e (h3.mpr (of_decide_eq_true z).2)
        obtain ⟨B, b1, b2, b3, b4⟩ := h2 e
        rw [if_neg hb]
        refine ⟨B, ?_, b2, ?_, ?_⟩
        · rw [b1, List.length_append]
          simp
        · rw [List.length_append]
          simp
          omega
        · rw [List.length_append]
          simp only [List.length_cons, List.length_nil, Nat.zero_add]
          rw [show k + 1 - (u.length + 1) = k - u.length by omega, List.take_add_one, ← b4]
          congr 1
          rw [List.getElem?_drop, show k - u.length + u.length = k by omega]
          simp [List.getD_eq_getElem?_getD, hk]
    · rcases z with z | z
      · omega
      · rw [Nat.add_sub_cancel] at z
        exact (c z).elim
    · rcases List.mem_append.mp hx with y | y
      · exact h4 x y
      · rw [List.mem_singleton.mp y]; exact c
theorem WB_all (t : List Nat) : ∀ k, k ≤ t.length → WB t k (wdS (t.take k)).1 (wdS (t.take k)).2
  | 0, _ => by
    rw [List.take_zero]
    exact ⟨fun _ => rfl, fun z => (z rfl).elim, ⟨fun _ => Or.inl rfl, fun _ => rfl⟩, fun c hc => by simp [wdS] at hc⟩
  | k + 1, h => by
    have e : t.take (k + 1) = t.take k ++ [t.getD k 0] := by
      rw [List.take_add_one]
      simp [List.getD_eq_getElem?_getD, show k < t.length by omega]
    rw [e, wdS_snoc]
    exact WB_step (by omega) (WB_all t k (by omega))
/-- the words, by where they begin -/
theorem wd_at (t : List Nat) : wd t = (bgs t t.length).map (wdt t) := by
  have h := WB_all t t.length (Nat.le_refl _)
  rw [List.take_length] at h
  obtain ⟨h1, h2, h3, h4⟩ := h
  unfold wd cutN
  by_cases e : (wdS t).2 = []
  · rw [if_pos e]
    exact h1 e
  · obtain ⟨B, b1, b2, b3, b4⟩ := h2 e
    rw [if_neg e, b1, List.map_append, ← b2, List.map_singleton, wdt_u b4 h4 (Or.inl (by omega))]
