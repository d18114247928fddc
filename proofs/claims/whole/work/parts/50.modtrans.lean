/-! The model translates a word. -/
/-- the cells in the model's word -/
def MWd (σ : Hp) (M : Nat) (c : List Int32) : Prop := inH σ M 23 = nI c.length ∧ ∀ k, k < c.length → inH σ (M + 16) k = c.getD k 0
def qW (M : Nat) : Nat → Nat → Prop := fun a k => a = M + 16 ∨ (a = M ∧ k = 23)
theorem MWd.push {σ : Hp} {M : Nat} {c : List Int32} (h : MWd σ M c) (x : Int32) : MWd (inS (inS σ (M + 16) c.length x) M 23 (nI c.length + 1)) M (c ++ [x]) ∧ ai (qW M) σ (inS (inS σ (M + 16) c.length x) M 23 (nI c.length + 1)) := by
  refine ⟨⟨?_, fun k hk => ?_⟩, (ai_in σ x (Or.inl rfl)).tr (ai_in _ _ (Or.inr ⟨rfl, rfl⟩))⟩
  · rw [in_inS, if_pos ⟨rfl, rfl⟩, nI_1, List.length_append]
    rfl
  · rw [in_inS, if_neg (by omega), in_inS]
    rw [List.length_append] at hk
    simp only [List.length_cons, List.length_nil] at hk
    by_cases e : k = c.length
    · subst e
      rw [if_pos ⟨rfl, rfl⟩]
      simp [List.getD_eq_getElem?_getD]
    · rw [if_neg (fun z => e z.2), h.2 k (by omega), getD_app_l (by omega)]
theorem MR.ai {Q : Nat → Nat → Prop} {σ τ : Hp} {M : Nat} {ks : List Nat} {gs fs ss : List Int32} (h : MR σ M ks gs fs ss) (hg : ai Q σ τ) (hq : ∀ k, ¬ Q (M + 2) k ∧ ¬ Q (M + 3) k ∧ ¬ Q (M + 4) k ∧ ¬ Q (M + 5) k) (h7 : ¬ Q M 7) : MR τ M ks gs fs ss := by
  obtain ⟨a, b, c⟩ := h
  refine ⟨by rw [hg.2.2.2.2.2 M 7 h7]; exact a, b, fun i hi => ?_⟩
  obtain ⟨q1, q2, q3, q4⟩ := hq i
  rw [hg.2.2.2.2.2 _ _ q1, hg.2.2.2.2.2 _ _ q2, hg.2.2.2.2.2 _ _ q3, hg.2.2.2.2.2 _ _ q4]
  exact c i hi
theorem MT.ai {Q : Nat → Nat → Prop} {σ τ : Hp} {M i : Nat} {t : List Nat} {g : Int32} (h : MT σ M i t g) (hg : ai Q σ τ) (hq : ∀ k, ¬ Q (M + 8) k ∧ ¬ Q (M + 9) k ∧ ¬ Q (M + 10) k) : MT τ M i t g := by
  obtain ⟨a, b, c, d⟩ := h
  refine ⟨a, by rw [hg.2.2.2.2.2 _ _ (hq i).2.1]; exact b, by rw [hg.2.2.2.2.2 _ _ (hq i).2.2]; exact c, fun k hk => ?_⟩
  rw [hg.2.2.2.2.2 _ _ (hq _).1]
  exact d k hk
theorem MW.ai {Q : Nat → Nat → Prop} {σ τ : Hp} {M a : Nat} {w : List Nat} (h : MW σ M a w) (hg : ai Q σ τ) (hq : ∀ k, ¬ Q (M + 8) k) : MW τ M a w := by
  obtain ⟨b, c, d⟩ := h
  refine ⟨b, c, fun k hk => ?_⟩
  rw [hg.2.2.2.2.2 _ _ (hq _)]
  exact d k hk
theorem MW.drop {σ : Hp} {M a : Nat} {w : List Nat} (h : MW σ M a w) {k : Nat} (hk : k ≤ w.length) : MW σ M (a + k) (w.drop k) := by
  obtain ⟨b, c, d⟩ := h
  refine ⟨by rw [List.length_drop]; omega, c.drop k, fun j hj => ?_⟩
  rw [List.length_drop] at hj
  rw [Nat.add_assoc, d (k + j) (by omega)]
  congr 1
  simp [List.getD_eq_getElem?_getD, List.getElem?_drop]
