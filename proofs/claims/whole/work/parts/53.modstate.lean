/-! The model's state as a whole, and its frames. -/
theorem MH.fr {σ : Hp} {M f c r : Nat} (h : MH σ M) (hp : (f, c, r) ∈ mAr) : rfH σ M f = some (M + c) := (h.2 (f, c, r) hp).1
theorem MH.fk {σ : Hp} {M f c r : Nat} (h : MH σ M) (hp : (f, c, r) ∈ mAr) : kdH σ (M + c) = (2, r) := (h.2 (f, c, r) hp).2.1
theorem ai.i {Q : Nat → Nat → Prop} {σ τ : Hp} (h : ai Q σ τ) {a k : Nat} (hq : ¬ Q a k) : inH τ a k = inH σ a k := h.2.2.2.2.2 a k hq
/-- scratch: what asking leaves behind -/
def qS (M : Nat) : Nat → Nat → Prop := fun a k => (M + 16 ≤ a ∧ a ≤ M + 19) ∨ (a = M ∧ (k = 23 ∨ k = 27))
/-- scratch and marks -/
def qT (M : Nat) : Nat → Nat → Prop := fun a k => a = M + 14 ∨ qS M a k
/-- and what was thrown -/
def qU (M : Nat) : Nat → Nat → Prop := fun a k => qT M a k ∨ (a = M ∧ k = 0)
/-- the buffer -/
def MB (σ : Hp) (M : Nat) (buf : List Nat) : Prop := inH σ M 2 = nI buf.length ∧ ∀ k, k < buf.length → inH σ (M + 1) k = nI (buf.getD k 0)
theorem MB.ai {Q : Nat → Nat → Prop} {σ τ : Hp} {M : Nat} {buf : List Nat} (h : MB σ M buf) (hg : ai Q σ τ) (h2 : ¬ Q M 2) (hq : ∀ k, ¬ Q (M + 1) k) : MB τ M buf := ⟨by rw [hg.i h2]; exact h.1, fun k hk => by rw [hg.i (hq k)]; exact h.2 k hk⟩
theorem MX.ai {Q : Nat → Nat → Prop} {σ τ : Hp} {M : Nat} {E : List (List Nat)} (h : MX σ M E) (hg : ai Q σ τ) (h10 : ¬ Q M 10) (hq : ∀ k, ¬ Q (M + 6) k ∧ ¬ Q (M + 7) k) : MX τ M E := ⟨by rw [hg.i h10]; exact h.1, h.2.1, fun e he => by
  obtain ⟨a, b, c, d⟩ := h.2.2 e he
  exact ⟨a, b, by rw [hg.i (hq e).2]; exact c, fun k hk => by rw [hg.i (hq _).1]; exact d k hk⟩⟩
/-- what was embossed last of a text -/
def ME (σ : Hp) (M i : Nat) (em : List (List Int32)) : Prop := (em.length ≤ 60 ∧ ∀ j, j < em.length → (em.getD j []).length ≤ 40) ∧ inH σ (M + 13) i = nI em.length ∧ ∀ j, j < em.length → inH σ (M + 12) (100 * i + j) = nI (em.getD j []).length ∧ ∀ k, k < (em.getD j []).length → inH σ (M + 11) (40 * (100 * i + j) + k) = (em.getD j []).getD k 0
theorem ME.ai {Q : Nat → Nat → Prop} {σ τ : Hp} {M i : Nat} {em : List (List Int32)} (h : ME σ M i em) (hg : ai Q σ τ) (hq : ∀ k, ¬ Q (M + 11) k ∧ ¬ Q (M + 12) k ∧ ¬ Q (M + 13) k) : ME τ M i em := ⟨h.1, by rw [hg.i (hq _).2.2]; exact h.2.1, fun j hj => ⟨by rw [hg.i (hq _).2.1]; exact (h.2.2 j hj).1, fun k hk => by rw [hg.i (hq _).1]; exact (h.2.2 j hj).2 k hk⟩⟩
/-- a mark, as the model has it -/
def mkm (x : Int32) : Int32 := if x = 114 then 1 else if x = 119 then 2 else 0
def MTs (σ : Hp) (M n : Nat) (T : Nat → Tx) : Prop := (inH σ M 14 = nI n ∧ n ≤ 6) ∧ (∀ i, i < n → MT σ M i (tX (T i)) (tG (T i)) ∧ ME σ M i (tE (T i))) ∧ ∀ i, n ≤ i → i < 6 → inH σ (M + 13) i = 0
theorem MTs.ai {Q : Nat → Nat → Prop} {σ τ : Hp} {M n : Nat} {T : Nat → Tx} (h : MTs σ M n T) (hg : ai Q σ τ) (h14 : ¬ Q M 14) (hq : ∀ a k, M + 8 ≤ a → a ≤ M + 13 → ¬ Q a k) : MTs τ M n T := ⟨⟨by rw [hg.i h14]; exact h.1.1, h.1.2⟩, fun i hi => ⟨(h.2.1 i hi).1.ai hg (fun k => ⟨hq _ _ (by omega) (by omega), hq _ _ (by omega) (by omega), hq _ _ (by omega) (by omega)⟩), (h.2.1 i hi).2.ai hg (fun k => ⟨hq _ _ (by omega) (by omega), hq _ _ (by omega) (by omega), hq _ _ (by omega) (by omega)⟩)⟩, fun i h1 h2 => by rw [hg.i (hq _ _ (by omega) (by omega))]; exact h.2.2 i h1 h2⟩
/-- marks: those of text i are F i -/
def MG (σ : Hp) (M n : Nat) (F : Nat → Nat → Int32) (L : Nat → Nat) : Prop := ∀ i, i < n → ∀ w e, e < 2 → w < L i → inH σ (M + 14) (240 * e + 40 * i + w) = mkm (F i (2 * w + e))
theorem MG.ai {Q : Nat → Nat → Prop} {σ τ : Hp} {M n : Nat} {F : Nat → Nat → Int32} {L : Nat → Nat} (h : MG σ M n F L) (hg : ai Q σ τ) (hq : ∀ k, ¬ Q (M + 14) k) : MG τ M n F L := fun i hi w e he hw => by rw [hg.i (hq _)]; exact h i hi w e he hw
def tF (T : Nat → Tx) : Nat → Nat → Int32 := fun i k => (tM (T i)).getD k 0
def tL (T : Nat → Tx) : Nat → Nat := fun i => (wd (tX (T i))).length
/-- the width, the bearing, the pins -/
def MZ (σ : Hp) (M W : Nat) (wr : List Int32) (be : Int32) : Prop := inH σ M 15 = nI W ∧ inH σ M 20 = be ∧ ∀ j, j < 6 → inH σ (M + 15) j = wr.getD j 0
theorem MZ.ai {Q : Nat → Nat → Prop} {σ τ : Hp} {M W : Nat} {wr : List Int32} {be : Int32} (h : MZ σ M W wr be) (hg : ai Q σ τ) (h15 : ¬ Q M 15) (h20 : ¬ Q M 20) (hq : ∀ k, ¬ Q (M + 15) k) : MZ τ M W wr be := ⟨by rw [hg.i h15]; exact h.1, by rw [hg.i h20]; exact h.2.1, fun j hj => by rw [hg.i (hq _)]; exact h.2.2 j hj⟩
/-- all but the marks -/
def ModA (σ : Hp) (M : Nat) (buf ks : List Nat) (gs fs ss : List Int32) (E : List (List Nat)) (n : Nat) (T : Nat → Tx) (W : Nat) (wr : List Int32) (be : Int32) : Prop := MH σ M ∧ MB σ M buf ∧ MR σ M ks gs fs ss ∧ MX σ M E ∧ MTs σ M n T ∧ MZ σ M W wr be
/-- the model -/
def ModV (σ : Hp) (M : Nat) (buf ks : List Nat) (gs fs ss : List Int32) (E : List (List Nat)) (n : Nat) (T : Nat → Tx) (W : Nat) (wr : List Int32) (be : Int32) : Prop := ModA σ M buf ks gs fs ss E n T W wr be ∧ MG σ M n (tF T) (tL T)
section MODST
variable {σ τ : Hp} {M : Nat} {buf ks : List Nat} {gs fs ss : List Int32} {E : List (List Nat)} {n : Nat} {T : Nat → Tx} {W : Nat} {wr : List Int32} {be : Int32}
theorem qT_no {a k : Nat} (h1 : M + 1 ≤ a) (h2 : a ≤ M + 13 ∨ a = M + 15) : ¬ qU M a k := fun z => by unfold qU qT qS at z; omega
theorem qT_no0 {k : Nat} (h : k ≠ 0 ∧ k ≠ 23 ∧ k ≠ 27) : ¬ qU M M k := fun z => by unfold qU qT qS at z; omega
theorem ModA.aiU (h : ModA σ M buf ks gs fs ss E n T W wr be) (hg : ai (qU M) σ τ) : ModA τ M buf ks gs fs ss E n T W wr be := by
  obtain ⟨h0, h1, h2, h3, h4, h5⟩ := h
  exact ⟨h0.ai hg, h1.ai hg (qT_no0 (by omega)) (fun k => qT_no (by omega) (by omega)), h2.ai hg (fun k => ⟨qT_no (by omega) (by omega), qT_no (by omega) (by omega), qT_no (by omega) (by omega), qT_no (by omega) (by omega)⟩) (qT_no0 (by omega)), h3.ai hg (qT_no0 (by omega)) (fun k => ⟨qT_no (by omega) (by omega), qT_no (by omega) (by omega)⟩), h4.ai hg (qT_no0 (by omega)) (fun a k _ _ => qT_no (by omega) (by omega)), h5.ai hg (qT_no0 (by omega)) (qT_no0 (by omega)) (fun k => qT_no (by omega) (by omega))⟩
theorem ModA.ai (h : ModA σ M buf ks gs fs ss E n T W wr be) (hg : ai (qT M) σ τ) : ModA τ M buf ks gs fs ss E n T W wr be := h.aiU (hg.up (fun _ _ z => Or.inl z))
theorem qS_T : ∀ a k, qS M a k → qT M a k := fun _ _ h => Or.inr h
theorem qW_S : ∀ a k, qW M a k → qS M a k := fun a k h => by unfold qW at h; unfold qS; omega
theorem qW_T : ∀ a k, qW M a k → qT M a k := fun a k h => qS_T a k (qW_S a k h)
theorem ModV.sc (h : ModV σ M buf ks gs fs ss E n T W wr be) (hg : ai (qS M) σ τ) : ModV τ M buf ks gs fs ss E n T W wr be := ⟨h.1.ai (hg.up qS_T), h.2.ai hg (fun k z => by unfold qS at z; omega)⟩
theorem ModV.th (h : ModV σ M buf ks gs fs ss E n T W wr be) (v : Int32) : ModV (inS σ M 0 v) M buf ks gs fs ss E n T W wr be := by
  have g : ai (qU M) σ (inS σ M 0 v) := ai_in σ v (Or.inr ⟨rfl, rfl⟩)
  refine ⟨h.1.aiU g, fun i hi w e he hw => ?_⟩
  rw [in_inS, if_neg (by omega)]
  exact h.2 i hi w e he hw
theorem clO_get {i j : Nat} (hj : j < (wd (tX (T i))).length) : (clO ks gs fs ss E (T i)).getD j [] = trC ks gs fs ss E (tG (T i)) ((wd (tX (T i))).getD j []) := by
  unfold clO
  simp [List.getD_eq_getElem?_getD, hj]
/-- a word of a text is translated -/
theorem m_tr (h : ModA σ M buf ks gs fs ss E n T W wr be) (hI : RubI ks gs fs ss E) (hss : ∀ s ∈ ss, ¬ s < 0) {i j : Nat} (hi : i < n) (hj : j < (wd (tX (T i))).length) : ∃ τ, J_X6_translates M (nI i) (nI j) σ = some (.inl none, τ) ∧ MWd τ M ((clO ks gs fs ss E (T i)).getD j []) ∧ ai (qW M) σ τ := by
  obtain ⟨τ, a1, a2, a3⟩ := s_M_translates h.1 h.2.2.1 hI hss h.2.2.2.1 (h.2.2.2.2.1.2.1 i hi).1 hj
  rw [← clO_get hj] at a2
  exact ⟨τ, a1, a2, a3⟩
theorem m_words (h : ModA σ M buf ks gs fs ss E n T W wr be) {i : Nat} (hi : i < n) : J_X6_wordsOf M (nI i) σ = some (.inl (some (.int (nI (wd (tX (T i))).length))), σ) := s_M_wordsOf h.1 (h.2.2.2.2.1.2.1 i hi).1
end MODST
