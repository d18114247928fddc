/-! The model keeps the cells of all words. -/
/-- the kept numbers -/
def MF (σ : Hp) (M : Nat) (l : List Int32) : Prop := l.length ≤ 1600 ∧ ∀ k, k < l.length → inH σ (M + 17) k = l.getD k 0
def qB (M : Nat) : Nat → Nat → Prop := fun a _ => a = M + 17
theorem qB_S {M : Nat} : ∀ a k, qB M a k → qS M a k := fun a k h => by unfold qB at h; unfold qS; omega
theorem qB_T {M : Nat} : ∀ a k, qB M a k → qT M a k := fun a k h => Or.inr (qB_S a k h)
/-- how the cells of words are kept -/
def bfr (cs : List (List Int32)) : List Int32 := cs.flatMap (fun c => nI c.length :: c)
def bft (C : Nat → List (List Int32)) (i : Nat) : List Int32 := (List.range i).flatMap (fun j => bfr (C j))
theorem bfr_len : ∀ (cs : List (List Int32)), (bfr cs).length = cs.length + cs.flatten.length
  | [] => rfl
  | c :: cs => by
    have := bfr_len cs
    unfold bfr at this ⊢
    rw [List.flatMap_cons, List.length_append, this]
    simp
    omega
theorem bfr_snoc (cs : List (List Int32)) {j : Nat} (hj : j < cs.length) : bfr (cs.take (j + 1)) = bfr (cs.take j) ++ nI (cs.getD j []).length :: cs.getD j [] := by
  unfold bfr
  rw [List.take_add_one, List.flatMap_append]
  congr 1
  simp [List.getD_eq_getElem?_getD, hj]
theorem bft_succ (C : Nat → List (List Int32)) (i : Nat) : bft C (i + 1) = bft C i ++ bfr (C i) := by
  unfold bft
  rw [List.range_succ, List.flatMap_append]
  simp
theorem bft_len {C : Nat → List (List Int32)} : ∀ (i : Nat), (∀ j, j < i → (C j).flatten.length + (C j).length ≤ 161) → (bft C i).length ≤ 161 * i
  | 0, _ => by simp [bft]
  | i + 1, h => by
    have := bft_len i (fun j hj => h j (by omega))
    have h2 := h i (by omega)
    rw [bft_succ, List.length_append, bfr_len]
    omega
theorem bfr_take_le (cs : List (List Int32)) (j : Nat) : (bfr (cs.take j)).length ≤ cs.length + cs.flatten.length := by
  rw [bfr_len, List.length_take]
  have := fl_take_le cs j
  omega
theorem MF.push {σ : Hp} {M : Nat} {l : List Int32} (h : MF σ M l) (hl : l.length < 1600) (x : Int32) : MF (inS σ (M + 17) l.length x) M (l ++ [x]) := by
  refine ⟨by rw [List.length_append]; exact hl, fun k hk => ?_⟩
  rw [List.length_append] at hk
  simp only [List.length_cons, List.length_nil] at hk
  rw [in_inS]
  by_cases e : k = l.length
  · subst e
    rw [if_pos ⟨rfl, rfl⟩]
    simp [List.getD_eq_getElem?_getD]
  · rw [if_neg (fun z => e z.2), h.2 k (by omega), getD_app_l (by omega)]
theorem MWd.ai {Q : Nat → Nat → Prop} {σ τ : Hp} {M : Nat} {c : List Int32} (h : MWd σ M c) (hg : ai Q σ τ) (h0 : ¬ Q M 23) (hq : ∀ k, ¬ Q (M + 16) k) : MWd τ M c := ⟨by rw [hg.i h0]; exact h.1, fun k hk => by rw [hg.i (hq k)]; exact h.2 k hk⟩
theorem MF.ai {Q : Nat → Nat → Prop} {σ τ : Hp} {M : Nat} {l : List Int32} (h : MF σ M l) (hg : ai Q σ τ) (hq : ∀ k, ¬ Q (M + 17) k) : MF τ M l := ⟨h.1, fun k hk => by rw [hg.i (hq k)]; exact h.2 k hk⟩
theorem getD_snoc {l : List Int32} {j : Nat} (hj : j < l.length) : l.take (j + 1) = l.take j ++ [l.getD j 0] := by
  rw [List.take_add_one]
  simp [List.getD_eq_getElem?_getD, hj]
theorem m_keep_L1 {M : Nat} {c : List Int32} (kk : Nat → Int32 → Int32 → Int32 → Int32 → Hp → jR) (v2 v3 v4 : Int32) {acc : List Int32} (hc : acc.length + c.length ≤ 1600) (hc16 : c.length ≤ 160) : ∀ (d m j : Nat) (σ : Hp), MH σ M → MWd σ M c → MF σ M (acc ++ c.take j) → c.length - j = d → j ≤ c.length → d < m → ∃ τ, J_X6_keepsCells_L50 kk m M (nI (acc.length + j)) v2 v3 v4 (nI j) σ = kk M (nI (acc.length + c.length)) v2 v3 v4 τ ∧ MF τ M (acc ++ c) ∧ ai (qB M) σ τ := by
  intro d
  induction d with
  | zero =>
    intro m j σ h hw hf hd hj hm
    obtain ⟨m, rfl⟩ : ∃ z, m = z + 1 := ⟨m - 1, by omega⟩
    obtain rfl : j = c.length := by omega
    rw [List.take_length] at hf
    refine ⟨σ, ?_, hf, ai.rf⟩
    show J_X6_keepsCells_L50b kk (J_X6_keepsCells_L50 kk m) M (nI (acc.length + c.length)) v2 v3 v4 (nI c.length) σ = _
    unfold J_X6_keepsCells_L50b
    rw [jgI_ok h.1, hw.1, if_pos (nI_le (Nat.le_refl _) (by omega))]
  | succ d ih =>
    intro m j σ h hw hf hd hj hm
    obtain ⟨m, rfl⟩ : ∃ z, m = z + 1 := ⟨m - 1, by omega⟩
    have hl : (acc ++ c.take j).length = acc.length + j := by rw [List.length_append, List.length_take]; omega
    have hp := hf.push (by rw [hl]; omega) (c.getD j 0)
    rw [hl, List.append_assoc, ← getD_snoc (by omega)] at hp
    have hg : ai (qB M) σ (inS σ (M + 17) (acc.length + j) (c.getD j 0)) := ai_in σ _ rfl
    obtain ⟨τ, a1, a2, a3⟩ := ih m (j + 1) _ (h.ai hg) (hw.ai hg (fun z => by unfold qB at z; omega) (fun k z => by unfold qB at z; omega)) hp (by omega) (by omega) (by omega)
    refine ⟨τ, ?_, a2, hg.tr a3⟩
    show J_X6_keepsCells_L50b kk (J_X6_keepsCells_L50 kk m) M (nI (acc.length + j)) v2 v3 v4 (nI j) σ = _
    unfold J_X6_keepsCells_L50b
    rw [jgI_ok h.1, hw.1, if_neg (nI_ge (by omega) (by omega)), jgR_ok h.1, jgR_ok h.1, h.fr (f := 24) (c := 17) (r := 1600) (by decide), h.fr (f := 22) (c := 16) (r := 160) (by decide), jdr_ok, jaI_ok (h.fk (f := 22) (c := 16) (r := 160) (by decide)) (by omega) (by decide), hw.2 j (by omega), jdr_ok, jsI_ok (h.fk (f := 24) (c := 17) (r := 1600) (by decide)) (by omega) (by decide), nI_1, nI_1]
    exact a1
section MODKP
variable {M : Nat} {buf ks : List Nat} {gs fs ss : List Int32} {E : List (List Nat)} {n : Nat} {T : Nat → Tx} {W : Nat} {wr : List Int32} {be : Int32}
theorem m_keep_L2 (hI : RubI ks gs fs ss E) (hss : ∀ s ∈ ss, ¬ s < 0) {i : Nat} (hi : i < n) (hW : WdI (wd (tX (T i)))) (kk : Nat → Int32 → Int32 → Hp → jR) {acc : List Int32} (hacc : acc.length ≤ 1000) : ∀ (d m j : Nat) (σ : Hp), ModA σ M buf ks gs fs ss E n T W wr be → MF σ M (acc ++ bfr ((clO ks gs fs ss E (T i)).take j)) → (wd (tX (T i))).length - j = d → j ≤ (wd (tX (T i))).length → d < m → ∃ τ, J_X6_keepsCells_L21 kk m M (nI (acc ++ bfr ((clO ks gs fs ss E (T i)).take j)).length) (nI i) (nI (wd (tX (T i))).length) (nI j) σ = kk M (nI (acc ++ bfr (clO ks gs fs ss E (T i))).length) (nI i) τ ∧ MF τ M (acc ++ bfr (clO ks gs fs ss E (T i))) ∧ ai (qS M) σ τ := by
  obtain ⟨hc1, hc2, hc3⟩ := cl_cap ks gs fs ss E hW
  intro d
  induction d with
  | zero =>
    intro m j σ h hf hd hj hm
    obtain ⟨m, rfl⟩ : ∃ z, m = z + 1 := ⟨m - 1, by omega⟩
    obtain rfl : j = (wd (tX (T i))).length := by omega
    have e : (clO ks gs fs ss E (T i)).take (wd (tX (T i))).length = clO ks gs fs ss E (T i) := List.take_of_length_le (by omega)
    rw [e] at hf ⊢
    refine ⟨σ, ?_, hf, ai.rf⟩
    show J_X6_keepsCells_L21b kk (J_X6_keepsCells_L21 kk m) M _ (nI i) (nI _) (nI _) σ = _
    unfold J_X6_keepsCells_L21b
    rw [if_pos (nI_le (Nat.le_refl _) (by omega))]
  | succ d ih =>
    intro m j σ h hf hd hj hm
    obtain ⟨m, rfl⟩ : ∃ z, m = z + 1 := ⟨m - 1, by omega⟩
    have hjw : j < (wd (tX (T i))).length := by omega
    obtain ⟨τ, a1, a2, a3⟩ := m_tr h hI hss hi hjw
    have hA1 := h.ai (a3.up qW_T)
    have hf1 := hf.ai a3 (fun k z => by unfold qW at z; omega)
    have hsn := bfr_snoc (clO ks gs fs ss E (T i)) (j := j) (by omega)
    have htl := bfr_take_le (clO ks gs fs ss E (T i)) j
    have htl1 := bfr_take_le (clO ks gs fs ss E (T i)) (j + 1)
    rw [hsn, List.length_append, List.length_cons] at htl1
    have hp := hf1.push (by rw [List.length_append]; omega) (nI ((clO ks gs fs ss E (T i)).getD j []).length)
    have hg : ai (qB M) τ (inS τ (M + 17) (acc ++ bfr ((clO ks gs fs ss E (T i)).take j)).length (nI ((clO ks gs fs ss E (T i)).getD j []).length)) := ai_in τ _ rfl
    have hl : ∀ (l : List Int32) (x : Int32), (l ++ [x]).length = l.length + 1 := fun l x => by rw [List.length_append]; rfl
    obtain ⟨υ, b1, b2, b3⟩ := m_keep_L1 (fun (x18 : Nat) (x19 : Int32) (x20 : Int32) (x21 : Int32) (x22 : Int32) (t23 : Hp) => J_X6_keepsCells_L21 kk m x18 x19 x20 x21 (x22 + 1) t23) (nI i) (nI (wd (tX (T i))).length) (nI j) (M := M) (c := (clO ks gs fs ss E (T i)).getD j []) (acc := acc ++ bfr ((clO ks gs fs ss E (T i)).take j) ++ [nI ((clO ks gs fs ss E (T i)).getD j []).length]) (by rw [hl, List.length_append]; omega) (by omega) ((clO ks gs fs ss E (T i)).getD j []).length jN 0 _ (hA1.1.ai hg) (a2.ai hg (fun z => by unfold qB at z; omega) (fun k z => by unfold qB at z; omega)) (by rw [List.take_zero, List.append_nil]; exact hp) rfl (Nat.zero_le _) (by unfold jN; omega)
    have e3 : acc ++ bfr ((clO ks gs fs ss E (T i)).take j) ++ [nI ((clO ks gs fs ss E (T i)).getD j []).length] ++ (clO ks gs fs ss E (T i)).getD j [] = acc ++ bfr ((clO ks gs fs ss E (T i)).take (j + 1)) := by rw [hsn]; simp
    rw [← List.length_append, e3, nI_1] at b1
    rw [e3] at b2
    obtain ⟨φ, c1, c2, c3⟩ := ih m (j + 1) υ ((hA1.ai (hg.up qB_T)).ai (b3.up qB_T)) b2 (by omega) (by omega) (by omega)
    refine ⟨φ, ?_, c2, ((a3.up qW_S).tr (hg.up qB_S)).tr ((b3.up qB_S).tr c3)⟩
    show J_X6_keepsCells_L21b kk (J_X6_keepsCells_L21 kk m) M (nI _) (nI i) (nI _) (nI j) σ = _
    unfold J_X6_keepsCells_L21b
    rw [if_neg (nI_ge hjw (by omega)), jcv_ok h.1.1 a1, jvV_ok, jgR_ok hA1.1.1, jgI_ok hA1.1.1, hA1.1.fr (f := 24) (c := 17) (r := 1600) (by decide), jdr_ok, a2.1, jsI_ok (hA1.1.fk (f := 24) (c := 17) (r := 1600) (by decide)) (by rw [List.length_append]; omega) (by decide), nI_1]
    rw [hl, Nat.add_zero] at b1
    exact b1.trans c1
theorem m_keep (hI : RubI ks gs fs ss E) (hss : ∀ s ∈ ss, ¬ s < 0) (hW : ∀ i, i < n → WdI (wd (tX (T i)))) {σ : Hp} (h : ModA σ M buf ks gs fs ss E n T W wr be) : ∃ τ, J_X6_keepsCells M σ = some (.inl none, τ) ∧ MF τ M (bft (fun i => clO ks gs fs ss E (T i)) n) ∧ ai (qS M) σ τ := by
  have hn := h.2.2.2.2.1.1.2
  have loop : ∀ (d m i : Nat) (σ : Hp), ModA σ M buf ks gs fs ss E n T W wr be → MF σ M (bft (fun i => clO ks gs fs ss E (T i)) i) → n - i = d → i ≤ n → d < m → ∃ τ, J_X6_keepsCells_L4 m M (nI (bft (fun i => clO ks gs fs ss E (T i)) i).length) (nI i) σ = some (.inl none, τ) ∧ MF τ M (bft (fun i => clO ks gs fs ss E (T i)) n) ∧ ai (qS M) σ τ := by
    intro d
    induction d with
    | zero =>
      intro m i σ h hf hd hi hm
      obtain ⟨m, rfl⟩ : ∃ z, m = z + 1 := ⟨m - 1, by omega⟩
      obtain rfl : i = n := by omega
      refine ⟨σ, ?_, hf, ai.rf⟩
      show J_X6_keepsCells_L4b (J_X6_keepsCells_L4 m) M _ (nI i) σ = _
      unfold J_X6_keepsCells_L4b
      rw [jgI_ok h.1.1, h.2.2.2.2.1.1.1, if_pos (nI_le (Nat.le_refl _) (by omega))]
    | succ d ih =>
      intro m i σ h hf hd hi hm
      obtain ⟨m, rfl⟩ : ∃ z, m = z + 1 := ⟨m - 1, by omega⟩
      have hin : i < n := by omega
      have hbl := bft_len (C := fun i => clO ks gs fs ss E (T i)) i (fun j hj => (cl_cap ks gs fs ss E (hW j (by omega))).2.2)
      have hwl := (hW i hin).2.2.1
      obtain ⟨τ, a1, a2, a3⟩ := m_keep_L2 hI hss hin (hW i hin) (fun (x24 : Nat) (x25 : Int32) (x26 : Int32) (t27 : Hp) => J_X6_keepsCells_L4 m x24 x25 (x26 + 1) t27) (acc := bft (fun i => clO ks gs fs ss E (T i)) i) (by omega) (wd (tX (T i))).length jN 0 σ h (by rw [List.take_zero]; simpa [bfr] using hf) rfl (Nat.zero_le _) (by unfold jN; omega)
      rw [← bft_succ (fun i => clO ks gs fs ss E (T i)) i, nI_1] at a1
      rw [← bft_succ (fun i => clO ks gs fs ss E (T i)) i] at a2
      obtain ⟨υ, b1, b2, b3⟩ := ih m (i + 1) τ (h.ai (a3.up qS_T)) a2 (by omega) (by omega) (by omega)
      refine ⟨υ, ?_, b2, a3.tr b3⟩
      show J_X6_keepsCells_L4b (J_X6_keepsCells_L4 m) M _ (nI i) σ = _
      unfold J_X6_keepsCells_L4b
      rw [jgI_ok h.1.1, h.2.2.2.2.1.1.1, if_neg (nI_ge hin (by omega)), jcv_ok h.1.1 (m_words h hin), jvI_ok]
      rw [List.take_zero] at a1
      have e0 : bft (fun i => clO ks gs fs ss E (T i)) i ++ bfr [] = bft (fun i => clO ks gs fs ss E (T i)) i := by simp [bfr]
      rw [e0] at a1
      exact a1.trans b1
  exact loop n jN 0 σ h ⟨Nat.zero_le _, fun k hk => (Nat.not_lt_zero k hk).elim⟩ rfl (Nat.zero_le _) (by unfold jN; omega)
end MODKP
