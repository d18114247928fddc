/-! The model types a text. -/
section MODSE
variable {σ : Hp} {M : Nat} {buf ks : List Nat} {gs fs ss : List Int32} {E : List (List Nat)} {n : Nat} {T T' : Nat → Tx} {W : Nat} {wr : List Int32} {be : Int32}
/-- text i is typed: its cells, its length and grade, the buffer's count, marks -/
def qY (M i : Nat) : Nat → Nat → Prop := fun a k => (a = M + 8 ∧ 80 * i ≤ k ∧ k < 80 * i + 80) ∨ (a = M + 9 ∧ k = i) ∨ (a = M + 10 ∧ k = i) ∨ (a = M ∧ k = 2) ∨ (a = M + 14 ∧ ((40 * i ≤ k ∧ k < 40 * i + 40) ∨ (240 + 40 * i ≤ k ∧ k < 240 + 40 * i + 40))) ∨ (a = M ∧ k = 14)
theorem qY_A {i : Nat} : ∀ a k, qY M i a k → qA M a k := fun a k z => by unfold qY at z; unfold qA; omega
/-- marks are wiped, and the words are told -/
theorem m_set_L2 {i : Nat} (hi : i < 6) {t : List Nat} {g : Int32} : ∀ (d m k : Nat) (σ : Hp), MH σ M → MT σ M i t g → (∀ k', k' < k → inH σ (M + 14) (40 * i + k') = 0 ∧ inH σ (M + 14) (240 + 40 * i + k') = 0) → 40 - k = d → k ≤ 40 → d < m → ∃ τ, J_X6_setText_L157 m M (nI i) (nI k) σ = some (.inl (some (.int (nI (wd t).length))), τ) ∧ (∀ k', k' < 40 → inH τ (M + 14) (40 * i + k') = 0 ∧ inH τ (M + 14) (240 + 40 * i + k') = 0) ∧ ai (fun a k => a = M + 14 ∧ ((40 * i ≤ k ∧ k < 40 * i + 40) ∨ (240 + 40 * i ≤ k ∧ k < 240 + 40 * i + 40))) σ τ := by
  intro d
  induction d with
  | zero =>
    intro m k σ h hT hr hd hk hm
    obtain ⟨m, rfl⟩ : ∃ z, m = z + 1 := ⟨m - 1, by omega⟩
    obtain rfl : k = 40 := by omega
    refine ⟨σ, ?_, hr, ai.rf⟩
    show J_X6_setText_L157b (J_X6_setText_L157 m) M (nI i) (nI 40) σ = _
    unfold J_X6_setText_L157b
    rw [if_pos (by decide), jcv_ok h.1 (s_M_wordsOf h hT), jvI_ok]
  | succ d ih =>
    intro m k σ h hT hr hd hk hm
    obtain ⟨m, rfl⟩ : ∃ z, m = z + 1 := ⟨m - 1, by omega⟩
    have k19 := h.fk (f := 19) (c := 14) (r := 480) (by decide)
    have f19 := h.fr (f := 19) (c := 14) (r := 480) (by decide)
    have hg : ai (fun a k => a = M + 14 ∧ ((40 * i ≤ k ∧ k < 40 * i + 40) ∨ (240 + 40 * i ≤ k ∧ k < 240 + 40 * i + 40))) σ (inS (inS σ (M + 14) (40 * i + k) 0) (M + 14) (240 + 40 * i + k) 0) := (ai_in (Q := fun a k => a = M + 14 ∧ ((40 * i ≤ k ∧ k < 40 * i + 40) ∨ (240 + 40 * i ≤ k ∧ k < 240 + 40 * i + 40))) _ _ ⟨rfl, Or.inl ⟨by omega, by omega⟩⟩).tr (ai_in (Q := fun a k => a = M + 14 ∧ ((40 * i ≤ k ∧ k < 40 * i + 40) ∨ (240 + 40 * i ≤ k ∧ k < 240 + 40 * i + 40))) _ _ ⟨rfl, Or.inr ⟨by omega, by omega⟩⟩)
    obtain ⟨τ, a1, a2, a3⟩ := ih m (k + 1) _ (h.ai hg) (hT.ai hg (fun k => ⟨fun z => by omega, fun z => by omega, fun z => by omega⟩)) (fun k' hk' => by
      rw [in_inS, in_inS, in_inS, in_inS]
      by_cases e : k' = k
      · rw [if_neg (by omega), if_pos ⟨rfl, by rw [e]⟩, if_pos ⟨rfl, by rw [e]⟩]
        exact ⟨rfl, rfl⟩
      · rw [if_neg (by omega), if_neg (by omega), if_neg (by omega), if_neg (by omega)]
        exact hr k' (by omega)) (by omega) (by omega) (by omega)
    refine ⟨τ, ?_, a2, hg.tr a3⟩
    show J_X6_setText_L157b (J_X6_setText_L157 m) M (nI i) (nI k) σ = _
    unfold J_X6_setText_L157b
    rw [if_neg (show ¬ (40 : Int32) ≤ nI k from nI_ge (b := 40) (by omega) (by omega)), jgR_ok h.1, f19, jdr_ok, e40, jsI_ok k19 (by omega) (by decide), jgR_ok (by exact h.1), rf_inS, f19, jdr_ok, e240, jsI_ok (by exact k19) (by omega) (by decide), nI_1]
    exact a1
/-- the buffer goes into the text -/
theorem m_set_L1 {i : Nat} (hi : i < 6) (hb : (∀ c ∈ buf, c ≤ 26) ∧ buf.length ≤ 80) (g : Int32) : ∀ (d m k : Nat) (σ : Hp), MH σ M → MB σ M buf → (∀ k', k' < k → inH σ (M + 8) (80 * i + k') = nI (buf.getD k' 0)) → 80 - k = d → k ≤ 80 → d < m → ∃ τ, J_X6_setText_L87 m M (nI i) g (nI k) σ = some (.inl (some (.int (nI (wd buf).length))), τ) ∧ MT τ M i buf g ∧ inH τ M 2 = 0 ∧ (∀ k', k' < 40 → inH τ (M + 14) (40 * i + k') = 0 ∧ inH τ (M + 14) (240 + 40 * i + k') = 0) ∧ ai (fun a k => (a = M + 8 ∧ 80 * i ≤ k ∧ k < 80 * i + 80) ∨ (a = M + 9 ∧ k = i) ∨ (a = M + 10 ∧ k = i) ∨ (a = M ∧ k = 2) ∨ (a = M + 14 ∧ ((40 * i ≤ k ∧ k < 40 * i + 40) ∨ (240 + 40 * i ≤ k ∧ k < 240 + 40 * i + 40)))) σ τ := by
  intro d
  induction d with
  | zero =>
    intro m k σ h hB hr hd hk hm
    obtain ⟨m, rfl⟩ : ∃ z, m = z + 1 := ⟨m - 1, by omega⟩
    obtain rfl : k = 80 := by omega
    have f12 := h.fr (f := 12) (c := 9) (r := 6) (by decide)
    have k12 := h.fk (f := 12) (c := 9) (r := 6) (by decide)
    have f13 := h.fr (f := 13) (c := 10) (r := 6) (by decide)
    have k13 := h.fk (f := 13) (c := 10) (r := 6) (by decide)
    have hg1 : ai (fun a k => (a = M + 9 ∧ k = i) ∨ (a = M + 10 ∧ k = i) ∨ (a = M ∧ k = 2)) σ (inS (inS (inS σ (M + 9) i (nI buf.length)) (M + 10) i g) M 2 0) := ((ai_in (Q := fun a k => (a = M + 9 ∧ k = i) ∨ (a = M + 10 ∧ k = i) ∨ (a = M ∧ k = 2)) _ _ (Or.inl ⟨rfl, rfl⟩)).tr (ai_in (Q := fun a k => (a = M + 9 ∧ k = i) ∨ (a = M + 10 ∧ k = i) ∨ (a = M ∧ k = 2)) _ _ (Or.inr (Or.inl ⟨rfl, rfl⟩)))).tr (ai_in (Q := fun a k => (a = M + 9 ∧ k = i) ∨ (a = M + 10 ∧ k = i) ∨ (a = M ∧ k = 2)) _ _ (Or.inr (Or.inr ⟨rfl, rfl⟩)))
    have hT : MT (inS (inS (inS σ (M + 9) i (nI buf.length)) (M + 10) i g) M 2 0) M i buf g := by
      refine ⟨⟨hi, hb.2, hb.1⟩, ?_, ?_, fun k hk => ?_⟩
      · rw [in_inS, if_neg (by omega), in_inS, if_neg (by omega), in_inS, if_pos ⟨rfl, rfl⟩]
      · rw [in_inS, if_neg (by omega), in_inS, if_pos ⟨rfl, rfl⟩]
      · rw [in_inS, if_neg (by omega), in_inS, if_neg (by omega), in_inS, if_neg (by omega)]
        exact hr k hk
    obtain ⟨τ, a1, a2, a3⟩ := m_set_L2 hi 40 jN 0 _ (h.ai hg1) hT (fun k' hk' => (Nat.not_lt_zero k' hk').elim) rfl (by omega) (by unfold jN; omega)
    refine ⟨τ, ?_, hT.ai a3 (fun k => ⟨fun z => by omega, fun z => by omega, fun z => by omega⟩), by rw [a3.i (fun z => by omega), in_inS, if_pos ⟨rfl, rfl⟩], a2, (hg1.up (fun a k z => by omega)).tr (a3.up (fun a k z => by omega))⟩
    show J_X6_setText_L87b (J_X6_setText_L87 m) M (nI i) g (nI 80) σ = _
    unfold J_X6_setText_L87b
    rw [if_pos (by decide), jgR_ok h.1, jgI_ok h.1, f12, jdr_ok, hB.1, jsI_ok k12 hi (by decide), jgR_ok (by exact h.1), rf_inS, f13, jdr_ok, jsI_ok (by exact k13) hi (by decide), jpI_ok (by exact h.1)]
    exact a1
  | succ d ih =>
    intro m k σ h hB hr hd hk hm
    obtain ⟨m, rfl⟩ : ∃ z, m = z + 1 := ⟨m - 1, by omega⟩
    have f11 := h.fr (f := 11) (c := 8) (r := 480) (by decide)
    have k11 := h.fk (f := 11) (c := 8) (r := 480) (by decide)
    have hg : ai (fun a k => a = M + 8 ∧ 80 * i ≤ k ∧ k < 80 * i + 80) σ (inS σ (M + 8) (80 * i + k) (nI (buf.getD k 0))) := ai_in σ _ ⟨rfl, by omega, by omega⟩
    obtain ⟨τ, a1, a2, a3, a4, a5⟩ := ih m (k + 1) _ (h.ai hg) (hB.ai hg (fun z => by omega) (fun k z => by omega)) (fun k' hk' => by
      rw [in_inS]
      by_cases e : k' = k
      · rw [if_pos ⟨rfl, by rw [e]⟩, e]
      · rw [if_neg (by omega)]
        exact hr k' (by omega)) (by omega) (by omega) (by omega)
    refine ⟨τ, ?_, a2, a3, a4, (hg.up (fun a k z => Or.inl z)).tr a5⟩
    show J_X6_setText_L87b (J_X6_setText_L87 m) M (nI i) g (nI k) σ = _
    unfold J_X6_setText_L87b jj
    dsimp only
    rw [if_neg (show ¬ (80 : Int32) ≤ nI k from nI_ge (b := 80) (by omega) (by omega)), jgR_ok h.1, jgI_ok h.1, f11, hB.1, nI_1, e80]
    have go : ∀ x, x = nI (buf.getD k 0) → jdr (some (M + 8)) (fun b37 => jsI σ b37 (nI (80 * i + k)) x (fun t38 => J_X6_setText_L87 m M (nI i) g (nI (k + 1)) t38)) = some (.inl (some (.int (nI (wd buf).length))), τ) := by
      intro x hx
      rw [jdr_ok, jsI_ok k11 (by omega) (by decide), hx]
      exact a1
    by_cases c : buf.length ≤ k
    · rw [if_pos (nI_le c (by omega))]
      refine go 0 ?_
      have : buf.getD k 0 = 0 := by simp [List.getD_eq_getElem?_getD, c]
      rw [this]
      rfl
    · rw [if_neg (nI_ge (by omega) (by omega)), mrd h (f := 1) (c := 1) (r := 80) (by decide) (by omega), hB.2 k (by omega)]
      exact go _ rfl
theorem m_set_no (h : ModV σ M buf ks gs fs ss E n T W wr be) {x : Int32} (g : Int32) (hx : ¬ (inN x 6 ∧ inN x (n + 1))) : mrs σ M (J_X6_setText M x g σ) 1 0 (fun τ => ModV τ M buf ks gs fs ss E n T W wr be) := by
  have hn := h.1.2.2.2.2.1.1.2
  refine ⟨inS σ M 0 1, ?_, in_0 σ M 1, h.th 1, ai_0 σ M 1⟩
  have c1 : ¬ inN x n := fun ⟨j, hj, e⟩ => hx ⟨⟨j, by omega, e⟩, ⟨j, by omega, e⟩⟩
  unfold J_X6_setText jj
  dsimp only
  rw [jcv_ok h.1.1.1 ((m_text h.1 x).2 c1), jvI_ok, if_pos rfl, jgI_ok h.1.1.1, h.1.2.2.2.2.1.1.1]
  by_cases c2 : x = nI n
  · have : n = 6 := Classical.byContradiction (fun z => hx ⟨⟨n, by omega, c2⟩, ⟨n, by omega, c2⟩⟩)
    rw [if_pos c2, jgI_ok h.1.1.1, h.1.2.2.2.2.1.1.1, if_pos (show (6 : Int32) ≤ nI n from nI_le (a := 6) (by omega) (by omega)), if_pos rfl, jcv_ok h.1.1.1 (s_M_goesOn h.1.1 1), jvI_ok, if_pos (by decide)]
  · rw [if_neg c2, if_pos rfl, jcv_ok h.1.1.1 (s_M_goesOn h.1.1 1), jvI_ok, if_pos (by decide)]
/-- the number of a text, or of a new one -/
theorem m_set_is (h : ModV σ M buf ks gs fs ss E n T W wr be) {i : Nat} (hi : i < 6) (hin : i ≤ n) (A B : jR) : (jcv σ M 6 (J_X6_isText M (nI i) σ) (fun w2 t1 => jvI w2 (fun x3 => if x3 = 0 then jgI t1 M 6 14 (fun x46 => if nI i = x46 then jgI t1 M 6 14 (fun x48 => if 6 ≤ x48 then B else A) else B) else A)) (fun E t => some (.inr E, t))) = A := by
  have hn := h.1.2.2.2.2.1.1.2
  by_cases c : i < n
  · rw [jcv_ok h.1.1.1 ((m_text h.1 _).1 ⟨i, c, rfl⟩), jvI_ok, if_neg (by decide)]
  · have e : i = n := by omega
    rw [jcv_ok h.1.1.1 ((m_text h.1 _).2 (fun ⟨j, hj, z⟩ => by have := (nI_eq (by omega) (by omega)).mp z; omega)), jvI_ok, if_pos rfl, jgI_ok h.1.1.1, h.1.2.2.2.2.1.1.1, if_pos (by rw [e]), jgI_ok h.1.1.1, h.1.2.2.2.2.1.1.1, if_neg (show ¬ (6 : Int32) ≤ nI n from nI_ge (b := 6) (by omega) (by omega))]
theorem m_set_2 (h : ModV σ M buf ks gs fs ss E n T W wr be) {x g : Int32} (h1 : inN x 6) (h2 : inN x (n + 1)) (hg : ¬ inR g 1 2) : mrs σ M (J_X6_setText M x g σ) 2 0 (fun τ => ModV τ M buf ks gs fs ss E n T W wr be) := by
  have hn := h.1.2.2.2.2.1.1.2
  refine ⟨inS σ M 0 2, ?_, in_0 σ M 2, h.th 2, ai_0 σ M 2⟩
  obtain ⟨i, hi, rfl⟩ := h1
  obtain ⟨j, hj, e⟩ := h2
  have e := (nI_eq (by omega) (by omega)).mp e
  subst e
  unfold J_X6_setText jj
  dsimp only
  by_cases c : i < n
  · rw [jcv_ok h.1.1.1 ((m_text h.1 _).1 ⟨i, c, rfl⟩), jvI_ok, if_neg (by decide), if_neg (by decide), jcs_ok ((m_in_R g 1 2).2 hg), jvI_ok, if_pos rfl, jcv_ok h.1.1.1 (s_M_goesOn h.1.1 2), jvI_ok, if_pos (by decide)]
  · have e : i = n := by omega
    rw [jcv_ok h.1.1.1 ((m_text h.1 _).2 (fun ⟨j, hj, z⟩ => by have := (nI_eq (by omega) (by omega)).mp z; omega)), jvI_ok, if_pos rfl, jgI_ok h.1.1.1, h.1.2.2.2.2.1.1.1, if_pos (by rw [e]), jgI_ok h.1.1.1, h.1.2.2.2.2.1.1.1, if_neg (show ¬ (6 : Int32) ≤ nI n from nI_ge (b := 6) (by omega) (by omega)), if_neg (by decide), jcs_ok ((m_in_R g 1 2).2 hg), jvI_ok, if_pos rfl, jcv_ok h.1.1.1 (s_M_goesOn h.1.1 2), jvI_ok, if_pos (by decide)]
theorem m_set_ok (h : ModV σ M buf ks gs fs ss E n T W wr be) (hb : (∀ c ∈ buf, c ≤ 26) ∧ buf.length ≤ 80) (hw : ∀ x, x < n → (wd (tX (T x))).length ≤ 40) {g : Int32} {i n' : Nat} {U : Tx} (hi : i < 6) (hg : inR g 1 2) (hU : (i < n ∧ n' = n ∧ U = T i) ∨ (i = n ∧ n' = n + 1 ∧ tE U = [])) : mrs σ M (J_X6_setText M (nI i) g σ) 0 (nI (wd buf).length) (fun τ => ModV τ M [] ks gs fs ss E n' (fun k => if k = i then sTx U buf g else T k) W wr be) := by
  have hn := h.1.2.2.2.2.1.1.2
  have h0 := h.th 0
  have hn' : n' ≤ 6 := by rcases hU with ⟨a, b, c⟩ | ⟨a, b, c⟩ <;> omega
  have hx0 : inH (inS σ M 0 0) M 14 = nI n := h0.1.2.2.2.2.1.1.1
  have g14 : ai (qY M i) (inS σ M 0 0) (inS (inS σ M 0 0) M 14 (nI n')) := ai_in _ _ (Or.inr (Or.inr (Or.inr (Or.inr (Or.inr ⟨rfl, rfl⟩)))))
  have H1 := h0.1.1.ai g14
  obtain ⟨τ, a1, a2, a3, a4, a5⟩ := m_set_L1 hi hb g 80 jN 0 (inS (inS σ M 0 0) M 14 (nI n')) H1 ⟨by rw [in_inS, if_neg (by omega)]; exact h0.1.2.1.1, fun k hk => by rw [in_inS, if_neg (by omega)]; exact h0.1.2.1.2 k hk⟩ (fun k' hk' => (Nat.not_lt_zero k' hk').elim) rfl (by omega) (by unfold jN; omega)
  have gg : ai (qY M i) (inS σ M 0 0) τ := g14.tr (a5.up (fun a k z => by unfold qY; omega))
  have n14 : inH τ M 14 = nI n' := by rw [a5.i (fun z => by omega), in_inS, if_pos ⟨rfl, rfl⟩]
  have nY : ∀ k, k ≠ 2 → k ≠ 14 → ¬ qY M i M k := fun k h1 h2 z => by unfold qY at z; omega
  have nY2 : ∀ c k, (1 ≤ c ∧ c ≤ 7) ∨ (11 ≤ c ∧ c ≤ 13) ∨ 15 ≤ c → ¬ qY M i (M + c) k := fun c k hc z => by unfold qY at z; omega
  refine ⟨τ, ?_, ?_, ⟨⟨h0.1.1.ai gg, ⟨?_, fun k hk => (Nat.not_lt_zero k hk).elim⟩, h0.1.2.2.1.ai gg (fun k => ⟨nY2 2 k (by omega), nY2 3 k (by omega), nY2 4 k (by omega), nY2 5 k (by omega)⟩) (nY 7 (by omega) (by omega)), h0.1.2.2.2.1.ai gg (nY 10 (by omega) (by omega)) (fun k => ⟨nY2 6 k (by omega), nY2 7 k (by omega)⟩), ⟨⟨n14, hn'⟩, fun x hx => ?_, fun x hx1 hx2 => ?_⟩, h0.1.2.2.2.2.2.ai gg (nY 15 (by omega) (by omega)) (nY 20 (by omega) (by omega)) (fun k => nY2 15 k (by omega))⟩, fun x hx w e he hwl => ?_⟩, (ai_0 σ M 0).tr (gg.up qY_A)⟩
  · unfold J_X6_setText jj
    dsimp only
    have fin : jgI (inS σ M 0 0) M 6 14 (fun x11 => jgI (inS σ M 0 0) M 6 14 (fun x12 => if nI i = x12 then jpI (inS σ M 0 0) M 6 14 (x11 + 1) (fun t15 => J_X6_setText_L87 jN M (nI i) g 0 t15) else jpI (inS σ M 0 0) M 6 14 (x11 + 0) (fun t15 => J_X6_setText_L87 jN M (nI i) g 0 t15))) = some (.inl (some (.int (nI (wd buf).length))), τ) := by
      rw [jgI_ok h0.1.1.1, jgI_ok h0.1.1.1, hx0]
      rcases hU with ⟨u1, u2, u3⟩ | ⟨u1, u2, u3⟩
      · rw [if_neg (fun z => by have := (nI_eq (by omega) (by omega)).mp z; omega), show nI n + 0 = nI (n + 0) from nI_add _ 0, jpI_ok h0.1.1.1, Nat.add_zero, ← u2]
        exact a1
      · rw [if_pos (by rw [u1]), nI_1, jpI_ok h0.1.1.1, ← u2]
        exact a1
    by_cases c : i < n
    · rw [jcv_ok h.1.1.1 ((m_text h.1 _).1 ⟨i, c, rfl⟩), jvI_ok, if_neg (by decide), if_neg (by decide), jcs_ok ((m_in_R g 1 2).1 hg), jvI_ok, if_neg (by decide), jcv_ok h.1.1.1 (s_M_goesOn h.1.1 0), jvI_ok, if_neg (by decide)]
      exact fin
    · have e : i = n := by omega
      rw [jcv_ok h.1.1.1 ((m_text h.1 _).2 (fun ⟨j, hj, z⟩ => by have := (nI_eq (by omega) (by omega)).mp z; omega)), jvI_ok, if_pos rfl, jgI_ok h.1.1.1, h.1.2.2.2.2.1.1.1, if_pos (by rw [e]), jgI_ok h.1.1.1, h.1.2.2.2.2.1.1.1, if_neg (show ¬ (6 : Int32) ≤ nI n from nI_ge (b := 6) (by omega) (by omega)), if_neg (by decide), jcs_ok ((m_in_R g 1 2).1 hg), jvI_ok, if_neg (by decide), jcv_ok h.1.1.1 (s_M_goesOn h.1.1 0), jvI_ok, if_neg (by decide)]
      exact fin
  · rw [gg.i (nY 0 (by omega) (by omega))]
    exact in_0 σ M 0
  · exact a3
  · by_cases e : x = i
    · subst e
      dsimp only
      rw [if_pos rfl]
      refine ⟨a2, ?_⟩
      have hE : tE (sTx U buf g) = tE U := rfl
      rw [hE]
      rcases hU with ⟨u1, u2, u3⟩ | ⟨u1, u2, u3⟩
      · rw [u3]
        exact (h0.1.2.2.2.2.1.2.1 x u1).2.ai gg (fun k => ⟨nY2 11 k (by omega), nY2 12 k (by omega), nY2 13 k (by omega)⟩)
      · rw [u3]
        refine ⟨⟨Nat.zero_le _, fun j hj => (Nat.not_lt_zero j hj).elim⟩, ?_, fun j hj => (Nat.not_lt_zero j hj).elim⟩
        rw [gg.i (nY2 13 _ (by omega))]
        exact h0.1.2.2.2.2.1.2.2 x (by omega) hi
    · have hxn : x < n := by rcases hU with ⟨u1, u2, u3⟩ | ⟨u1, u2, u3⟩ <;> omega
      dsimp only
      rw [if_neg e]
      obtain ⟨t1, t2⟩ := h0.1.2.2.2.2.1.2.1 x hxn
      refine ⟨?_, t2.ai gg (fun k => ⟨nY2 11 k (by omega), nY2 12 k (by omega), nY2 13 k (by omega)⟩)⟩
      obtain ⟨q1, q2, q3, q4⟩ := t1
      exact ⟨q1, by rw [gg.i (fun z => by unfold qY at z; omega)]; exact q2, by rw [gg.i (fun z => by unfold qY at z; omega)]; exact q3, fun k hk => by rw [gg.i (fun z => by unfold qY at z; omega)]; exact q4 k hk⟩
  · rw [gg.i (nY2 13 _ (by omega))]
    exact h0.1.2.2.2.2.1.2.2 x (by rcases hU with ⟨u1, u2, u3⟩ | ⟨u1, u2, u3⟩ <;> omega) hx2
  · by_cases e2 : x = i
    · subst e2
      have hwb : (wd buf).length ≤ 40 := (wd_I hb.1 hb.2).2.2.1
      have hL : tL (fun k => if k = x then sTx U buf g else T k) x = (wd buf).length := by
        unfold tL
        dsimp only
        rw [if_pos rfl]
        rfl
      have hF : tF (fun k => if k = x then sTx U buf g else T k) x (2 * w + e) = 45 := by
        unfold tF
        dsimp only
        rw [if_pos rfl]
        show (List.replicate (2 * (wd buf).length) (45 : Int32)).getD (2 * w + e) 0 = 45
        rw [hL] at hwl
        simp [List.getD_eq_getElem?_getD, List.getElem?_replicate, show 2 * w + e < 2 * (wd buf).length by omega]
      rw [hF]
      rw [hL] at hwl
      have hz := a4 w (by omega)
      rcases (show e = 0 ∨ e = 1 by omega) with rfl | rfl
      · rw [Nat.mul_zero, Nat.zero_add]
        exact hz.1
      · rw [Nat.mul_one]
        exact hz.2
    · have hxn : x < n := by rcases hU with ⟨u1, u2, u3⟩ | ⟨u1, u2, u3⟩ <;> omega
      have hL : tL (fun k => if k = i then sTx U buf g else T k) x = tL T x := by
        unfold tL
        dsimp only
        rw [if_neg e2]
      have hF : tF (fun k => if k = i then sTx U buf g else T k) x (2 * w + e) = tF T x (2 * w + e) := by
        unfold tF
        dsimp only
        rw [if_neg e2]
      rw [hF]
      rw [hL] at hwl
      have hw40 := hw x hxn
      have hwl' : w < (wd (tX (T x))).length := hwl
      rw [gg.i (fun z => by unfold qY at z; omega)]
      exact h0.2 x hxn w e he hwl
end MODSE
