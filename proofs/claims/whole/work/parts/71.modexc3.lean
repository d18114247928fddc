/-! The model turns an exception. -/
section MODTE
variable {σ : Hp} {M : Nat} {buf ks : List Nat} {gs fs ss : List Int32} {E : List (List Nat)} {n : Nat} {T T' : Nat → Tx} {W : Nat} {wr : List Int32} {be : Int32}
def qX (M : Nat) : Nat → Nat → Prop := fun a k => a = M + 6 ∨ a = M + 7 ∨ (a = M ∧ k = 10)
theorem qX_A : ∀ a k, qX M a k → qA M a k := fun a k z => by unfold qX at z; unfold qA; omega
theorem ModV.ex {τ : Hp} {E' : List (List Nat)} (h : ModV σ M buf ks gs fs ss E n T W wr be) (g : ai (qX M) σ τ) (hX : MX τ M E') : ModV τ M buf ks gs fs ss E' n T W wr be := by
  have nP : ∀ k, k ≠ 10 → ¬ qX M M k := fun k hk z => by unfold qX at z; omega
  have nP2 : ∀ c k, (1 ≤ c ∧ c ≤ 5) ∨ 8 ≤ c → ¬ qX M (M + c) k := fun c k hc z => by unfold qX at z; omega
  obtain ⟨⟨h0, h1, h2, h3, h4, h5⟩, h6⟩ := h
  exact ⟨⟨h0.ai g, h1.ai g (nP 2 (by omega)) (fun k => nP2 1 k (by omega)), h2.ai g (fun k => ⟨nP2 2 k (by omega), nP2 3 k (by omega), nP2 4 k (by omega), nP2 5 k (by omega)⟩) (nP 7 (by omega)), hX, h4.ai g (nP 14 (by omega)) (fun a k _ _ z => by unfold qX at z; omega), h5.ai g (nP 15 (by omega)) (nP 20 (by omega)) (fun k => nP2 15 k (by omega))⟩, h6.ai g (fun k => nP2 14 k (by omega))⟩
theorem oneW_b : oneW buf ↔ 1 ≤ buf.length ∧ 0 ∉ buf := by
  unfold oneW
  exact ⟨fun ⟨a, b⟩ => ⟨a, fun z => b 0 z rfl⟩, fun ⟨a, b⟩ => ⟨a, fun x hx z => b (z ▸ hx)⟩⟩
/-- what the model does when the exceptions are others -/
def teE (a0 : Nat) (v2 : Int32) (t45 : Hp) : jR := jpI t45 a0 6 2 0 (fun t46 => jcv t46 a0 6 (J_X6_textsChanged a0 t46) (fun w48 t47 => jvI w48 (fun x49 => (if v2 = ((-1)) then jrt .boolean 1 t47 else jrt .boolean 0 t47))) (fun E t => some (.inr E, t)))
theorem m_te_add (hb : (∀ c ∈ buf, c ≤ 26) ∧ buf.length ≤ 80) (h20 : E.length < 20) (v2 : Int32) : ∀ (d m k : Nat) (σ : Hp), MH σ M → MB σ M buf → MX σ M E → (∀ k', k' < k → inH σ (M + 6) (80 * E.length + k') = nI (buf.getD k' 0)) → buf.length - k = d → k ≤ buf.length → d < m → lts buf → ∃ τ, J_X6_turnException_L80 m M v2 (nI k) σ = teE M v2 τ ∧ MX τ M (E ++ [buf]) ∧ ai (qX M) σ τ := by
  intro d
  induction d with
  | zero =>
    intro m k σ h hB hX hr hd hk hm hlt
    obtain ⟨m, rfl⟩ : ∃ z, m = z + 1 := ⟨m - 1, by omega⟩
    have hg1 : ai (qX M) σ (inS σ (M + 7) E.length (nI buf.length)) := ai_in σ _ (Or.inr (Or.inl rfl))
    obtain ⟨x1, x2, x3⟩ := hX
    refine ⟨inS (inS σ (M + 7) E.length (nI buf.length)) M 10 (nI (E.length + 1)), ?_, ⟨?_, ?_, fun e he => ?_⟩, hg1.tr (ai_in (Q := qX M) _ _ (Or.inr (Or.inr ⟨rfl, rfl⟩)))⟩
    · show J_X6_turnException_L80b (J_X6_turnException_L80 m) M v2 (nI k) σ = _
      unfold J_X6_turnException_L80b
      rw [jgI_ok h.1, hB.1, if_pos (nI_le (by omega) (by omega)), jgR_ok h.1, jgI_ok h.1, jgI_ok h.1, h.fr (f := 9) (c := 7) (r := 20) (by decide), jdr_ok, x1, hB.1, jsI_ok (h.fk (f := 9) (c := 7) (r := 20) (by decide)) h20 (by decide), jgI_ok (by exact h.1), in_inS, if_neg (by omega), x1, jpI_ok (by exact h.1), nI_1]
      rfl
    · rw [in_inS, if_pos ⟨rfl, rfl⟩, List.length_append]
      rfl
    · rw [List.length_append]
      exact h20
    · rw [List.length_append] at he
      simp only [List.length_cons, List.length_nil] at he
      by_cases c : e = E.length
      · subst c
        have e1 : (E ++ [buf]).getD E.length [] = buf := by simp [List.getD_eq_getElem?_getD]
        rw [e1]
        refine ⟨hb.2, hlt, ?_, fun k' hk' => ?_⟩
        · rw [in_inS, if_neg (by omega), in_inS, if_pos ⟨rfl, rfl⟩]
        · rw [in_inS, if_neg (by omega), in_inS, if_neg (by omega)]
          exact hr k' (by omega)
      · have e1 : (E ++ [buf]).getD e [] = E.getD e [] := by simp [List.getD_eq_getElem?_getD, List.getElem?_append_left (show e < E.length by omega)]
        rw [e1]
        obtain ⟨y1, y2, y3, y4⟩ := x3 e (by omega)
        refine ⟨y1, y2, ?_, fun k' hk' => ?_⟩
        · rw [in_inS, if_neg (by omega), in_inS, if_neg (by omega)]
          exact y3
        · rw [in_inS, if_neg (by omega), in_inS, if_neg (by omega)]
          exact y4 k' hk'
  | succ d ih =>
    intro m k σ h hB hX hr hd hk hm hlt
    obtain ⟨m, rfl⟩ : ∃ z, m = z + 1 := ⟨m - 1, by omega⟩
    have hkl : k < buf.length := by omega
    have hg1 : ai (qX M) σ (inS σ (M + 6) (80 * E.length + k) (nI (buf.getD k 0))) := ai_in σ _ (Or.inl rfl)
    have hX' : MX (inS σ (M + 6) (80 * E.length + k) (nI (buf.getD k 0))) M E := by
      obtain ⟨x1, x2, x3⟩ := hX
      refine ⟨by rw [in_inS, if_neg (by omega)]; exact x1, x2, fun e he => ?_⟩
      obtain ⟨y1, y2, y3, y4⟩ := x3 e he
      exact ⟨y1, y2, by rw [in_inS, if_neg (by omega)]; exact y3, fun k' hk' => by rw [in_inS, if_neg (by omega)]; exact y4 k' hk'⟩
    obtain ⟨τ, a1, a2, a3⟩ := ih m (k + 1) _ (h.ai hg1) (hB.ai hg1 (fun z => by unfold qX at z; omega) (fun k z => by unfold qX at z; omega)) hX' (fun k' hk' => by
      rw [in_inS]
      by_cases e : k' = k
      · rw [if_pos ⟨rfl, by rw [e]⟩, e]
      · rw [if_neg (by omega)]
        exact hr k' (by omega)) (by omega) (by omega) (by omega) hlt
    refine ⟨τ, ?_, a2, hg1.tr a3⟩
    show J_X6_turnException_L80b (J_X6_turnException_L80 m) M v2 (nI k) σ = _
    unfold J_X6_turnException_L80b
    rw [jgI_ok h.1, hB.1, if_neg (nI_ge hkl (by omega)), jgR_ok h.1, jgI_ok h.1, jgR_ok h.1, h.fr (f := 1) (c := 1) (r := 80) (by decide), jdr_ok, jaI_ok (h.fk (f := 1) (c := 1) (r := 80) (by decide)) (by omega) (by decide), hB.2 k hkl, h.fr (f := 8) (c := 6) (r := 1600) (by decide), jdr_ok, hX.1, e80, jsI_ok (h.fk (f := 8) (c := 6) (r := 1600) (by decide)) (by omega) (by decide), nI_1]
    exact a1
theorem m_te_drop {i : Nat} (hi : i < E.length) (orig : Nat → Int32) (ol : Int32) : ∀ (d m k : Nat) (σ : Hp), MH σ M → inH σ M 10 = nI (E.length - 1) → E.length ≤ 20 → (∀ x, inH σ (M + 6) x = if 80 * i ≤ x ∧ x < 80 * i + k then orig (80 * (E.length - 1) + (x - 80 * i)) else orig x) → inH σ (M + 7) (E.length - 1) = ol → 80 - k = d → k ≤ 80 → d < m → ∃ τ, J_X6_turnException_L152 m M (nI i) (nI k) σ = teE M (nI i) (inS τ (M + 7) i ol) ∧ (∀ x, inH τ (M + 6) x = if 80 * i ≤ x ∧ x < 80 * i + 80 then orig (80 * (E.length - 1) + (x - 80 * i)) else orig x) ∧ ai (fun a _ => a = M + 6) σ τ := by
  intro d
  induction d with
  | zero =>
    intro m k σ h h10 h20 hr h7 hd hk hm
    obtain ⟨m, rfl⟩ : ∃ z, m = z + 1 := ⟨m - 1, by omega⟩
    obtain rfl : k = 80 := by omega
    refine ⟨σ, ?_, hr, ai.rf⟩
    show J_X6_turnException_L152b (J_X6_turnException_L152 m) M (nI i) (nI 80) σ = _
    unfold J_X6_turnException_L152b
    rw [if_pos (by decide), jgR_ok h.1, jgR_ok h.1, jgI_ok h.1, h.fr (f := 9) (c := 7) (r := 20) (by decide), jdr_ok, h10, jaI_ok (h.fk (f := 9) (c := 7) (r := 20) (by decide)) (by omega) (by decide), jdr_ok, h7, jsI_ok (h.fk (f := 9) (c := 7) (r := 20) (by decide)) (by omega) (by decide)]
    rfl
  | succ d ih =>
    intro m k σ h h10 h20 hr h7 hd hk hm
    obtain ⟨m, rfl⟩ : ∃ z, m = z + 1 := ⟨m - 1, by omega⟩
    have hrd : inH σ (M + 6) (80 * (E.length - 1) + k) = orig (80 * (E.length - 1) + k) := by
      rw [hr]
      by_cases c : 80 * i ≤ 80 * (E.length - 1) + k ∧ 80 * (E.length - 1) + k < 80 * i + k
      · omega
      · rw [if_neg c]
    have hg : ai (fun a _ => a = M + 6) σ (inS σ (M + 6) (80 * i + k) (orig (80 * (E.length - 1) + k))) := ai_in σ _ rfl
    obtain ⟨τ, a1, a2, a3⟩ := ih m (k + 1) (inS σ (M + 6) (80 * i + k) (orig (80 * (E.length - 1) + k))) (h.ai hg) (by rw [in_inS, if_neg (by omega)]; exact h10) h20 (fun x => by
      rw [in_inS]
      by_cases c : x = 80 * i + k
      · rw [if_pos ⟨rfl, c⟩, if_pos (by omega)]
        congr 1
        omega
      · rw [if_neg (fun z => c z.2), hr x]
        by_cases c2 : 80 * i ≤ x ∧ x < 80 * i + k
        · rw [if_pos c2, if_pos (by omega)]
        · rw [if_neg c2, if_neg (by omega)]) (by rw [in_inS, if_neg (by omega)]; exact h7) (by omega) (by omega) (by omega)
    refine ⟨τ, ?_, a2, hg.tr a3⟩
    show J_X6_turnException_L152b (J_X6_turnException_L152 m) M (nI i) (nI k) σ = _
    unfold J_X6_turnException_L152b
    rw [if_neg (show ¬ (80 : Int32) ≤ nI k from nI_ge (b := 80) (by omega) (by omega)), jgR_ok h.1, jgR_ok h.1, jgI_ok h.1, h.fr (f := 8) (c := 6) (r := 1600) (by decide), jdr_ok, h10, e80, jaI_ok (h.fk (f := 8) (c := 6) (r := 1600) (by decide)) (by omega) (by decide), hrd, jdr_ok, e80, jsI_ok (h.fk (f := 8) (c := 6) (r := 1600) (by decide)) (by omega) (by decide), nI_1]
    exact a1
end MODTE
