/-! The model adds a rule. -/
/-- row i is what row j was -/
def MO (σ : Hp) (M : Nat) (ks : List Nat) (gs fs ss : List Int32) (i j : Nat) : Prop := MRow σ M i (nI (ks.getD j 0)) (gs.getD j 0) (fs.getD j 0) (ss.getD j 0)
def qRu (M : Nat) : Nat → Nat → Prop := fun a k => (M + 2 ≤ a ∧ a ≤ M + 5) ∨ (a = M ∧ k = 7)
def qRr (M : Nat) : Nat → Nat → Prop := fun a _ => M + 2 ≤ a ∧ a ≤ M + 5
theorem qR_r {M b : Nat} : ∀ a k, qR M b a k → qRr M a k := fun _ _ z => z.1
theorem qRr_u {M : Nat} : ∀ a k, qRr M a k → qRu M a k := fun _ _ z => Or.inl z
theorem qRu_A {M : Nat} : ∀ a k, qRu M a k → qA M a k := fun a k z => by unfold qRu at z; unfold qA; omega
section MODRA
variable {σ : Hp} {M : Nat} {buf ks ks' : List Nat} {gs fs ss gs' fs' ss' : List Int32} {E : List (List Nat)} {n : Nat} {T T' : Nat → Tx} {W : Nat} {wr : List Int32} {be : Int32}
theorem ModV.ru {τ : Hp} (h : ModV σ M buf ks gs fs ss E n T W wr be) (g : ai (qRu M) σ τ) (hR : MR τ M ks' gs' fs' ss') : ModV τ M buf ks' gs' fs' ss' E n T W wr be := by
  have nP : ∀ k, k ≠ 7 → ¬ qRu M M k := fun k hk z => by unfold qRu at z; omega
  have nP2 : ∀ c k, c = 1 ∨ 6 ≤ c → ¬ qRu M (M + c) k := fun c k hc z => by unfold qRu at z; omega
  obtain ⟨⟨h0, h1, h2, h3, h4, h5⟩, h6⟩ := h
  exact ⟨⟨h0.ai g, h1.ai g (nP 2 (by omega)) (fun k => nP2 1 k (by omega)), hR, h3.ai g (nP 10 (by omega)) (fun k => ⟨nP2 6 k (by omega), nP2 7 k (by omega)⟩), h4.ai g (nP 14 (by omega)) (fun a k _ _ z => by unfold qRu at z; omega), h5.ai g (nP 15 (by omega)) (nP 20 (by omega)) (fun k => nP2 15 k (by omega))⟩, h6.ai g (fun k => nP2 14 k (by omega))⟩
theorem MR.row (h : MR σ M ks gs fs ss) {i : Nat} (hi : i < ks.length) : MO σ M ks gs fs ss i i := h.2.2 i hi
/-- what the model does when the place is found -/
def addE (a0 : Nat) (v1 v2 v3 v4 v6 : Int32) (t17 : Hp) : jR := jcv t17 a0 6 (J_X6_puts a0 v6 v4 v1 v2 v3 t17) (fun w19 t18 => jvV w19 (jgI t18 a0 6 7 (fun x20 => jpI t18 a0 6 7 (x20 + 1) (fun t21 => jpI t21 a0 6 2 0 (fun t22 => jcv t22 a0 6 (J_X6_textsChanged a0 t22) (fun w24 t23 => jvI w24 (fun x25 => some (.inl (some (.int v6)), t23))) (fun E t => some (.inr E, t))))))) (fun E t => some (.inr E, t))
theorem m_add_L (hkb : ∀ x ∈ ks, x < 531441) (hl : ks.length < 40) {k p : Nat} (hk : k < 531441) (hp : p ≤ ks.length) (h1 : ∀ i, i < p → ks.getD i 0 < k) (h2 : ∀ i, p ≤ i → i < ks.length → k < ks.getD i 0) (g x y : Int32) : ∀ (d m q : Nat) (σ : Hp), MH σ M → (∀ i, i < q → MO σ M ks gs fs ss i i) → (∀ i, q ≤ i → i < ks.length → MO σ M ks gs fs ss (i + 1) i) → q - p = d → p ≤ q → q ≤ ks.length → d < m → ∃ τ, J_X6_addRule_L84 m M g x y (nI k) (nI q) σ = addE M g x y (nI k) (nI p) τ ∧ (∀ i, i < p → MO τ M ks gs fs ss i i) ∧ (∀ i, p ≤ i → i < ks.length → MO τ M ks gs fs ss (i + 1) i) ∧ ai (qRr M) σ τ := by
  intro d
  induction d with
  | zero =>
    intro m q σ h r1 r2 hd hpq hq hm
    obtain ⟨m, rfl⟩ : ∃ z, m = z + 1 := ⟨m - 1, by omega⟩
    obtain rfl : q = p := by omega
    refine ⟨σ, ?_, r1, r2, ai.rf⟩
    show J_X6_addRule_L84b (J_X6_addRule_L84 m) M g x y (nI k) (nI q) σ = _
    unfold J_X6_addRule_L84b jj
    dsimp only
    by_cases c : q = 0
    · rw [if_pos (by rw [c]; exact nI_le (a := 0) (b := 0) (Nat.le_refl _) (by omega))]
      rfl
    · obtain ⟨q', rfl⟩ : ∃ z, q = z + 1 := ⟨q - 1, by omega⟩
      have hlt := h1 q' (by omega)
      rw [if_neg (nI_nle (by omega) (by omega)), nI_pred, mrd h (f := 3) (c := 2) (r := 40) (by decide) (by omega), (r1 q' (by omega)).1, if_pos (nI_le (by omega) (by omega))]
      rfl
  | succ d ih =>
    intro m q σ h r1 r2 hd hpq hq hm
    obtain ⟨m, rfl⟩ : ∃ z, m = z + 1 := ⟨m - 1, by omega⟩
    obtain ⟨q', rfl⟩ : ∃ z, q = z + 1 := ⟨q - 1, by omega⟩
    have hlt := h2 q' (by omega) (by omega)
    have hkq := hkb _ (getD_mem 0 (show q' < ks.length by omega))
    obtain ⟨τ, a1, a2, a3⟩ := m_moves h (a := q') (b := q' + 1) (by omega) (by omega) (r1 q' (by omega))
    obtain ⟨υ, b1, b2, b3, b4⟩ := ih m q' τ (h.ai a3) (fun i hi => (r1 i (by omega)).ai a3 (by omega)) (fun i hi1 hi2 => by
      by_cases e : i = q'
      · subst e
        exact a2
      · exact (r2 i (by omega) hi2).ai a3 (by omega)) (by omega) (by omega) (by omega) (by omega)
    refine ⟨υ, ?_, b2, b3, (a3.up qR_r).tr b4⟩
    show J_X6_addRule_L84b (J_X6_addRule_L84 m) M g x y (nI k) (nI (q' + 1)) σ = _
    unfold J_X6_addRule_L84b jj
    dsimp only
    rw [if_neg (nI_nle (by omega) (by omega)), nI_pred, mrd h (f := 3) (c := 2) (r := 40) (by decide) (by omega), (r1 q' (by omega)).1, if_neg (nI_ge hlt (by omega)), jcv_ok h.1 a1, jvV_ok, pk_m1]
    exact b1
theorem MO.ins {τ : Hp} {p : Nat} {k : Nat} {g x y : Int32} (hR : RubI ks gs fs ss E) (hp : p ≤ ks.length) (r1 : ∀ i, i < p → MO τ M ks gs fs ss i i) (r2 : ∀ i, p ≤ i → i < ks.length → MO τ M ks gs fs ss (i + 1) i) (r3 : MRow τ M p (nI k) g x y) : ∀ i, i < ks.length + 1 → MO τ M (ins ks p k) (ins gs p g) (ins fs p x) (ins ss p y) i i := by
  intro i hi
  obtain ⟨l1, l2, l3, _⟩ := hR
  unfold MO
  rw [ins_getN hp, ins_get (by omega), ins_get (by omega), ins_get (by omega)]
  by_cases c : i < p
  · rw [if_pos c, if_pos c, if_pos c, if_pos c]
    exact r1 i c
  · rw [if_neg c, if_neg c, if_neg c, if_neg c]
    by_cases e : i = p
    · rw [if_pos e, if_pos e, if_pos e, if_pos e, e]
      exact r3
    · rw [if_neg e, if_neg e, if_neg e, if_neg e]
      obtain ⟨i', rfl⟩ : ∃ z, i = z + 1 := ⟨i - 1, by omega⟩
      exact r2 i' (by omega) (by omega)
/-- the buffer is emptied, and the texts are told -/
theorem m_tail {υ : Hp} {old : Nat → List (List Int32)} (hV : ModV υ M buf ks' gs' fs' ss' E n T W wr be) (C' : MCx ks' gs' fs' ss' E n T W) (ho : ∀ i, i < n → (old i).length = (wd (tX (T i))).length) (hf : MF υ M (bft old n)) (hT : TR n 0 T T' (fun j => clO ks' gs' fs' ss' E (T j)) old) : ∃ τ, J_X6_textsChanged M (inS υ M 2 0) = some (.inl (some (.int (nI (cntD (fun j => chg (clO ks' gs' fs' ss' E (T j)) (old j)) n 0)))), τ) ∧ ModV τ M [] ks' gs' fs' ss' E n T' W wr be ∧ inH τ M 0 = inH υ M 0 ∧ ai (qA M) υ τ := by
  have g : ai (qBf M) υ (inS υ M 2 0) := ai_in _ _ (Or.inr ⟨rfl, rfl⟩)
  have hV2 : ModV (inS υ M 2 0) M [] ks' gs' fs' ss' E n T W wr be := hV.bf g ⟨by rw [in_inS, if_pos ⟨rfl, rfl⟩]; rfl, fun k hk => (Nat.not_lt_zero k hk).elim⟩
  obtain ⟨τ, a1, a2, a3⟩ := m_chg C'.1 C'.2.1 C'.2.2.1 ho C'.2.2.2.1 hV2 (hf.ai g (fun k z => by unfold qBf at z; omega)) hT
  refine ⟨τ, a1, a2, ?_, (g.up qBf_A).tr (a3.up qT_A)⟩
  rw [a3.i (fun z => by unfold qT qS at z; omega), in_inS, if_neg (by omega)]
theorem MCx.old (C : MCx ks gs fs ss E n T W) : ∀ i, i < n → (clO ks gs fs ss E (T i)).length = (wd (tX (T i))).length := fun i _ => clO_len ..
theorem fine_s {g x y : Int32} (h : fineR g x y) : ¬ y < 0 := h.2.2.1
theorem fine_x {g x y : Int32} (h : fineR g x y) : x ≠ 0 := fun z => by
  have := h.2.1.1
  rw [z] at this
  exact this (by decide)
theorem rkey_lts (h : rkey buf) (h26 : ∀ c ∈ buf, c ≤ 26) : lts buf := lts_of h26 h.2.2
theorem m_addRule_ok (h : ModV σ M buf ks gs fs ss E n T W wr be) (C : MCx ks gs fs ss E n T W) (hb : (∀ c ∈ buf, c ≤ 26) ∧ buf.length ≤ 80) {g x y : Int32} (hf : fineR g x y) (hr : rkey buf) (hl : ks.length < 40) (hn : k27 buf ∉ ks) {p : Nat} (hp : p ≤ ks.length) (h1 : ∀ i, i < p → ks.getD i 0 < k27 buf) (h2 : ∀ i, p ≤ i → i < ks.length → k27 buf < ks.getD i 0) (hT : TR n 0 T T' (fun j => clO (ins ks p (k27 buf)) (ins gs p g) (ins fs p x) (ins ss p y) E (T j)) (fun j => clO ks gs fs ss E (T j))) : mrs σ M (J_X6_addRule M g x y σ) 0 (nI p) (fun τ => ModV τ M [] (ins ks p (k27 buf)) (ins gs p g) (ins fs p x) (ins ss p y) E n T' W wr be) := by
  have h0 := h.th 0
  have hlt := rkey_lts hr hb.1
  have hkb := k27_b hlt
  obtain ⟨τ1, a1, a2, a3⟩ := m_keep C.1 C.2.1 C.2.2.1 h0.1
  have V1 := h0.sc a3
  obtain ⟨τ2, b1, b2, b3, b4⟩ := m_add_L (gs := gs) (fs := fs) (ss := ss) C.1.kb hl hkb hp h1 h2 g x y (ks.length - p) jN ks.length τ1 V1.1.1 (fun i hi => V1.1.2.2.1.row hi) (fun i hi1 hi2 => by omega) rfl hp (Nat.le_refl _) (by unfold jN; omega)
  obtain ⟨τ3, c1, c2, c3⟩ := m_puts (V1.1.1.ai b4) (b := p) (by omega) (nI (k27 buf)) g x y
  have n7 : ¬ qRr M M 7 := fun z => by unfold qRr at z; omega
  have h7 : inH τ3 M 7 = nI ks.length := by
    rw [(b4.tr (c3.up qR_r)).i n7]
    exact V1.1.2.2.1.1
  have g4 : ai (qRu M) τ3 (inS τ3 M 7 (nI (ks.length + 1))) := ai_in _ _ (Or.inr ⟨rfl, rfl⟩)
  have g14 : ai (qRu M) τ1 (inS τ3 M 7 (nI (ks.length + 1))) := ((b4.tr (c3.up qR_r)).up qRr_u).tr g4
  have hlen : (ins ks p (k27 buf)).length = ks.length + 1 := ins_len hp
  have hMO := MO.ins (τ := τ3) C.1 hp (fun i hi => (b2 i hi).ai c3 (by omega)) (fun i hi1 hi2 => (b3 i hi1 hi2).ai c3 (by omega)) c2
  have hMR : MR (inS τ3 M 7 (nI (ks.length + 1))) M (ins ks p (k27 buf)) (ins gs p g) (ins fs p x) (ins ss p y) := by
    refine ⟨by rw [in_inS, if_pos ⟨rfl, rfl⟩, hlen], by omega, fun i hi => ?_⟩
    rw [hlen] at hi
    obtain ⟨m1, m2, m3, m4⟩ := hMO i hi
    exact ⟨by rw [in_inS, if_neg (by omega)]; exact m1, by rw [in_inS, if_neg (by omega)]; exact m2, by rw [in_inS, if_neg (by omega)]; exact m3, by rw [in_inS, if_neg (by omega)]; exact m4⟩
  have V4 := V1.ru g14 hMR
  have C' : MCx (ins ks p (k27 buf)) (ins gs p g) (ins fs p x) (ins ss p y) E n T W := ⟨C.1.tIns hlt hr.1 hr.2.1 hp h1 h2 g y (fine_x hf), fun s hs => by
    rcases ins_mem hs with z | z
    · rw [z]; exact fine_s hf
    · exact C.2.1 s z, C.2.2⟩
  obtain ⟨τ, d1, d2, d3, d4⟩ := m_tail V4 C' (C.old) (a2.ai g14 (fun k z => by unfold qRu at z; omega)) hT
  have hx0 : inH (inS τ3 M 7 (nI (ks.length + 1))) M 0 = 0 := by
    rw [in_inS, if_neg (by omega), (b4.tr (c3.up qR_r)).i (fun z => by unfold qRr at z; omega), a3.i qS_0]
    exact in_0 σ M 0
  refine ⟨τ, ?_, by rw [d3]; exact hx0, d2, (ai_0 σ M 0).tr ((a3.up qS_A).tr ((g14.up qRu_A).tr d4))⟩
  unfold J_X6_addRule jj
  dsimp only
  have e1 : ¬ nI (k27 buf) = -1 := ne_m1 (by omega)
  have e40' : ¬ nI ks.length = 40 := fun z => by
    have := (nI_eq (a := ks.length) (b := 40) (by omega) (by omega)).mp z
    omega
  have hro := s_M_ruleOf h.1.1 h.1.2.2.1 C.1 hkb
  rw [if_neg hn] at hro
  rw [jcv_ok h.1.1.1 ((m_letters h.1.1 h.1.2.1 hb.2 hb.1).1 hr), jvI_ok, jcs_ok ((m_fine g x y).1 hf), jvI_ok, if_neg (by decide), if_neg e1, if_neg (by decide), jgI_ok h.1.1.1, h.1.2.2.1.1, if_neg e40', jcv_ok h.1.1.1 hro, jvI_ok, if_pos rfl, jcv_ok h.1.1.1 (s_M_goesOn h.1.1 0), jvI_ok, if_neg (by decide), jcv_ok h0.1.1.1 a1, jvV_ok, jgI_ok V1.1.1.1, V1.1.2.2.1.1, b1]
  unfold addE
  rw [jcv_ok (V1.1.1.ai b4).1 c1, jvV_ok, jgI_ok ((V1.1.1.ai b4).ai c3).1, h7, jpI_ok ((V1.1.1.ai b4).ai c3).1, nI_1, jpI_ok (by exact ((V1.1.1.ai b4).ai c3).1), jcv_ok (by exact ((V1.1.1.ai b4).ai c3).1) d1, jvI_ok]
theorem m_addRule_bad (h : ModV σ M buf ks gs fs ss E n T W wr be) (hb : (∀ c ∈ buf, c ≤ 26) ∧ buf.length ≤ 80) {g x y : Int32} (hf : ¬ (fineR g x y ∧ rkey buf)) : mrs σ M (J_X6_addRule M g x y σ) 1 0 (fun τ => ModV τ M buf ks gs fs ss E n T W wr be) := by
  refine ⟨inS σ M 0 1, ?_, in_0 σ M 1, h.th 1, ai_0 σ M 1⟩
  unfold J_X6_addRule jj
  dsimp only
  have hL := m_letters h.1.1 h.1.2.1 hb.2 hb.1
  by_cases c1 : rkey buf
  · rw [jcv_ok h.1.1.1 (hL.1 c1), jvI_ok, jcs_ok ((m_fine g x y).2 (fun z => hf ⟨z, c1⟩)), jvI_ok, if_pos rfl, if_pos rfl, jcv_ok h.1.1.1 (s_M_goesOn h.1.1 1), jvI_ok, if_pos (by decide)]
  · rw [jcv_ok h.1.1.1 (hL.2 c1), jvI_ok]
    by_cases c2 : fineR g x y
    · rw [jcs_ok ((m_fine g x y).1 c2), jvI_ok, if_neg (by decide), if_pos rfl, if_pos rfl, jcv_ok h.1.1.1 (s_M_goesOn h.1.1 1), jvI_ok, if_pos (by decide)]
    · rw [jcs_ok ((m_fine g x y).2 c2), jvI_ok, if_pos rfl, if_pos rfl, jcv_ok h.1.1.1 (s_M_goesOn h.1.1 1), jvI_ok, if_pos (by decide)]
theorem m_addRule_full (h : ModV σ M buf ks gs fs ss E n T W wr be) (hb : (∀ c ∈ buf, c ≤ 26) ∧ buf.length ≤ 80) {g x y : Int32} (hf : fineR g x y) (hr : rkey buf) (hl : ks.length = 40) : mrs σ M (J_X6_addRule M g x y σ) 2 0 (fun τ => ModV τ M buf ks gs fs ss E n T W wr be) := by
  refine ⟨inS σ M 0 2, ?_, in_0 σ M 2, h.th 2, ai_0 σ M 2⟩
  unfold J_X6_addRule jj
  dsimp only
  have hkb := k27_b (rkey_lts hr hb.1)
  rw [jcv_ok h.1.1.1 ((m_letters h.1.1 h.1.2.1 hb.2 hb.1).1 hr), jvI_ok, jcs_ok ((m_fine g x y).1 hf), jvI_ok, if_neg (by decide), if_neg (ne_m1 (by omega)), if_neg (by decide), jgI_ok h.1.1.1, h.1.2.2.1.1, hl, if_pos (by decide +kernel), jcv_ok h.1.1.1 (s_M_goesOn h.1.1 2), jvI_ok, if_pos (by decide)]
theorem m_addRule_dup (h : ModV σ M buf ks gs fs ss E n T W wr be) (hI : RubI ks gs fs ss E) (hb : (∀ c ∈ buf, c ≤ 26) ∧ buf.length ≤ 80) {g x y : Int32} (hf : fineR g x y) (hr : rkey buf) (hl : ks.length < 40) (hn : k27 buf ∈ ks) : mrs σ M (J_X6_addRule M g x y σ) 3 0 (fun τ => ModV τ M buf ks gs fs ss E n T W wr be) := by
  refine ⟨inS σ M 0 3, ?_, in_0 σ M 3, h.th 3, ai_0 σ M 3⟩
  unfold J_X6_addRule jj
  dsimp only
  have hkb := k27_b (rkey_lts hr hb.1)
  have e40' : ¬ nI ks.length = 40 := fun z => by
    have := (nI_eq (a := ks.length) (b := 40) (by omega) (by omega)).mp z
    omega
  have hro := s_M_ruleOf h.1.1 h.1.2.2.1 hI hkb
  rw [if_pos hn] at hro
  have hix := List.idxOf_lt_length_of_mem hn
  rw [jcv_ok h.1.1.1 ((m_letters h.1.1 h.1.2.1 hb.2 hb.1).1 hr), jvI_ok, jcs_ok ((m_fine g x y).1 hf), jvI_ok, if_neg (by decide), if_neg (ne_m1 (by omega)), if_neg (by decide), jgI_ok h.1.1.1, h.1.2.2.1.1, if_neg e40', jcv_ok h.1.1.1 hro, jvI_ok, if_neg (ne_m1 (by omega)), jcv_ok h.1.1.1 (s_M_goesOn h.1.1 3), jvI_ok, if_pos (by decide)]
end MODRA
