/-! The model: its arrays, and rules. -/
/-- its arrays: field, cell, room -/
def mAr : List (Nat × Nat × Nat) := [(1, 1, 80), (3, 2, 40), (4, 3, 40), (5, 4, 40), (6, 5, 40), (8, 6, 1600), (9, 7, 20), (11, 8, 480), (12, 9, 6), (13, 10, 6), (16, 11, 24000), (17, 12, 600), (18, 13, 6), (19, 14, 480), (21, 15, 6), (22, 16, 160), (24, 17, 1600), (25, 18, 4000), (26, 19, 100)]
def MH (σ : Hp) (M : Nat) : Prop := kdH σ M = (1, 6) ∧ ∀ p ∈ mAr, rfH σ M p.1 = some (M + p.2.1) ∧ kdH σ (M + p.2.1) = (2, p.2.2) ∧ p.2.2 < 100000
theorem mrd {σ : Hp} {M : Nat} (h : MH σ M) {f c r : Nat} (hp : (f, c, r) ∈ mAr) {j : Nat} (hj : j < r) {K : Int32 → jR} : jgR σ M 6 f (fun r1 => jdr r1 (fun b2 => jaI σ b2 (nI j) K)) = K (inH σ (M + c) j) := by
  obtain ⟨h1, h2, h3⟩ := h.2 (f, c, r) hp
  rw [jgR_ok h.1]
  show jdr (rfH σ M f) _ = _
  rw [show rfH σ M f = some (M + c) from h1, jdr_ok, jaI_ok h2 hj h3]
/-- what a step of the model leaves: all ints but some -/
def ai (Q : Nat → Nat → Prop) (σ τ : Hp) : Prop := tpH τ = tpH σ ∧ kdH τ = kdH σ ∧ rfH τ = rfH σ ∧ lgH τ = lgH σ ∧ dbH τ = dbH σ ∧ ∀ a k, ¬ Q a k → inH τ a k = inH σ a k
theorem ai.rf {Q : Nat → Nat → Prop} {σ : Hp} : ai Q σ σ := ⟨rfl, rfl, rfl, rfl, rfl, fun _ _ _ => rfl⟩
theorem ai.tr {Q : Nat → Nat → Prop} {σ τ υ : Hp} (h : ai Q σ τ) (h' : ai Q τ υ) : ai Q σ υ := ⟨h'.1.trans h.1, h'.2.1.trans h.2.1, h'.2.2.1.trans h.2.2.1, h'.2.2.2.1.trans h.2.2.2.1, h'.2.2.2.2.1.trans h.2.2.2.2.1, fun a k q => (h'.2.2.2.2.2 a k q).trans (h.2.2.2.2.2 a k q)⟩
theorem ai.up {Q Q' : Nat → Nat → Prop} {σ τ : Hp} (h : ai Q σ τ) (hq : ∀ a k, Q a k → Q' a k) : ai Q' σ τ := ⟨h.1, h.2.1, h.2.2.1, h.2.2.2.1, h.2.2.2.2.1, fun a k z => h.2.2.2.2.2 a k (fun y => z (hq a k y))⟩
theorem ai_in {Q : Nat → Nat → Prop} (σ : Hp) {a k : Nat} (v : Int32) (h : Q a k) : ai Q σ (inS σ a k v) := ⟨rfl, rfl, rfl, rfl, rfl, fun x y z => by
  rw [in_inS, if_neg (fun e => z (by rw [e.1, e.2]; exact h))]⟩
theorem MH.ai {Q : Nat → Nat → Prop} {σ τ : Hp} {M : Nat} (h : MH σ M) (hg : ai Q σ τ) : MH τ M := by
  unfold MH at h ⊢
  rw [hg.2.1, hg.2.2.1]
  exact h
theorem ai.ag {Q : Nat → Nat → Prop} {P : Nat → Prop} {σ τ : Hp} (h : ai Q σ τ) (hP : ∀ a k, Q a k → P a) : ag P σ τ := ⟨by rw [h.1]; exact Nat.le_refl _, h.2.1, fun q hq => ⟨by
  funext k
  exact h.2.2.2.2.2 q k (fun z => hq (hP q k z)), by rw [h.2.2.1]⟩, h.2.2.2.1, h.2.2.2.2.1⟩
/-- the model's rules -/
def MR (σ : Hp) (M : Nat) (ks : List Nat) (gs fs ss : List Int32) : Prop := inH σ M 7 = nI ks.length ∧ ks.length ≤ 40 ∧ ∀ i, i < ks.length → inH σ (M + 2) i = nI (ks.getD i 0) ∧ inH σ (M + 3) i = gs.getD i 0 ∧ inH σ (M + 4) i = fs.getD i 0 ∧ inH σ (M + 5) i = ss.getD i 0
theorem s_M_in (v lo hi : Int32) (σ : Hp) : (inR v lo hi ∧ J_X6_in v lo hi σ = some (.inl (some (.int 1)), σ)) ∨ (¬ inR v lo hi ∧ J_X6_in v lo hi σ = some (.inl (some (.int 0)), σ)) := by
  unfold J_X6_in
  by_cases c : v < lo
  · exact Or.inr ⟨fun z => z.1 c, by rw [if_pos c, jrt_0]⟩
  · by_cases c2 : hi < v
    · exact Or.inr ⟨fun z => z.2 c2, by rw [if_neg c, if_pos c2, jrt_0]⟩
    · exact Or.inl ⟨⟨c, c2⟩, by rw [if_neg c, if_neg c2, jrt_1]⟩
theorem s_M_goesOn {σ : Hp} {M : Nat} (h : MH σ M) (v : Int32) : J_X6_goesOn M v σ = some (.inl (some (.int (if v = 0 then 1 else 0))), inS σ M 0 v) := by
  unfold J_X6_goesOn
  rw [jpI_ok h.1]
  by_cases c : v = 0
  · rw [if_pos c, if_pos c, jrt_1]
  · rw [if_neg c, if_neg c, jrt_0]
/-- the k-th power, from the left -/
def pw (k : Nat) : Nat := if k = 0 then 19683 else if k = 1 then 729 else if k = 2 then 27 else 1
theorem s_M_power {k : Nat} (hk : k < 4) (σ : Hp) : J_X6_power (nI k) σ = some (.inl (some (.int (nI (pw k)))), σ) := by
  match k, hk with
  | 0, _ => rfl
  | 1, _ => rfl
  | 2, _ => rfl
  | 3, _ => rfl
theorem k27_dig {w : List Nat} (h : lts w) {k : Nat} (hk : k < 4) : k27 w / pw k % 27 = w.getD k 0 := by
  have h0 := h.g 0
  have h1 := h.g 1
  have h2 := h.g 2
  have h3 := h.g 3
  unfold k27
  match k, hk with
  | 0, _ => show _ / 19683 % 27 = _; omega
  | 1, _ => show _ / 729 % 27 = _; omega
  | 2, _ => show _ / 27 % 27 = _; omega
  | 3, _ => show _ / 1 % 27 = _; omega
theorem pw_b (k : Nat) : 0 < pw k ∧ pw k < 20000 := by
  unfold pw
  split
  · omega
  · split
    · omega
    · split <;> omega
theorem s_M_letterOf {σ : Hp} {M : Nat} (h : MH σ M) {ks : List Nat} {gs fs ss : List Int32} (hR : MR σ M ks gs fs ss) {i k : Nat} (hi : i < ks.length) (hk : k < 4) {w : List Nat} (hw : lts w) (e : ks.getD i 0 = k27 w) : J_X6_letterOf M (nI i) (nI k) σ = some (.inl (some (.int (nI (w.getD k 0)))), σ) := by
  have hb := k27_b hw
  have hp := pw_b k
  have hl := hR.2.1
  unfold J_X6_letterOf
  rw [mrd h (f := 3) (c := 2) (r := 40) (by decide) (by omega), (hR.2.2 i hi).1, jcs_ok (s_M_power hk σ), jvI_ok]
  unfold jnz
  rw [if_pos (nI_ne0 hp.1 (by omega)), e, pk_div (by omega) hp.1 (by omega)]
  have := pk_rem (a := k27 w / pw k) (d := 27) (by have := Nat.div_le_self (k27 w) (pw k); omega) (by omega) (by omega)
  rw [k27_dig hw hk] at this
  exact congrArg (fun z => some (Sum.inl (some (Value.int z)), σ)) this
theorem s_M_lengthOf {σ : Hp} {M : Nat} (h : MH σ M) {ks : List Nat} {gs fs ss : List Int32} (hR : MR σ M ks gs fs ss) {i : Nat} (hi : i < ks.length) {w : List Nat} (hw : lts w) (hw4 : w.length ≤ 4) (e : ks.getD i 0 = k27 w) : J_X6_lengthOf M (nI i) σ = some (.inl (some (.int (nI w.length))), σ) := by
  have loop : ∀ (d m k : Nat), 4 - k = d → k ≤ 4 → d < m → J_X6_lengthOf_L4 m M (nI i) (nI (min k w.length)) (nI k) σ = some (.inl (some (.int (nI w.length))), σ) := by
    intro d
    induction d with
    | zero =>
      intro m k hd hk hm
      obtain ⟨m, rfl⟩ : ∃ z, m = z + 1 := ⟨m - 1, by omega⟩
      show J_X6_lengthOf_L4b (J_X6_lengthOf_L4 m) M (nI i) (nI (min k w.length)) (nI k) σ = _
      unfold J_X6_lengthOf_L4b
      rw [if_pos (show (4 : Int32) ≤ nI k from nI_le (a := 4) (by omega) (by omega)), Nat.min_eq_right (by omega)]
    | succ d ih =>
      intro m k hd hk hm
      obtain ⟨m, rfl⟩ : ∃ z, m = z + 1 := ⟨m - 1, by omega⟩
      have hih := ih m (k + 1) (by omega) (by omega) (by omega)
      have hg := hw.g k
      show J_X6_lengthOf_L4b (J_X6_lengthOf_L4 m) M (nI i) (nI (min k w.length)) (nI k) σ = _
      unfold J_X6_lengthOf_L4b jj
      dsimp only
      rw [if_neg (show ¬ (4 : Int32) ≤ nI k from nI_ge (b := 4) (by omega) (by omega)), jcv_ok h.1 (s_M_letterOf h hR hi (by omega) hw e), jvI_ok]
      by_cases c : k < w.length
      · have := hw.p c
        rw [if_neg (nI_nle (by omega) (by omega)), nI_1, nI_1, Nat.min_eq_left (by omega)]
        rw [Nat.min_eq_left (by omega)] at hih
        exact hih
      · have e0 : w.getD k 0 = 0 := by simp [List.getD_eq_getElem?_getD, Nat.not_lt.mp c]
        rw [e0, if_pos (show nI 0 ≤ 0 from nI_le (b := 0) (Nat.le_refl _) (by omega)), nI_1, show nI (min k w.length) + 0 = nI (min k w.length) from nI_add _ 0, Nat.min_eq_right (by omega)]
        rw [Nat.min_eq_right (by omega)] at hih
        exact hih
  have := loop 4 jN 0 rfl (by omega) (by unfold jN; omega)
  rw [Nat.zero_min] at this
  exact this
theorem s_M_ruleOf {σ : Hp} {M : Nat} (h : MH σ M) {ks : List Nat} {gs fs ss : List Int32} (hR : MR σ M ks gs fs ss) {E : List (List Nat)} (hI : RubI ks gs fs ss E) {k : Nat} (hk : k < 531441) : J_X6_ruleOf M (nI k) σ = some (.inl (some (.int (if k ∈ ks then nI (ks.idxOf k) else -1))), σ) := by
  have hl := hR.2.1
  have loop : ∀ (d m i : Nat) (v : Int32), ks.length - i = d → i ≤ ks.length → d < m → (v = if k ∈ ks ∧ ks.idxOf k < i then nI (ks.idxOf k) else -1) → J_X6_ruleOf_L4 m M (nI k) v (nI i) σ = some (.inl (some (.int (if k ∈ ks then nI (ks.idxOf k) else -1))), σ) := by
    intro d
    induction d with
    | zero =>
      intro m i v hd hi hm hv
      obtain ⟨m, rfl⟩ : ∃ z, m = z + 1 := ⟨m - 1, by omega⟩
      show J_X6_ruleOf_L4b (J_X6_ruleOf_L4 m) M (nI k) v (nI i) σ = _
      unfold J_X6_ruleOf_L4b
      rw [jgI_ok h.1, hR.1, if_pos (nI_le (by omega) (by omega)), hv]
      by_cases c : k ∈ ks
      · have := List.idxOf_lt_length_of_mem c
        rw [if_pos ⟨c, by omega⟩, if_pos c]
      · rw [if_neg (fun z => c z.1), if_neg c]
    | succ d ih =>
      intro m i v hd hi hm hv
      obtain ⟨m, rfl⟩ : ∃ z, m = z + 1 := ⟨m - 1, by omega⟩
      have hkb := hI.kb _ (getD_mem 0 (show i < ks.length by omega))
      show J_X6_ruleOf_L4b (J_X6_ruleOf_L4 m) M (nI k) v (nI i) σ = _
      unfold J_X6_ruleOf_L4b jj
      dsimp only
      rw [jgI_ok h.1, hR.1, if_neg (nI_ge (by omega) (by omega)), mrd h (f := 3) (c := 2) (r := 40) (by decide) (by omega), (hR.2.2 i (by omega)).1, nI_1]
      by_cases c : ks.getD i 0 = k
      · have cm : k ∈ ks := c ▸ getD_mem 0 (by omega)
        have ci : ks.idxOf k = i := by
          have h1 := List.idxOf_lt_length_of_mem cm
          have h2 := idx_get cm
          apply Classical.byContradiction
          intro z
          rcases Nat.lt_or_gt_of_ne z with y | y
          · have := hI.2.2.2.2.1 _ _ y (by omega)
            omega
          · have := hI.2.2.2.2.1 _ _ y h1
            omega
        rw [if_pos (by rw [c])]
        exact ih m (i + 1) _ (by omega) (by omega) (by omega) (by rw [if_pos ⟨cm, by omega⟩, ci])
      · rw [if_neg (fun z => c ((nI_eq (by omega) (by omega)).mp z))]
        refine ih m (i + 1) v (by omega) (by omega) (by omega) ?_
        rw [hv]
        by_cases c2 : k ∈ ks ∧ ks.idxOf k < i
        · rw [if_pos c2, if_pos ⟨c2.1, by omega⟩]
        · rw [if_neg c2, if_neg (fun z => c2 ⟨z.1, by
            by_cases y : ks.idxOf k = i
            · exact (c (by rw [← y]; exact idx_get z.1)).elim
            · omega⟩)]
  exact loop ks.length jN 0 (-1) rfl (Nat.zero_le _) (by unfold jN; omega) (by rw [if_neg (fun z => Nat.not_lt_zero _ z.2)])
