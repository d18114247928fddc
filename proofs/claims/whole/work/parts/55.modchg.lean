/-! The model tells which texts changed: comparing with what was kept. -/
theorem m_chg_L1 {M p : Nat} {o c B : List Int32} (kk : Nat → Int32 → Int32 → Int32 → Int32 → Int32 → Int32 → Int32 → Int32 → Hp → jR) (v2 v3 v4 v5 v6 : Int32) (hp : p + 1 + o.length ≤ B.length) (hB : ∀ k, k < o.length → B.getD (p + 1 + k) 0 = o.getD k 0) (hc : c.length ≤ 160) {σ : Hp} (h : MH σ M) (hw : MWd σ M c) (hf : MF σ M B) : ∀ (d m k : Nat) (f : Bool), (f = true → o.length = c.length) → o.length - k = d → k ≤ o.length → d < m → J_X6_textsChanged_L68 kk m M (nI p) v2 v3 v4 v5 v6 (nI o.length) (bI f) (nI k) σ = kk M (nI p) v2 v3 v4 v5 v6 (nI o.length) (bI (f && decide (o.drop k = c.drop k))) σ := by
  have hb := hf.1
  intro d
  induction d with
  | zero =>
    intro m k f hfl hd hk hm
    obtain ⟨m, rfl⟩ : ∃ z, m = z + 1 := ⟨m - 1, by omega⟩
    obtain rfl : k = o.length := by omega
    show J_X6_textsChanged_L68b kk (J_X6_textsChanged_L68 kk m) M (nI p) v2 v3 v4 v5 v6 (nI o.length) (bI f) (nI o.length) σ = _
    unfold J_X6_textsChanged_L68b
    rw [if_pos (nI_le (Nat.le_refl _) (by omega))]
    cases f
    · rfl
    · have := hfl rfl
      rw [List.drop_of_length_le (Nat.le_refl _), List.drop_of_length_le (by omega)]
      rfl
  | succ d ih =>
    intro m k f hfl hd hk hm
    obtain ⟨m, rfl⟩ : ∃ z, m = z + 1 := ⟨m - 1, by omega⟩
    show J_X6_textsChanged_L68b kk (J_X6_textsChanged_L68 kk m) M (nI p) v2 v3 v4 v5 v6 (nI o.length) (bI f) (nI k) σ = _
    unfold J_X6_textsChanged_L68b jj
    dsimp only
    rw [if_neg (nI_ge (by omega) (by omega))]
    cases f
    · rw [if_pos (show bI false = 0 by decide)]
      rfl
    · have hl := hfl rfl
      rw [if_neg (show ¬ bI true = 0 by decide), jgR_ok h.1, h.fr (f := 24) (c := 17) (r := 1600) (by decide), jdr_ok, nI_1, nI_add, jaI_ok (h.fk (f := 24) (c := 17) (r := 1600) (by decide)) (by omega) (by decide), hf.2 _ (by omega), hB k (by omega), mrd h (f := 22) (c := 16) (r := 160) (by decide) (by omega), hw.2 k (by omega), nI_1]
      have e1 : o.drop k = o.getD k 0 :: o.drop (k + 1) := by
        rw [List.drop_eq_getElem_cons (show k < o.length by omega)]
        simp [List.getD_eq_getElem?_getD, show k < o.length by omega]
      have e2 : c.drop k = c.getD k 0 :: c.drop (k + 1) := by
        rw [List.drop_eq_getElem_cons (show k < c.length by omega)]
        simp [List.getD_eq_getElem?_getD, show k < c.length by omega]
      by_cases z : o.getD k 0 = c.getD k 0
      · rw [if_pos z, show (1 : Int32) = bI true from rfl, ih m (k + 1) true hfl (by omega) (by omega) (by omega), e1, e2, z]
        simp
      · rw [if_neg z, show (0 : Int32) = bI false from rfl, ih m (k + 1) false (fun y => by cases y) (by omega) (by omega) (by omega), e1, e2, decide_eq_false (fun y => z (List.cons.inj y).1)]
        rfl
theorem bft_split (C : Nat → List (List Int32)) {i j : Nat} : ∀ (n : Nat), i < n → j < (C i).length → ∃ R, bft C n = (bft C i ++ bfr ((C i).take j)) ++ (nI ((C i).getD j []).length :: (C i).getD j [] ++ R)
  | 0, h, _ => by omega
  | n + 1, h, hj => by
    rw [bft_succ]
    by_cases e : i = n
    · subst e
      have h1 : bfr (C i) = bfr ((C i).take (j + 1)) ++ bfr ((C i).drop (j + 1)) := by
        conv => lhs; rw [← List.take_append_drop (j + 1) (C i)]
        unfold bfr
        rw [List.flatMap_append]
      refine ⟨bfr ((C i).drop (j + 1)), ?_⟩
      rw [h1, bfr_snoc _ hj]
      simp
    · obtain ⟨R, hR⟩ := bft_split C (i := i) (j := j) n (by omega) hj
      exact ⟨R ++ bfr (C n), by rw [hR]; simp⟩
/-- the marks, when the words of texts before i are done, and j of text i -/
def fM (T : Nat → Tx) (new old : Nat → List (List Int32)) (i j : Nat) : Nat → Nat → Int32 := fun x k => if (x < i ∨ (x = i ∧ k / 2 < j)) ∧ shr (new x) (old x) (k / 2) = false then 45 else tF T x k
theorem MG.cg {σ : Hp} {M n : Nat} {F G : Nat → Nat → Int32} {L : Nat → Nat} (h : MG σ M n F L) (he : ∀ i, i < n → ∀ w e, e < 2 → w < L i → F i (2 * w + e) = G i (2 * w + e)) : MG σ M n G L := fun i hi w e h1 h2 => by rw [← he i hi w e h1 h2]; exact h i hi w e h1 h2
theorem e40 (i k : Nat) : (40 : Int32) * nI i + nI k = nI (40 * i + k) := (congrArg (· + nI k) (pk_mul 40 i)).trans (nI_add _ _)
theorem e240 (i k : Nat) : (240 : Int32) + (40 : Int32) * nI i + nI k = nI (240 + 40 * i + k) := (congrArg (fun z => (240 : Int32) + z + nI k) (pk_mul 40 i)).trans ((congrArg (· + nI k) (nI_add 240 (40 * i))).trans (nI_add _ _))
def qK (M : Nat) : Nat → Nat → Prop := fun a _ => a = M + 14
theorem qK_T {M : Nat} : ∀ a k, qK M a k → qT M a k := fun _ _ h => Or.inl h
theorem shr_in {ps qs : List (List Int32)} {i : Nat} (h : ps.length = qs.length) (hi : i < ps.length) : shr ps qs i = decide (ps.getD i [] = qs.getD i []) := by
  unfold shr
  simp [hi, show i < qs.length by omega]
/-- a word's marks are wiped -/
theorem MG.wipe {σ : Hp} {M n : Nat} {T : Nat → Tx} {new old : Nat → List (List Int32)} {L : Nat → Nat} (hn : n ≤ 6) (hL : ∀ x, x < n → L x ≤ 40) {i j : Nat} (hi : i < n) (hj : j < L i) (h : MG σ M n (fM T new old i j) L) (hs : shr (new i) (old i) j = false) : MG (inS (inS σ (M + 14) (40 * i + j) 0) (M + 14) (240 + 40 * i + j) 0) M n (fM T new old i (j + 1)) L := by
  intro x hx w e he hw
  have h1 := hL x hx
  have h2 := hL i hi
  rw [in_inS, in_inS]
  have hd : (2 * w + e) / 2 = w := by omega
  unfold fM
  rw [hd]
  by_cases c : x = i ∧ w = j
  · obtain ⟨rfl, rfl⟩ := c
    rw [if_pos (show (x < x ∨ x = x ∧ w < w + 1) ∧ shr (new x) (old x) w = false from ⟨Or.inr ⟨rfl, by omega⟩, hs⟩)]
    rcases (show e = 0 ∨ e = 1 by omega) with rfl | rfl
    · rw [if_neg (by omega), if_pos ⟨rfl, by omega⟩]
      rfl
    · rw [if_pos ⟨rfl, by omega⟩]
      rfl
  · rw [if_neg (by omega), if_neg (by omega)]
    have := h x hx w e he hw
    unfold fM at this
    rw [hd] at this
    rw [this]
    congr 1
    by_cases c2 : (x < i ∨ x = i ∧ w < j) ∧ shr (new x) (old x) w = false
    · rw [if_pos c2, if_pos ⟨by omega, c2.2⟩]
    · rw [if_neg c2, if_neg (fun z => c2 ⟨by omega, z.2⟩)]
/-- a word's marks stay -/
theorem MG.stay {σ : Hp} {M n : Nat} {T : Nat → Tx} {new old : Nat → List (List Int32)} {L : Nat → Nat} {i j : Nat} (h : MG σ M n (fM T new old i j) L) (hs : shr (new i) (old i) j = true) : MG σ M n (fM T new old i (j + 1)) L := by
  refine h.cg (fun x hx w e he hw => ?_)
  have hd : (2 * w + e) / 2 = w := by omega
  unfold fM
  rw [hd]
  by_cases c2 : (x < i ∨ x = i ∧ w < j) ∧ shr (new x) (old x) w = false
  · rw [if_pos c2, if_pos ⟨by omega, c2.2⟩]
  · rw [if_neg c2]
    refine (if_neg (fun z => ?_)).symm
    by_cases c3 : x = i ∧ w = j
    · rw [c3.1, c3.2, hs] at z
      cases z.2
    · exact c2 ⟨by omega, z.2⟩
theorem anyD_or (f : Nat → Bool) (d i : Nat) : anyD f (d + 1) i = (f i || anyD f d (i + 1)) := rfl
theorem pc_len_le : ∀ (l : List (List Int32)) (i : Nat), (l.getD i []).length ≤ l.flatten.length
  | [], i => by simp
  | c :: l, 0 => by simp
  | c :: l, i + 1 => by
    have := pc_len_le l i
    simp only [List.getD_cons_succ, List.flatten_cons, List.length_append]
    omega
theorem b0z : (bI false = 0) = True := by simp [bI]
theorem b1z : (bI true = 0) = False := by simp [bI]
