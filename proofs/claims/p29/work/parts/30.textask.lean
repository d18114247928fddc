/-! A text: all of it, and what it answers. -/
theorem trW_b (ks : List Nat) (gs fs ss : List Int32) (g : Int32) (m : Nat) (hm : 1 ≤ m) : ∀ (n : Nat) (w : List Nat), w.length ≤ n → (trW ks gs fs ss g m n w).length ≤ 2 * w.length ∧ (1 ≤ w.length → 1 ≤ (trW ks gs fs ss g m n w).length) := by
  intro n
  induction n with
  | zero =>
    intro w h
    exact ⟨by unfold trW; simp, fun z => by omega⟩
  | succ n ih =>
    intro w h
    unfold trW
    by_cases e : w = []
    · rw [if_pos e, e]
      simp
    · have hl : 0 < w.length := List.length_pos_iff.mpr e
      have hb := pick_b ks gs g w (min m w.length)
      have hb2 := hb.2 (by omega)
      have he := emt_b fs ss (pick ks gs g w (min m w.length))
      have := ih (w.drop (adv (pick ks gs g w (min m w.length)))) (by rw [List.length_drop]; omega)
      rw [List.length_drop] at this
      rw [if_neg e, List.length_append]
      exact ⟨by omega, fun _ => by omega⟩
theorem trC_b (ks : List Nat) (gs fs ss : List Int32) (E : List (List Nat)) (g : Int32) {w : List Nat} (h : 1 ≤ w.length) : 1 ≤ (trC ks gs fs ss E g w).length ∧ (trC ks gs fs ss E g w).length ≤ 2 * w.length := by
  unfold trC
  have := trW_b ks gs fs ss g (if w ∈ E then 1 else 4) (by split <;> omega) w.length w (Nat.le_refl _)
  exact ⟨this.2 h, this.1⟩
theorem pick_ix {ks : List Nat} {gs : List Int32} {g : Int32} {w : List Nat} : ∀ {n s p : Nat}, pick ks gs g w n = some (s, p) → p < ks.length ∧ 1 ≤ s ∧ s ≤ n ∧ ks.getD p 0 = k27 (w.take s) ∧ gs.getD p 0 ≤ g
  | 0, s, p, h => by simp [pick] at h
  | n + 1, s, p, h => by
    unfold pick at h
    split at h
    · rename_i hc
      obtain ⟨h1, h2⟩ := hc
      have e := Option.some.inj h
      have e1 : n + 1 = s := congrArg Prod.fst e
      have e2 : ks.idxOf (k27 (w.take (n + 1))) = p := congrArg Prod.snd e
      subst e1 e2
      exact ⟨List.idxOf_lt_length_of_mem h1, by omega, Nat.le_refl _, idx_get h1, h2⟩
    · obtain ⟨a, b, c, d⟩ := pick_ix h
      exact ⟨a, b, by omega, d⟩
theorem emt_nz {ks : List Nat} {gs fs ss : List Int32} {E : List (List Nat)} (hI : RubI ks gs fs ss E) {g : Int32} {w : List Nat} {n : Nat} : ∀ c ∈ emt fs ss (pick ks gs g w n), c ≠ 0 := by
  intro c hc
  cases hp : pick ks gs g w n with
  | none =>
    rw [hp] at hc
    unfold emt at hc
    rw [List.mem_singleton.mp hc]
    decide
  | some q =>
    obtain ⟨s, p⟩ := q
    have h1 := (pick_ix hp).1
    have hf : fs.getD p 0 ≠ 0 := hI.2.2.2.2.2.1 _ (getD_mem 0 (by rw [hI.2.1]; exact h1))
    rw [hp] at hc
    unfold emt at hc
    dsimp only at hc
    by_cases e : ss.getD p 0 = 0
    · rw [if_pos e] at hc
      rw [List.mem_singleton.mp hc]
      exact hf
    · rw [if_neg e] at hc
      rcases List.mem_cons.mp hc with z | z
      · rw [z]; exact hf
      · rw [List.mem_singleton.mp z]; exact e
theorem trW_nz {ks : List Nat} {gs fs ss : List Int32} {E : List (List Nat)} (hI : RubI ks gs fs ss E) {g : Int32} {m : Nat} : ∀ (n : Nat) (w : List Nat), ∀ c ∈ trW ks gs fs ss g m n w, c ≠ 0
  | 0, w, c, hc => by simp [trW] at hc
  | n + 1, w, c, hc => by
    unfold trW at hc
    by_cases e : w = []
    · rw [if_pos e] at hc; simp at hc
    · rw [if_neg e] at hc
      rcases List.mem_append.mp hc with z | z
      · exact emt_nz hI c z
      · exact trW_nz hI n _ c z
/-- a text, whole: its grade, words, cells, marks, lines, in which lines words begin, and what was embossed -/
def TxtV (σ : Hp) (t : Nat) (g : Int32) (ws : List (List Nat)) (cs : List (List Int32)) (mk : List Int32) (ls : List (List Int32)) (fl : List Int32) (em : List (List Int32)) : Prop := TxtH σ t g ∧ PieV σ (t + 1) 40 80 (ws.map (List.map ch)) [] ∧ PieV σ (t + 6) 40 160 cs [] ∧ RowV σ (t + 11) 80 mk ∧ PieV σ (t + 13) 60 160 ls [] ∧ RowV σ (t + 18) 40 fl ∧ PieV σ (t + 20) 60 160 em []
theorem rg_sub {P : Nat → Prop} {t n a m : Nat} (h : ∀ q, P q → ¬ rg t n q) (h1 : t ≤ a) (h2 : a + m ≤ t + n) : ∀ q, P q → ¬ rg a m q := fun q z y => h q z (by unfold rg at y ⊢; omega)
theorem rg_pt {P : Nat → Prop} {t n a : Nat} (h : ∀ q, P q → ¬ rg t n q) (h1 : t ≤ a) (h2 : a < t + n) : ¬ P a := fun z => h a z ⟨h1, h2⟩
theorem TxtV.keep {P : Nat → Prop} {σ τ : Hp} {t : Nat} {g : Int32} {ws : List (List Nat)} {cs : List (List Int32)} {mk : List Int32} {ls : List (List Int32)} {fl : List Int32} {em : List (List Int32)} (h : TxtV σ t g ws cs mk ls fl em) (hg : ag P σ τ) (h0 : ∀ q, P q → ¬ rg t 25 q) : TxtV τ t g ws cs mk ls fl em := by
  obtain ⟨k0, k1, k2, k3, k4, k5, k6⟩ := h
  exact ⟨k0.keep hg (rg_pt h0 (by omega) (by omega)), k1.keep hg (rg_sub h0 (by omega) (by omega)), k2.keep hg (rg_sub h0 (by omega) (by omega)), k3.keep hg (rg_pt h0 (by omega) (by omega)) (rg_pt h0 (by omega) (by omega)), k4.keep hg (rg_sub h0 (by omega) (by omega)), k5.keep hg (rg_pt h0 (by omega) (by omega)) (rg_pt h0 (by omega) (by omega)), k6.keep hg (rg_sub h0 (by omega) (by omega))⟩
theorem s_T_translate {σ : Hp} {t b z : Nat} {g : Int32} {ks : List Nat} {gs fs ss : List Int32} {E : List (List Nat)} (hR : RubV σ b ks gs fs ss E) (hI : RubI ks gs fs ss E) {ws : List (List Nat)} (hW : WdI ws) {os ls em : List (List Int32)} {mk fl : List Int32} (hT : TxtV σ t g ws os mk ls fl em) (hmk : mk.length = 2 * ws.length) {ps : List (List Int32)} {u : List Int32} (hz : PieV σ z 40 160 ps u) (hzb : ∀ q, rg z 5 q → ¬ rg b 14 q) (hzt : ∀ q, rg z 5 q → ¬ rg t 25 q) (htb : ∀ q, rg t 25 q → ¬ rg b 14 q) : ∃ τ mk', J_X4_translate t b z σ = some (.inl (some (.int (bI (anyD (fun j => !shr (ws.map (trC ks gs fs ss E g)) os j) ws.length 0)))), τ) ∧ TxtV τ t g ws (ws.map (trC ks gs fs ss E g)) mk' ls fl em ∧ mk'.length = 2 * ws.length ∧ (∀ k, k < 2 * ws.length → mk'.getD k 0 = if shr (ws.map (trC ks gs fs ss E g)) os (k / 2) = false then 45 else mk.getD k 0) ∧ PieV τ z 40 160 (ws.map (trC ks gs fs ss E g)) [] ∧ ag (fun q => rg z 5 q ∨ rg (t + 6) 7 q) σ τ := by
  obtain ⟨τ, a1, a2, a3⟩ := s_P_empty hz
  obtain ⟨k0, k1, k2, k3, k4, k5, k6⟩ := hT.keep a3 hzt
  obtain ⟨υ, mk', u1, u2, u3, u4, u5, u6, u7⟩ := s_T_translate_L hI hW (os := os) rfl (fun w hw => trC_b ks gs fs ss E g (hW.1 w hw).2) hzb hzt htb ws.length jN 0 τ false mk k0 (hR.keep a3 hzb) k1 k2 k3 hmk (by rw [List.take_zero]; exact a2) rfl (Nat.zero_le _) (by have := hW.2.2.1; unfold jN; omega)
  have nx : ∀ {a n : Nat}, t ≤ a → a + n ≤ t + 6 ∨ (t + 13 ≤ a ∧ a + n ≤ t + 25) → ∀ q, (rg z 5 q ∨ rg (t + 6) 7 q) → ¬ rg a n q := fun h1 h2 q h3 h4 => by
    rcases h3 with y | y
    · exact hzt q y (by unfold rg at h4 ⊢; omega)
    · unfold rg at y h4; omega
  refine ⟨υ, mk', ?_, ⟨k0.keep u7 (fun y => nx (a := t) (n := 1) (by omega) (by omega) t y (by unfold rg; omega)), k1.keep u7 (nx (by omega) (by omega)), u2, u3, k4.keep u7 (nx (by omega) (by omega)), k5.keep u7 (rg_pt (nx (a := t + 18) (n := 2) (by omega) (by omega)) (by omega) (by omega)) (rg_pt (nx (a := t + 18) (n := 2) (by omega) (by omega)) (by omega) (by omega)), k6.keep u7 (nx (by omega) (by omega))⟩, u4, fun k hk => ?_, u6, (a3.up (fun q y => Or.inl y)).tr u7⟩
  · unfold J_X4_translate
    rw [jcv_ok hz.1 a1, jvV_ok]
    exact u1
  · rw [u5 k hk]
    by_cases e : shr (ws.map (trC ks gs fs ss E g)) os (k / 2) = false
    · rw [if_pos e, if_pos ⟨by omega, e⟩]
    · rw [if_neg e, if_neg (fun y => e y.2)]
theorem s_T_wordCount {σ : Hp} {t : Nat} {g : Int32} {ws : List (List Nat)} {cs : List (List Int32)} {mk : List Int32} {ls : List (List Int32)} {fl : List Int32} {em : List (List Int32)} (h : TxtV σ t g ws cs mk ls fl em) : J_X4_wordCount t σ = some (.inl (some (.int (nI ws.length))), σ) := by
  obtain ⟨⟨k0, ⟨r0, r1, r2, r3, r4, r5⟩, _⟩, k1, k2, k3, k4, k5, k6⟩ := h
  unfold J_X4_wordCount
  rw [jgR_ok k0, r0, jdr_ok, jcv_ok k1.1 (s_P_count k1), jvI_ok, List.length_map]
theorem s_T_cellCount {σ : Hp} {t : Nat} {g : Int32} {ws : List (List Nat)} {cs : List (List Int32)} {mk : List Int32} {ls : List (List Int32)} {fl : List Int32} {em : List (List Int32)} (h : TxtV σ t g ws cs mk ls fl em) {i : Nat} (hi : i < cs.length) : J_X4_cellCount t (nI i) σ = some (.inl (some (.int (nI (cs.getD i []).length))), σ) := by
  obtain ⟨⟨k0, ⟨r0, r1, r2, r3, r4, r5⟩, _⟩, k1, k2, k3, k4, k5, k6⟩ := h
  unfold J_X4_cellCount
  rw [jgR_ok k0, r1, jdr_ok, jcv_ok k2.1 (s_P_sizeOf k2 hi), jvI_ok]
theorem s_T_cellAt {σ : Hp} {t : Nat} {g : Int32} {ws : List (List Nat)} {cs : List (List Int32)} {mk : List Int32} {ls : List (List Int32)} {fl : List Int32} {em : List (List Int32)} (h : TxtV σ t g ws cs mk ls fl em) {i k : Nat} (hi : i < cs.length) (hk : k < (cs.getD i []).length) : J_X4_cellAt t (nI i) (nI k) σ = some (.inl (some (.int ((cs.getD i []).getD k 0))), σ) := by
  obtain ⟨⟨k0, ⟨r0, r1, r2, r3, r4, r5⟩, _⟩, k1, k2, k3, k4, k5, k6⟩ := h
  unfold J_X4_cellAt
  rw [jgR_ok k0, r1, jdr_ok, jcv_ok k2.1 (s_P_get k2 hi hk), jvI_ok]
theorem s_T_lineCount {σ : Hp} {t : Nat} {g : Int32} {ws : List (List Nat)} {cs : List (List Int32)} {mk : List Int32} {ls : List (List Int32)} {fl : List Int32} {em : List (List Int32)} (h : TxtV σ t g ws cs mk ls fl em) : J_X4_lineCount t σ = some (.inl (some (.int (nI ls.length))), σ) := by
  obtain ⟨⟨k0, ⟨r0, r1, r2, r3, r4, r5⟩, _⟩, k1, k2, k3, k4, k5, k6⟩ := h
  unfold J_X4_lineCount
  rw [jgR_ok k0, r3, jdr_ok, jcv_ok k4.1 (s_P_count k4), jvI_ok]
theorem s_T_lineSize {σ : Hp} {t : Nat} {g : Int32} {ws : List (List Nat)} {cs : List (List Int32)} {mk : List Int32} {ls : List (List Int32)} {fl : List Int32} {em : List (List Int32)} (h : TxtV σ t g ws cs mk ls fl em) {i : Nat} (hi : i < ls.length) : J_X4_lineSize t (nI i) σ = some (.inl (some (.int (nI (ls.getD i []).length))), σ) := by
  obtain ⟨⟨k0, ⟨r0, r1, r2, r3, r4, r5⟩, _⟩, k1, k2, k3, k4, k5, k6⟩ := h
  unfold J_X4_lineSize
  rw [jgR_ok k0, r3, jdr_ok, jcv_ok k4.1 (s_P_sizeOf k4 hi), jvI_ok]
theorem s_T_laidCellAt {σ : Hp} {t : Nat} {g : Int32} {ws : List (List Nat)} {cs : List (List Int32)} {mk : List Int32} {ls : List (List Int32)} {fl : List Int32} {em : List (List Int32)} (h : TxtV σ t g ws cs mk ls fl em) {i k : Nat} (hi : i < ls.length) (hk : k < (ls.getD i []).length) : J_X4_laidCellAt t (nI i) (nI k) σ = some (.inl (some (.int ((ls.getD i []).getD k 0))), σ) := by
  obtain ⟨⟨k0, ⟨r0, r1, r2, r3, r4, r5⟩, _⟩, k1, k2, k3, k4, k5, k6⟩ := h
  unfold J_X4_laidCellAt
  rw [jgR_ok k0, r3, jdr_ok, jcv_ok k4.1 (s_P_get k4 hi hk), jvI_ok]
theorem s_T_firstLineOf {σ : Hp} {t : Nat} {g : Int32} {ws : List (List Nat)} {cs : List (List Int32)} {mk : List Int32} {ls : List (List Int32)} {fl : List Int32} {em : List (List Int32)} (h : TxtV σ t g ws cs mk ls fl em) {i : Nat} (hi : i < 2 ^ 31) : J_X4_firstLineOf t (nI i) σ = some (.inl (some (.int (fl.getD i 0))), σ) := by
  obtain ⟨⟨k0, ⟨r0, r1, r2, r3, r4, r5⟩, _⟩, k1, k2, k3, k4, k5, k6⟩ := h
  unfold J_X4_firstLineOf
  rw [jgR_ok k0, r4, jdr_ok, jcv_ok k5.1 (s_get' k5 hi), jvI_ok]
theorem s_T_isOther {σ : Hp} {t : Nat} {g : Int32} {ws : List (List Nat)} {cs : List (List Int32)} {mk : List Int32} {ls : List (List Int32)} {fl : List Int32} {em : List (List Int32)} (h : TxtV σ t g ws cs mk ls fl em) {i : Nat} (hi : i < 2 ^ 31) : J_X4_isOther t (nI i) σ = some (.inl (some (.int (bI (!shr ls em i)))), σ) := by
  obtain ⟨⟨k0, ⟨r0, r1, r2, r3, r4, r5⟩, _⟩, k1, k2, k3, k4, k5, k6⟩ := h
  unfold J_X4_isOther
  rw [jgR_ok k0, jgR_ok k0, r3, r5, jdr_ok, jdr_ok, jcv_ok k4.1 (s_P_shares k4 k6 hi), jvI_ok]
  cases shr ls em i
  · rw [if_pos (by decide), jrt_1]; rfl
  · rw [if_neg (by decide), jrt_0]; rfl
/-- how many of d numbers from i on have it -/
def cntD (f : Nat → Bool) : Nat → Nat → Nat
  | 0, _ => 0
  | d + 1, i => (if f i = true then 1 else 0) + cntD f d (i + 1)
theorem cntD_le (f : Nat → Bool) : ∀ d i, cntD f d i ≤ d
  | 0, _ => Nat.le_refl _
  | d + 1, i => by
    have := cntD_le f d (i + 1)
    unfold cntD
    split <;> omega
theorem s_T_others_L {σ : Hp} {t : Nat} {g : Int32} {ws : List (List Nat)} {cs : List (List Int32)} {mk : List Int32} {ls : List (List Int32)} {fl : List Int32} {em : List (List Int32)} (h : TxtV σ t g ws cs mk ls fl em) : ∀ (d m i n : Nat), max ls.length em.length - i = d → i ≤ max ls.length em.length → d < m → J_X4_otherLineCount_L4 m t (nI n) (nI i) σ = some (.inl (some (.int (nI (n + cntD (fun j => !shr ls em j) d i)))), σ) := by
  have hh := h
  obtain ⟨⟨k0, ⟨r0, r1, r2, r3, r4, r5⟩, _⟩, k1, k2, k3, k4, k5, k6⟩ := h
  have hb1 := k4.b
  have hb2 := k6.b
  have emax : (if nI ls.length < nI em.length then nI em.length else nI ls.length) = nI (max ls.length em.length) := by
    by_cases c : ls.length < em.length
    · rw [if_pos (nI_lt c (by omega)), Nat.max_eq_right (by omega)]
    · rw [if_neg (nI_nlt (by omega) (by omega)), Nat.max_eq_left (by omega)]
  intro d
  induction d with
  | zero =>
    intro m i n hd hi hm
    obtain ⟨m, rfl⟩ : ∃ z, m = z + 1 := ⟨m - 1, by omega⟩
    show J_X4_otherLineCount_L4b (J_X4_otherLineCount_L4 m) t (nI n) (nI i) σ = _
    unfold J_X4_otherLineCount_L4b
    rw [jgR_ok k0, r3, jdr_ok, jcv_ok k4.1 (s_P_count k4), jvI_ok, jgR_ok k0, r5, jdr_ok, jcv_ok k6.1 (s_P_count k6), jvI_ok, emax, if_pos (nI_le (by omega) (by omega))]
    rfl
  | succ d ih =>
    intro m i n hd hi hm
    obtain ⟨m, rfl⟩ : ∃ z, m = z + 1 := ⟨m - 1, by omega⟩
    show J_X4_otherLineCount_L4b (J_X4_otherLineCount_L4 m) t (nI n) (nI i) σ = _
    unfold J_X4_otherLineCount_L4b jj
    dsimp only
    rw [jgR_ok k0, r3, jdr_ok, jcv_ok k4.1 (s_P_count k4), jvI_ok, jgR_ok k0, r5, jdr_ok, jcv_ok k6.1 (s_P_count k6), jvI_ok, emax, if_neg (nI_ge (by omega) (by omega)), jcv_ok k0 (s_T_isOther hh (by omega)), jvI_ok]
    unfold cntD
    cases hs : shr ls em i
    · rw [if_neg (by decide), nI_1, nI_1, ih m (i + 1) (n + 1) (by omega) (by omega) (by omega)]
      simp [Nat.add_assoc]
    · rw [if_pos (by decide), nI_1, show nI n + 0 = nI n from nI_add n 0, ih m (i + 1) n (by omega) (by omega) (by omega)]
      simp
theorem s_T_otherLineCount {σ : Hp} {t : Nat} {g : Int32} {ws : List (List Nat)} {cs : List (List Int32)} {mk : List Int32} {ls : List (List Int32)} {fl : List Int32} {em : List (List Int32)} (h : TxtV σ t g ws cs mk ls fl em) : J_X4_otherLineCount t σ = some (.inl (some (.int (nI (cntD (fun j => !shr ls em j) (max ls.length em.length) 0)))), σ) := by
  have hb1 := h.2.2.2.2.1.b
  have hb2 := h.2.2.2.2.2.2.b
  have := s_T_others_L h (max ls.length em.length) jN 0 0 rfl (Nat.zero_le _) (by unfold jN; omega)
  rw [Nat.zero_add] at this
  exact this
theorem s_T_keep {σ : Hp} {t : Nat} {g : Int32} {ws : List (List Nat)} {cs : List (List Int32)} {mk : List Int32} {ls : List (List Int32)} {fl : List Int32} {em : List (List Int32)} (h : TxtV σ t g ws cs mk ls fl em) : ∃ τ, J_X4_keepAsEmbossed t σ = some (.inl none, τ) ∧ TxtV τ t g ws cs mk ls fl ls ∧ ag (rg t 25) σ τ := by
  obtain ⟨kh, k1, k2, k3, k4, k5, k6⟩ := h
  have hb := k4.b
  obtain ⟨τ, a1, a2, a3⟩ := s_P_takeOver k6 k4 (fun q y z => by unfold rg at y z; omega) hb.1 hb.2.2.1
  have nx : ∀ {a n : Nat}, a + n ≤ t + 20 → ∀ q, rg (t + 20) 5 q → ¬ rg a n q := fun h1 q h2 h3 => by unfold rg at h2 h3; omega
  refine ⟨τ, ?_, ⟨kh.keep a3 (fun y => by unfold rg at y; omega), k1.keep a3 (nx (by omega)), k2.keep a3 (nx (by omega)), k3.keep a3 (fun y => by unfold rg at y; omega) (fun y => by unfold rg at y; omega), k4.keep a3 (nx (by omega)), k5.keep a3 (fun y => by unfold rg at y; omega) (fun y => by unfold rg at y; omega), a2⟩, a3.up (fun q y => by unfold rg at y ⊢; omega)⟩
  obtain ⟨k0, ⟨r0, r1, r2, r3, r4, r5⟩, _⟩ := kh
  unfold J_X4_keepAsEmbossed
  rw [jgR_ok k0, jgR_ok k0, r3, r5, jdr_ok, jdr_ok, jcv_ok k6.1 a1, jvV_ok]
/-- the three marks, as characters -/
def mkc (x : Int32) : Prop := x = 45 ∨ x = 114 ∨ x = 119
theorem mkc_nar {x : Int32} (h : mkc x) : (x.toUInt32 % 65536).toInt32 = x := by
  rcases h with h | h | h <;> (subst h; decide)
theorem s_T_markBy {σ : Hp} {t : Nat} {g : Int32} {ws : List (List Nat)} {cs : List (List Int32)} {mk : List Int32} {ls : List (List Int32)} {fl : List Int32} {em : List (List Int32)} (h : TxtV σ t g ws cs mk ls fl em) {i e : Nat} (hi : 2 * i + e < mk.length) (hx : mkc (mk.getD (2 * i + e) 0)) : J_X4_markBy t (nI e) (nI i) σ = some (.inl (some (.int (mk.getD (2 * i + e) 0))), σ) := by
  obtain ⟨⟨k0, ⟨r0, r1, r2, r3, r4, r5⟩, _⟩, k1, k2, k3, k4, k5, k6⟩ := h
  have hl := k3.2.2.2.2.1
  unfold J_X4_markBy
  rw [jgR_ok k0, r2, jdr_ok, show (2 : Int32) * nI i + nI e = nI (2 * i + e) from (congrArg (· + nI e) (pk_mul 2 i)).trans (nI_add _ _), jcv_ok k3.1 (s_get' k3 (by omega)), jvI_ok]
  unfold jrt
  rw [if_pos (pk_vc _), mkc_nar hx]
