/-! Marks, sums and soundness of a text; the embosser. -/
theorem s_T_mark {σ : Hp} {t : Nat} {g : Int32} {ws : List (List Nat)} {cs : List (List Int32)} {mk : List Int32} {ls : List (List Int32)} {fl : List Int32} {em : List (List Int32)} (h : TxtV σ t g ws cs mk ls fl em) {i e : Nat} (hi : 2 * i + e < mk.length) (x : Int32) : ∃ τ, J_X4_putMark t (nI e) (nI i) x σ = some (.inl none, τ) ∧ TxtV τ t g ws cs (mk.set (2 * i + e) x) ls fl em ∧ ag (rg t 25) σ τ := by
  obtain ⟨kh, k1, k2, k3, k4, k5, k6⟩ := h
  obtain ⟨τ, a1, a2, a3⟩ := s_T_putMark kh k3 hi x
  have nx : ∀ {a n : Nat}, a + n ≤ t + 11 ∨ t + 13 ≤ a → ∀ q, rw2 (t + 11) q → ¬ rg a n q := fun h1 q h2 h3 => by unfold rw2 at h2; unfold rg at h3; omega
  exact ⟨τ, a1, ⟨kh.keep a3 (fun y => by unfold rw2 at y; omega), k1.keep a3 (nx (by omega)), k2.keep a3 (nx (by omega)), a2, k4.keep a3 (nx (by omega)), k5.keep a3 (fun y => by unfold rw2 at y; omega) (fun y => by unfold rw2 at y; omega), k6.keep a3 (nx (by omega))⟩, a3.up (rw2_rg (by omega) (by omega))⟩
/-- both readers find it right -/
def prv (mk : List Int32) (i : Nat) : Bool := decide (mk.getD (2 * i) 0 = 114 ∧ mk.getD (2 * i + 1) 0 = 114)
/-- one more cell of a sum -/
def sm1 (s : Int64) (c : Int32) : Int64 := 31 * s + c.toInt64
/-- the cells of lines that are no blanks -/
def nz (l : List Int32) : List Int32 := l.filter (fun c => decide (c ≠ 0))
theorem nz_app (l m : List Int32) : nz (l ++ m) = nz l ++ nz m := List.filter_append ..
def flA (a : List (List Int32) × List Int32) : List Int32 := a.1.flatten ++ a.2
theorem flA_add (W : Nat) (a : List (List Int32) × List Int32) (c : Int32) : flA (addC W a c) = flA a ++ [c] := by
  unfold addC flA
  split <;> simp
theorem flA_adds (W : Nat) : ∀ (c : List Int32) (a : List (List Int32) × List Int32), flA (c.foldl (addC W) a) = flA a ++ c
  | [], a => by simp
  | x :: c, a => by rw [List.foldl_cons, flA_adds W c, flA_add]; simp
theorem cutP_fl (ps : List (List Int32)) (u : List Int32) : (cutP ps u).flatten = ps.flatten ++ u := by
  unfold cutP
  split
  · rename_i e; rw [e]; simp
  · simp
theorem nz_beg (W : Nat) (a : List (List Int32) × List Int32) (n : Nat) : nz (flA (begW W a n)) = nz (flA a) := by
  unfold begW
  split
  · unfold flA
    dsimp only
    rw [← List.append_assoc, nz_app]
    simp [nz]
  · unfold flA
    dsimp only
    rw [cutP_fl, List.append_nil]
theorem nz_all {l : List Int32} (h : ∀ c ∈ l, c ≠ 0) : nz l = l := List.filter_eq_self.mpr (fun c hc => decide_eq_true (h c hc))
theorem nz_lays (W : Nat) : ∀ (cs : List (List Int32)) (a : List (List Int32) × List Int32), (∀ c ∈ cs, ∀ x ∈ c, x ≠ 0) → nz (flA (cs.foldl (layW W) a)) = nz (flA a) ++ cs.flatten
  | [], a, _ => by simp
  | c :: cs, a, h => by
    rw [List.foldl_cons, nz_lays W cs _ (fun d hd => h d (List.mem_cons_of_mem _ hd))]
    unfold layW
    rw [flA_adds, nz_app, nz_beg, nz_all (h c (List.mem_cons_self ..)), List.flatten_cons, List.append_assoc]
theorem nz_lay (W : Nat) {cs : List (List Int32)} (h : ∀ c ∈ cs, ∀ x ∈ c, x ≠ 0) : nz (lay W cs).flatten = cs.flatten := by
  unfold lay
  rw [cutP_fl]
  exact nz_lays W cs ([], []) h
theorem LB_lays {W : Nat} (hW : 8 ≤ W) : ∀ (cs : List (List Int32)) (K n : Nat) (a : List (List Int32) × List Int32), LB W K n a → ∃ n', LB W (K + cs.length) n' (cs.foldl (layW W) a)
  | [], K, n, a, h => ⟨n, h⟩
  | c :: cs, K, n, a, h => by
    rw [List.foldl_cons, List.length_cons, show K + (cs.length + 1) = K + 1 + cs.length by omega]
    exact LB_lays hW cs (K + 1) _ _ (h.lay hW c)
theorem lay_w {W : Nat} (hW : 8 ≤ W) (cs : List (List Int32)) : ∀ l ∈ lay W cs, l.length ≤ W := by
  obtain ⟨n, h⟩ := LB_lays hW cs 0 0 ([], []) (Or.inl ⟨rfl, rfl⟩)
  intro l hl
  unfold lay layS cutP at hl
  rcases h with ⟨_, e⟩ | ⟨_, _, _, h3, h4⟩
  · rw [e] at hl
    simp at hl
  · split at hl
    · exact h3 l hl
    · rcases List.mem_append.mp hl with z | z
      · exact h3 l z
      · rw [List.mem_singleton.mp z]; exact h4
theorem s_T_well_L2 {σ : Hp} {t a ra b rb : Nat} {g : Int32} {l cf : List Int32} (hT : TxtH σ t g) {ps : List (List Int32)} (hc : PieV σ (t + 6) 40 160 ps []) (ha : RowV σ a ra l) (hcf : cf = ps.flatten) (hn : nz l = cf) : ∀ (d m i : Nat), l.length - i = d → i ≤ l.length → d < m → J_X4_isWellLaid_L46 m t a (nI (nz (l.take i)).length) (nI i) σ = some (.inl (some (.int 1)), σ) := by
  have har := ha.2.2.2.2.2.1
  have hal := ha.2.2.2.2.1
  have hcr := hc.2.2.2.1
  rw [List.append_nil, ← hcf] at hcr
  have hcl := hcr.2.2.2.2.1
  obtain ⟨k0, ⟨r0, r1, r2, r3, r4, r5⟩, _⟩ := hT
  intro d
  induction d with
  | zero =>
    intro m i hd hi hm
    obtain ⟨m, rfl⟩ : ∃ z, m = z + 1 := ⟨m - 1, by omega⟩
    show J_X4_isWellLaid_L46b (J_X4_isWellLaid_L46 m) t a (nI (nz (l.take i)).length) (nI i) σ = _
    unfold J_X4_isWellLaid_L46b
    rw [jcv_ok ha.1 (s_count ha), jvI_ok, if_pos (nI_le (by omega) (by omega)), jgR_ok k0, r1, jdr_ok, jcv_ok hc.1 (s_P_uncut hc), jvA_ok, jcv_ok hcr.1 (s_count hcr), jvI_ok, List.take_of_length_le (by omega), hn, if_pos rfl, jrt_1]
  | succ d ih =>
    intro m i hd hi hm
    obtain ⟨m, rfl⟩ : ∃ z, m = z + 1 := ⟨m - 1, by omega⟩
    have esn : l.take (i + 1) = l.take i ++ [l.getD i 0] := by
      rw [List.take_add_one]
      simp [List.getD_eq_getElem?_getD, show i < l.length by omega]
    have esp : l = l.take i ++ (l.getD i 0 :: l.drop (i + 1)) := by
      rw [← drop_cons (by omega), List.take_append_drop]
    have hih := ih m (i + 1) (by omega) (by omega) (by omega)
    rw [esn, nz_app] at hih
    show J_X4_isWellLaid_L46b (J_X4_isWellLaid_L46 m) t a (nI (nz (l.take i)).length) (nI i) σ = _
    unfold J_X4_isWellLaid_L46b jj
    dsimp only
    rw [jcv_ok ha.1 (s_count ha), jvI_ok, if_neg (nI_ge (by omega) (by omega)), jcv_ok ha.1 (s_get' ha (by omega)), jvI_ok]
    by_cases e : l.getD i 0 = 0
    · rw [if_pos e, nI_1]
      rw [e] at hih
      simpa [nz] using hih
    · have hz1 : nz [l.getD i 0] = [l.getD i 0] := by
        unfold nz
        rw [List.filter_cons_of_pos (by simpa using e)]
        rfl
      have hcf2 : cf = nz (l.take i) ++ (l.getD i 0 :: nz (l.drop (i + 1))) := by
        rw [← hn]
        conv => lhs; rw [esp]
        rw [nz_app, show l.getD i 0 :: l.drop (i + 1) = [l.getD i 0] ++ l.drop (i + 1) from rfl, nz_app, hz1]
        rfl
      have hget : cf.getD (nz (l.take i)).length 0 = l.getD i 0 := by
        rw [hcf2]
        simp only [List.getD_eq_getElem?_getD]
        rw [List.getElem?_append_right (Nat.le_refl _)]
        simp
      have hlt : (nz (l.take i)).length < cf.length := by
        rw [hcf2, List.length_append, List.length_cons]
        omega
      rw [if_neg e, jcv_ok ha.1 (s_get' ha (by omega)), jvI_ok, jgR_ok k0, r1, jdr_ok, jcv_ok hc.1 (s_P_uncut hc), jvA_ok, jcv_ok hcr.1 (s_get' hcr (by have := hcr.2.2.2.2.2.1; omega)), jvI_ok, hget, if_pos rfl, nI_1, nI_1]
      rw [hz1, List.length_append] at hih
      exact hih
theorem s_T_isWellLaid {σ : Hp} {t : Nat} {g : Int32} {ws : List (List Nat)} {cs : List (List Int32)} {mk : List Int32} {W : Nat} {fl : List Int32} {em : List (List Int32)} (hW : 8 ≤ W) (hW2 : W ≤ 40) (h : TxtV σ t g ws cs mk (lay W cs) fl em) (hz : ∀ c ∈ cs, ∀ x ∈ c, x ≠ 0) : J_X4_isWellLaid t (nI W) σ = some (.inl (some (.int 1)), σ) := by
  obtain ⟨kh, k1, k2, k3, k4, k5, k6⟩ := h
  have hkh := kh
  obtain ⟨k0, ⟨r0, r1, r2, r3, r4, r5⟩, _⟩ := kh
  have hb := k4.b
  have hr := k4.2.2.2.1
  have h4 := hr.2.2.2.2.1
  rw [List.append_nil] at hr h4
  have loop : ∀ (d m i : Nat), (lay W cs).length - i = d → i ≤ (lay W cs).length → d < m → J_X4_isWellLaid_L2 m t (nI W) (nI i) σ = some (.inl (some (.int 1)), σ) := by
    intro d
    induction d with
    | zero =>
      intro m i hd hi hm
      obtain ⟨m, rfl⟩ : ∃ z, m = z + 1 := ⟨m - 1, by omega⟩
      show J_X4_isWellLaid_L2b (J_X4_isWellLaid_L2 m) t (nI W) (nI i) σ = _
      unfold J_X4_isWellLaid_L2b
      rw [jgR_ok k0, r3, jdr_ok, jcv_ok k4.1 (s_P_count k4), jvI_ok, if_pos (nI_le (by omega) (by omega)), jgR_ok k0, r3, jdr_ok, jcv_ok k4.1 (s_P_uncut k4), jvA_ok]
      exact s_T_well_L2 (ra := 160) (rb := 0) (b := 0) hkh k2 hr rfl (nz_lay W hz) (lay W cs).flatten.length jN 0 rfl (Nat.zero_le _) (by unfold jN; omega)
    | succ d ih =>
      intro m i hd hi hm
      obtain ⟨m, rfl⟩ : ∃ z, m = z + 1 := ⟨m - 1, by omega⟩
      have hil : i < (lay W cs).length := by omega
      have hw := lay_w hW cs ((lay W cs).getD i []) (by simp [List.getD_eq_getElem?_getD, hil])
      show J_X4_isWellLaid_L2b (J_X4_isWellLaid_L2 m) t (nI W) (nI i) σ = _
      unfold J_X4_isWellLaid_L2b
      rw [jgR_ok k0, r3, jdr_ok, jcv_ok k4.1 (s_P_count k4), jvI_ok, if_neg (nI_ge (by omega) (by omega)), jgR_ok k0, r3, jdr_ok, jcv_ok k4.1 (s_P_sizeOf k4 hil), jvI_ok, if_pos (nI_le hw (by omega)), nI_1]
      exact ih m (i + 1) (by omega) (by omega) (by omega)
  exact loop (lay W cs).length jN 0 rfl (Nat.zero_le _) (by unfold jN; omega)
