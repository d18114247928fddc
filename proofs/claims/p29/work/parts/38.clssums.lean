/-! The class's width and sums. -/
theorem s_D_width_L {d : Nat} {buf ks : List Nat} {gs fs ss : List Int32} {E : List (List Nat)} {n : Nat} (hn : n ≤ 6) {W W' : Nat} (hW : 8 ≤ W' ∧ W' ≤ 40) {wr : List Int32} {be : Int32} {T : Nat → Tx} (hw : ∀ i, i < n → WdI (wd (tX (T i)))) (b : Int32) : ∀ (k m i : Nat) (σ : Hp), (ArrV σ d n T ∧ TxsA σ d n T ∧ ∀ j, j < n → TxtV σ (tA (T j)) (tG (T j)) (wd (tX (T j))) (clO ks gs fs ss E (T j)) (tM (T j)) (lay (if j < i then W' else W) (clO ks gs fs ss E (T j))) (flS (if j < i then W' else W) ([], []) (clO ks gs fs ss E (T j))) (tE (T j))) → 6 - i = k → i ≤ 6 → k < m → ∃ τ, J_X5_setWidth_L44 m (nI W') b (d + 22) (nI 6) (nI i) σ = some (.inl (some (.int b)), τ) ∧ TxsV τ n T (fun j => clO ks gs fs ss E (T j)) W' ∧ ag (fun q => ∃ j, j < n ∧ rg (tA (T j)) 25 q) σ τ := by
  intro k
  induction k with
  | zero =>
    intro m i σ h hk hi hm
    obtain ⟨m, rfl⟩ : ∃ z, m = z + 1 := ⟨m - 1, by omega⟩
    obtain rfl : i = 6 := by omega
    refine ⟨σ, ?_, fun j hj => ?_, ag.rf⟩
    · show J_X5_setWidth_L44b (J_X5_setWidth_L44 m) (nI W') b (d + 22) (nI 6) (nI 6) σ = _
      unfold J_X5_setWidth_L44b
      rw [if_pos (nI_le (Nat.le_refl _) (by omega))]
    · have := h.2.2 j hj
      rw [if_pos (by omega)] at this
      exact this
  | succ k ih =>
    intro m i σ h hk hi hm
    obtain ⟨m, rfl⟩ : ∃ z, m = z + 1 := ⟨m - 1, by omega⟩
    obtain ⟨⟨a0, a1⟩, hA, hT⟩ := h
    by_cases hin : i < n
    · obtain ⟨t0, t1, t2, t3, t4, t5, t6⟩ := hT i hin
      have hcap := cl_cap ks gs fs ss E (hw i hin)
      obtain ⟨τ, c1, c2, c3, c4⟩ := s_T_lay hW.1 hW.2 hcap.2.1 hcap.2.2 t0 t2 t4 t5
      have nx : ∀ {a n : Nat}, a + n ≤ tA (T i) + 13 ∨ tA (T i) + 20 ≤ a → ∀ q, rg (tA (T i) + 13) 7 q → ¬ rg a n q := fun h1 q h2 h3 => by unfold rg at h2 h3; omega
      have hAi := (hA.1 i hin).1
      have c4' : ag (rg (tA (T i)) 25) σ τ := c4.up (fun q y => by unfold rg at y ⊢; omega)
      obtain ⟨υ, u1, u2, u3⟩ := ih m (i + 1) τ ⟨ArrV.keep ⟨a0, a1⟩ c4' (fun y => by unfold rg at y; omega), hA.keep c4', fun j hj => by
        by_cases e : j = i
        · subst e
          rw [if_pos (by omega)]
          exact ⟨t0.keep c4 (fun y => by unfold rg at y; omega), t1.keep c4 (nx (by omega)), t2.keep c4 (nx (by omega)), t3.keep c4 (fun y => by unfold rg at y; omega) (fun y => by unfold rg at y; omega), c2, c3, t6.keep c4 (nx (by omega))⟩
        · have := (hT j hj).keep c4' (hA.ne hin hj e)
          by_cases c : j < i
          · rw [if_pos c] at this
            rw [if_pos (by omega)]
            exact this
          · rw [if_neg c] at this
            rw [if_neg (by omega)]
            exact this⟩ (by omega) (by omega) (by omega)
      refine ⟨υ, ?_, u2, (c4'.up (fun q y => ⟨i, hin, y⟩)).tr u3⟩
      show J_X5_setWidth_L44b (J_X5_setWidth_L44 m) (nI W') b (d + 22) (nI 6) (nI i) σ = _
      unfold J_X5_setWidth_L44b jj
      dsimp only
      rw [if_neg (nI_ge (by omega) (by omega)), jaR_ok a0 (by omega) (by omega), a1 i (by omega), if_pos hin, jnu_s, jcv_ok t0.1 c1, jvV_ok, nI_1]
      exact u1
    · obtain ⟨υ, u1, u2, u3⟩ := ih m (i + 1) σ ⟨⟨a0, a1⟩, hA, fun j hj => by
        have := hT j hj
        rw [if_pos (by omega)] at this
        rw [if_pos (by omega)]
        exact this⟩ (by omega) (by omega) (by omega)
      refine ⟨υ, ?_, u2, u3⟩
      show J_X5_setWidth_L44b (J_X5_setWidth_L44 m) (nI W') b (d + 22) (nI 6) (nI i) σ = _
      unfold J_X5_setWidth_L44b jj
      dsimp only
      rw [if_neg (nI_ge (by omega) (by omega)), jaR_ok a0 (by omega) (by omega), a1 i (by omega), if_neg hin, jnu_n, nI_1]
      exact u1
theorem nat_of {x : Int32} {lo hi : Nat} (h1 : ¬ x < nI lo) (h2 : x ≤ nI hi) (hhi : hi < 2 ^ 31) (hlo : lo < 2 ^ 31) : ∃ k, lo ≤ k ∧ k ≤ hi ∧ x = nI k := by
  rw [Int32.lt_iff_toInt_lt, nI_toInt hlo] at h1
  rw [Int32.le_iff_toInt_le, nI_toInt hhi] at h2
  obtain ⟨k, hk, rfl⟩ := nI_of (x := x) (fun z => by
    rw [Int32.lt_iff_toInt_lt] at z
    have : (0 : Int32).toInt = 0 := by decide
    omega)
  rw [nI_toInt hk] at h1 h2
  exact ⟨k, by omega, by omega, rfl⟩
theorem s_D_setWidth {σ : Hp} {d : Nat} {buf ks : List Nat} {gs fs ss : List Int32} {E : List (List Nat)} {n : Nat} {T : Nat → Tx} {W : Nat} {wr : List Int32} {be : Int32} (h : ClsV σ d buf ks gs fs ss E n T W wr be) (hI : ClsI buf ks gs fs ss E n T W) (x : Int32) : (¬ inR x 8 40 ∧ J_X5_setWidth d x σ = some (.inr "java/lang/IllegalArgumentException", thS σ)) ∨ (inR x 8 40 ∧ ∃ W' τ, 8 ≤ W' ∧ W' ≤ 40 ∧ x = nI W' ∧ J_X5_setWidth d x σ = some (.inl (some (.int (nI W))), τ) ∧ ClsV τ d buf ks gs fs ss E n T W' wr be ∧ ClsI buf ks gs fs ss E n T W' ∧ ag (clP d n T) σ τ) := by
  have hh := h
  obtain ⟨⟨k0, r0, r1, r2, r3, r4, i5, i6⟩, k1, k2, ⟨pl, k3⟩, k4, ⟨ps, u, k5⟩, k6, k7⟩ := h
  unfold J_X5_setWidth jj
  dsimp only
  by_cases c : x < 8
  · exact Or.inl ⟨fun z => z.1 c, by rw [if_pos c]⟩
  · by_cases c2 : x ≤ 40
    · right
      obtain ⟨W', w1, w2, rfl⟩ := nat_of (lo := 8) (hi := 40) c c2 (by omega) (by omega)
      have hg := ag_inS (P := fun q => q = d) σ 6 (nI W') (rfl : d = d)
      have hk4 := k4.keep hg (by omega)
      obtain ⟨τ, u1, u2, u3⟩ := s_D_width_L (d := d) (ks := ks) (gs := gs) (fs := fs) (ss := ss) (E := E) (buf := buf) (wr := wr) (be := be) hI.2.2.1 (W := W) ⟨w1, w2⟩ (fun i hi => wd_I (hI.2.2.2.2 i hi).1.1 (hI.2.2.2.2 i hi).1.2) (nI W) 6 jN 0 (inS σ d 6 (nI W')) ⟨hk4, k7.keep hg, fun j hj => by
        rw [if_neg (Nat.not_lt_zero j)]
        exact (k6 j hj).keep hg (fun q y z => by
          have := (k7.1 j hj).1
          subst y
          unfold rg at z
          omega)⟩ rfl (by omega) (by unfold jN; omega)
      have np : ∀ {a : Nat}, a < d + 28 → ¬ (∃ j, j < n ∧ rg (tA (T j)) 25 a) := fun h1 ⟨j, j1, j2⟩ => by
        have := (k7.1 j j1).1
        unfold rg at j2
        omega
      have nx : ∀ {a m : Nat}, a + m ≤ d + 28 → ∀ q, (∃ j, j < n ∧ rg (tA (T j)) 25 q) → ¬ rg a m q := fun h1 q ⟨j, j1, j2⟩ z => by
        have := (k7.1 j j1).1
        unfold rg at j2 z
        omega
      have nd : ∀ {a m : Nat}, d + 1 ≤ a → ∀ q, q = d → ¬ rg a m q := fun h1 q y z => by subst y; unfold rg at z; omega
      have hH : ClsH τ d n W' := by
        have : ClsH (inS σ d 6 (nI W')) d n W' := ⟨k0, r0, r1, r2, r3, r4, by rw [in_inS, if_neg (by omega)]; exact i5, by rw [in_inS, if_pos ⟨rfl, rfl⟩]⟩
        exact this.keep u3 (np (by omega))
      refine ⟨⟨c, fun z => ?_⟩, W', τ, w1, w2, rfl, ?_, ⟨hH, (k1.keep hg (by omega) (by omega)).keep u3 (np (by omega)) (np (by omega)), (k2.keep hg (nd (by omega))).keep u3 (nx (by omega)), ⟨pl, (k3.keep hg (nd (by omega))).keep u3 (nx (by omega))⟩, hk4.keep u3 (np (by omega)), ⟨ps, u, (k5.keep hg (nd (by omega))).keep u3 (nx (by omega))⟩, u2, (k7.keep hg).keep u3⟩, ⟨hI.1, hI.2.1, hI.2.2.1, ⟨w1, w2⟩, hI.2.2.2.2⟩, (hg.up (fun q y => Or.inl (by subst y; unfold rg; omega))).tr (u3.up (fun q y => Or.inr y))⟩
      · rw [Int32.lt_iff_toInt_lt] at z
        rw [Int32.le_iff_toInt_le] at c2
        omega
      · rw [if_neg c, if_pos c2, jgI_ok k0, i6, jpI_ok k0, jgR_ok (by rw [kd_inS]; exact k0), rf_inS, r3, jdr_ok, jal_ok hk4.1]
        exact u1
    · refine Or.inl ⟨fun z => z.2 ?_, by rw [if_neg c, if_neg c2]⟩
      rw [Int32.lt_iff_toInt_lt]
      rw [Int32.le_iff_toInt_le] at c2
      omega
/-- the sum of all texts' cells -/
def ckD (f : Nat → List Int32) : Nat → Nat → Int64 → Int64
  | 0, _, s => s
  | d + 1, i, s => ckD f d (i + 1) ((f i).foldl sm1 s)
theorem jvJ_ok {r : Int64} {K : Int64 → jR} : jvJ (some (.long r)) K = K r := rfl
/-- a sum of numbers -/
def smD (f : Nat → Nat) : Nat → Nat → Nat
  | 0, _ => 0
  | d + 1, i => f i + smD f d (i + 1)
theorem clO_nz {ks : List Nat} {gs fs ss : List Int32} {E : List (List Nat)} (hI : RubI ks gs fs ss E) (x : Tx) : ∀ c ∈ clO ks gs fs ss E x, ∀ y ∈ c, y ≠ 0 := fun c hc y hy => by
  unfold clO at hc
  obtain ⟨w, _, e⟩ := List.mem_map.mp hc
  subst e
  exact trW_nz hI _ _ y hy
theorem s_D_isSound {σ : Hp} {d : Nat} {buf ks : List Nat} {gs fs ss : List Int32} {E : List (List Nat)} {n : Nat} {T : Nat → Tx} {W : Nat} {wr : List Int32} {be : Int32} (h : ClsV σ d buf ks gs fs ss E n T W wr be) (hI : ClsI buf ks gs fs ss E n T W) : J_X5_isSound d σ = some (.inl (some (.int 1)), σ) := by
  have hn := hI.2.2.1
  obtain ⟨⟨k0, r0, r1, r2, r3, r4, i5, i6⟩, k1, k2, k3, ⟨a0, a1⟩, k5, k6, k7⟩ := h
  have loop : ∀ (k m i : Nat), 6 - i = k → i ≤ 6 → k < m → J_X5_isSound_L10 m d (d + 22) (nI 6) (nI i) σ = some (.inl (some (.int 1)), σ) := by
    intro k
    induction k with
    | zero =>
      intro m i hk hi hm
      obtain ⟨m, rfl⟩ : ∃ z, m = z + 1 := ⟨m - 1, by omega⟩
      show J_X5_isSound_L10b (J_X5_isSound_L10 m) d (d + 22) (nI 6) (nI i) σ = _
      unfold J_X5_isSound_L10b
      rw [if_pos (nI_le (by omega) (by omega)), jgR_ok k0, r1, jdr_ok, jcv_ok k2.1 (s_R_isInOrder k2 hI.2.1), jvI_ok, jrt_1]
    | succ k ih =>
      intro m i hk hi hm
      obtain ⟨m, rfl⟩ : ∃ z, m = z + 1 := ⟨m - 1, by omega⟩
      show J_X5_isSound_L10b (J_X5_isSound_L10 m) d (d + 22) (nI 6) (nI i) σ = _
      unfold J_X5_isSound_L10b jj
      dsimp only
      rw [if_neg (nI_ge (by omega) (by omega)), jaR_ok a0 (by omega) (by omega), a1 i (by omega)]
      by_cases hin : i < n
      · rw [if_pos hin, jnu_s, jgI_ok k0, i6, jcv_ok (k6 i hin).1.1 (s_T_isWellLaid hI.2.2.2.1.1 hI.2.2.2.1.2 (k6 i hin) (clO_nz hI.2.1 (T i))), jvI_ok, if_neg (show ¬ (1 : Int32) = 0 by decide), nI_1]
        exact ih m (i + 1) (by omega) (by omega) (by omega)
      · rw [if_neg hin, jnu_n, nI_1]
        exact ih m (i + 1) (by omega) (by omega) (by omega)
  unfold J_X5_isSound
  rw [jgR_ok k0, r3, jdr_ok, jal_ok a0]
  exact loop 6 jN 0 rfl (by omega) (by unfold jN; omega)
