/-! The embosser. -/
def EmbV (σ : Hp) (e : Nat) (wr pl : List Int32) (be : Int32) : Prop := kdH σ e = (1, 0) ∧ (rfH σ e 0 = some (e + 1) ∧ rfH σ e 1 = some (e + 3)) ∧ inH σ e 2 = be ∧ RowV σ (e + 1) 6 wr ∧ RowV σ (e + 3) 6 pl ∧ wr.length = 6 ∧ pl.length = 6
theorem EmbV.keep {P : Nat → Prop} {σ τ : Hp} {e : Nat} {wr pl : List Int32} {be : Int32} (h : EmbV σ e wr pl be) (hg : ag P σ τ) (h0 : ∀ q, P q → ¬ rg e 5 q) : EmbV τ e wr pl be := by
  obtain ⟨k0, k1, k2, k3, k4, k5⟩ := h
  have n0 := rg_pt h0 (a := e) (by omega) (by omega)
  exact ⟨by rw [hg.2.1]; exact k0, by rw [(hg.2.2.1 e n0).2]; exact k1, by rw [(hg.2.2.1 e n0).1]; exact k2, k3.keep hg (rg_pt h0 (by omega) (by omega)) (rg_pt h0 (by omega) (by omega)), k4.keep hg (rg_pt h0 (by omega) (by omega)) (rg_pt h0 (by omega) (by omega)), k5⟩
theorem s_E_changeBearing {σ : Hp} {e : Nat} {wr pl : List Int32} {be : Int32} (h : EmbV σ e wr pl be) (x : Int32) : ∃ τ, J_X0_changeBearing e x σ = some (.inl (some (.int be)), τ) ∧ EmbV τ e wr pl x ∧ ag (rg e 5) σ τ := by
  obtain ⟨k0, k1, k2, k3, k4, k5⟩ := h
  have hg := ag_inS (P := fun q => q = e) σ 2 x (rfl : e = e)
  refine ⟨inS σ e 2 x, ?_, ⟨k0, k1, by rw [in_inS, if_pos ⟨rfl, rfl⟩], k3.keep hg (by omega) (by omega), k4.keep hg (by omega) (by omega), k5⟩, hg.up (fun q z => by subst z; unfold rg; omega)⟩
  unfold J_X0_changeBearing
  rw [jgI_ok k0, jpI_ok k0, k2]
theorem s_E_wearOf {σ : Hp} {e : Nat} {wr pl : List Int32} {be : Int32} (h : EmbV σ e wr pl be) {j : Nat} (hj : j < 6) : J_X0_wearOf e (nI (j + 1)) σ = some (.inl (some (.int (wr.getD j 0))), σ) := by
  obtain ⟨k0, ⟨r0, r1⟩, k2, k3, k4, k5⟩ := h
  unfold J_X0_wearOf
  rw [jgR_ok k0, r0, jdr_ok, nI_pred, jcv_ok k3.1 (s_get' k3 (by omega)), jvI_ok]
theorem s_E_renewPin {σ : Hp} {e : Nat} {wr pl : List Int32} {be : Int32} (h : EmbV σ e wr pl be) {j : Nat} (hj : j < 6) : ∃ τ, J_X0_renewPin e (nI (j + 1)) σ = some (.inl (some (.int (wr.getD j 0))), τ) ∧ EmbV τ e (wr.set j 0) pl be ∧ ag (rg e 5) σ τ := by
  have hh := h
  obtain ⟨k0, ⟨r0, r1⟩, k2, k3, k4, k5, k6⟩ := h
  obtain ⟨τ, a1, a2, a3⟩ := s_set k3 (j := j) (by omega) 0
  have n0 : ¬ rw2 (e + 1) e := fun z => by unfold rw2 at z; omega
  refine ⟨τ, ?_, ⟨by rw [a3.2.1]; exact k0, by rw [(a3.2.2.1 e n0).2]; exact ⟨r0, r1⟩, by rw [(a3.2.2.1 e n0).1]; exact k2, a2, k4.keep a3 (by unfold rw2; omega) (by unfold rw2; omega), by rw [List.length_set]; exact k5, k6⟩, a3.up (rw2_rg (by omega) (by omega))⟩
  unfold J_X0_renewPin
  rw [jcv_ok k0 (s_E_wearOf hh hj), jvI_ok, jgR_ok k0, r0, jdr_ok, nI_pred, jcv_ok k3.1 a1, jvV_ok]
/-- a dot of a cell -/
def bt (c : Int32) (j : Nat) : Int32 := (c >>> (nI j &&& 31)) &&& 1
theorem s_E_plans {e : Nat} {be : Int32} {wr : List Int32} (L : Nat → Nat → Int32 → Hp → jR) (f : Nat → Int32 → Int32) (hx : ∀ (m : Nat) (σ : Hp), L (m + 1) e (nI 6) σ = some (.inl none, σ)) (hs : ∀ (m i : Nat) (σ : Hp) (pl : List Int32), EmbV σ e wr pl be → i < 6 → ∃ τ, L (m + 1) e (nI i) σ = L m e (nI i + 1) τ ∧ EmbV τ e wr (pl.set i (f i (pl.getD i 0))) be ∧ ag (rg e 5) σ τ) : ∀ (d m i : Nat) (σ : Hp) (pl : List Int32), EmbV σ e wr pl be → 6 - i = d → i ≤ 6 → d < m → ∃ τ pl', L m e (nI i) σ = some (.inl none, τ) ∧ EmbV τ e wr pl' be ∧ (∀ j, j < 6 → pl'.getD j 0 = if i ≤ j then f j (pl.getD j 0) else pl.getD j 0) ∧ ag (rg e 5) σ τ := by
  intro d
  induction d with
  | zero =>
    intro m i σ pl h hd hi hm
    obtain ⟨m, rfl⟩ : ∃ z, m = z + 1 := ⟨m - 1, by omega⟩
    obtain rfl : i = 6 := by omega
    exact ⟨σ, pl, hx m σ, h, fun j hj => by rw [if_neg (by omega)], ag.rf⟩
  | succ d ih =>
    intro m i σ pl h hd hi hm
    obtain ⟨m, rfl⟩ : ∃ z, m = z + 1 := ⟨m - 1, by omega⟩
    obtain ⟨τ, a1, a2, a3⟩ := hs m i σ pl h (by omega)
    obtain ⟨υ, pl', u1, u2, u3, u4⟩ := ih m (i + 1) τ _ a2 (by omega) (by omega) (by omega)
    refine ⟨υ, pl', by rw [a1, nI_1]; exact u1, u2, fun j hj => ?_, a3.tr u4⟩
    rw [u3 j hj, getD_set (by rw [h.2.2.2.2.2.2]; omega)]
    by_cases c : j = i
    · rw [if_neg (by omega), if_pos c, if_pos (by omega), c]
    · rw [if_neg c]
      by_cases c2 : i ≤ j
      · rw [if_pos (by omega), if_pos c2]
      · rw [if_neg (by omega), if_neg c2]
theorem EmbV.setP {σ τ : Hp} {e : Nat} {wr pl : List Int32} {be : Int32} (h : EmbV σ e wr pl be) {pl' : List Int32} (h1 : RowV τ (e + 3) 6 pl') (h2 : pl'.length = 6) (hg : ag (rw2 (e + 3)) σ τ) : EmbV τ e wr pl' be := by
  obtain ⟨k0, ⟨r0, r1⟩, k2, k3, k4, k5, k6⟩ := h
  have n0 : ¬ rw2 (e + 3) e := fun z => by unfold rw2 at z; omega
  exact ⟨by rw [hg.2.1]; exact k0, by rw [(hg.2.2.1 e n0).2]; exact ⟨r0, r1⟩, by rw [(hg.2.2.1 e n0).1]; exact k2, k3.keep hg (by unfold rw2; omega) (by unfold rw2; omega), h1, k5, h2⟩
theorem EmbV.setW {σ τ : Hp} {e : Nat} {wr pl : List Int32} {be : Int32} (h : EmbV σ e wr pl be) {wr' : List Int32} (h1 : RowV τ (e + 1) 6 wr') (h2 : wr'.length = 6) (hg : ag (rw2 (e + 1)) σ τ) : EmbV τ e wr' pl be := by
  obtain ⟨k0, ⟨r0, r1⟩, k2, k3, k4, k5, k6⟩ := h
  have n0 : ¬ rw2 (e + 1) e := fun z => by unfold rw2 at z; omega
  exact ⟨by rw [hg.2.1]; exact k0, by rw [(hg.2.2.1 e n0).2]; exact ⟨r0, r1⟩, by rw [(hg.2.2.1 e n0).1]; exact k2, h1, k4.keep hg (by unfold rw2; omega) (by unfold rw2; omega), h2, k6⟩
theorem s_E_forgetPlan {σ : Hp} {e : Nat} {wr pl : List Int32} {be : Int32} (h : EmbV σ e wr pl be) : ∃ τ pl', J_X0_forgetPlan e σ = some (.inl none, τ) ∧ EmbV τ e wr pl' be ∧ (∀ j, j < 6 → pl'.getD j 0 = 0) ∧ ag (rg e 5) σ τ := by
  obtain ⟨τ, pl', a1, a2, a3, a4⟩ := s_E_plans (wr := wr) (be := be) (e := e) J_X0_forgetPlan_L2 (fun _ _ => 0) (fun m σ => by
      show J_X0_forgetPlan_L2b (J_X0_forgetPlan_L2 m) e (nI 6) σ = _
      unfold J_X0_forgetPlan_L2b
      rw [if_pos (show (6 : Int32) ≤ nI 6 from nI_le (a := 6) (by omega) (by omega))])
    (fun m i σ pl h hi => by
      obtain ⟨τ, b1, b2, b3⟩ := s_set h.2.2.2.2.1 (j := i) (by rw [h.2.2.2.2.2.2]; exact hi) 0
      refine ⟨τ, ?_, h.setP b2 (by rw [List.length_set]; exact h.2.2.2.2.2.2) b3, b3.up (rw2_rg (by omega) (by omega))⟩
      show J_X0_forgetPlan_L2b (J_X0_forgetPlan_L2 m) e (nI i) σ = _
      unfold J_X0_forgetPlan_L2b
      rw [if_neg (show ¬ (6 : Int32) ≤ nI i from nI_ge (b := 6) (by omega) (by omega)), jgR_ok h.1, h.2.1.2, jdr_ok, jcv_ok h.2.2.2.2.1.1 b1, jvV_ok])
    6 jN 0 σ pl h rfl (by omega) (by unfold jN; omega)
  exact ⟨τ, pl', a1, a2, fun j hj => by rw [a3 j hj, if_pos (by omega)], a4⟩
theorem s_E_planCell {σ : Hp} {e : Nat} {wr pl : List Int32} {be : Int32} (h : EmbV σ e wr pl be) (c : Int32) : ∃ τ pl', J_X0_planCell e c σ = some (.inl none, τ) ∧ EmbV τ e wr pl' be ∧ (∀ j, j < 6 → pl'.getD j 0 = pl.getD j 0 + bt c j) ∧ ag (rg e 5) σ τ := by
  obtain ⟨τ, pl', a1, a2, a3, a4⟩ := s_E_plans (wr := wr) (be := be) (e := e) (fun m e i σ => J_X0_planCell_L2 m e c i σ) (fun i x => x + bt c i) (fun m σ => by
      show J_X0_planCell_L2b (J_X0_planCell_L2 m) e c (nI 6) σ = _
      unfold J_X0_planCell_L2b
      rw [if_pos (show (6 : Int32) ≤ nI 6 from nI_le (a := 6) (by omega) (by omega))])
    (fun m i σ pl h hi => by
      obtain ⟨τ, b1, b2, b3⟩ := s_set h.2.2.2.2.1 (j := i) (by rw [h.2.2.2.2.2.2]; exact hi) (pl.getD i 0 + bt c i)
      refine ⟨τ, ?_, h.setP b2 (by rw [List.length_set]; exact h.2.2.2.2.2.2) b3, b3.up (rw2_rg (by omega) (by omega))⟩
      show J_X0_planCell_L2b (J_X0_planCell_L2 m) e c (nI i) σ = _
      unfold J_X0_planCell_L2b
      unfold bt at b1
      rw [if_neg (show ¬ (6 : Int32) ≤ nI i from nI_ge (b := 6) (by omega) (by omega)), jgR_ok h.1, jgR_ok h.1, h.2.1.2, jdr_ok, jdr_ok, jcv_ok h.2.2.2.2.1.1 (s_get' h.2.2.2.2.1 (by omega)), jvI_ok, jcv_ok h.2.2.2.2.1.1 b1, jvV_ok])
    6 jN 0 σ pl h rfl (by omega) (by unfold jN; omega)
  exact ⟨τ, pl', a1, a2, fun j hj => by rw [a3 j hj, if_pos (by omega)], a4⟩
/-- a pin that would be struck beyond its bearing -/
def ovr (wr pl : List Int32) (be : Int32) (j : Nat) : Bool := decide (¬ pl.getD j 0 ≤ 0 ∧ ¬ wr.getD j 0 + pl.getD j 0 ≤ be)
theorem s_E_bearsPlan {σ : Hp} {e : Nat} {wr pl : List Int32} {be : Int32} (h : EmbV σ e wr pl be) : J_X0_bearsPlan e σ = some (.inl (some (.int (bI (!anyD (ovr wr pl be) 6 0)))), σ) := by
  obtain ⟨k0, ⟨r0, r1⟩, k2, k3, k4, k5, k6⟩ := h
  have loop : ∀ (d m i : Nat), 6 - i = d → i ≤ 6 → d < m → J_X0_bearsPlan_L2 m e (nI i) σ = some (.inl (some (.int (bI (!anyD (ovr wr pl be) d i)))), σ) := by
    intro d
    induction d with
    | zero =>
      intro m i hd hi hm
      obtain ⟨m, rfl⟩ : ∃ z, m = z + 1 := ⟨m - 1, by omega⟩
      show J_X0_bearsPlan_L2b (J_X0_bearsPlan_L2 m) e (nI i) σ = _
      unfold J_X0_bearsPlan_L2b
      rw [if_pos (show (6 : Int32) ≤ nI i from nI_le (a := 6) (by omega) (by omega)), jrt_1]
      rfl
    | succ d ih =>
      intro m i hd hi hm
      obtain ⟨m, rfl⟩ : ∃ z, m = z + 1 := ⟨m - 1, by omega⟩
      have hih := ih m (i + 1) (by omega) (by omega) (by omega)
      show J_X0_bearsPlan_L2b (J_X0_bearsPlan_L2 m) e (nI i) σ = _
      unfold J_X0_bearsPlan_L2b jj anyD
      dsimp only
      rw [if_neg (show ¬ (6 : Int32) ≤ nI i from nI_ge (b := 6) (by omega) (by omega)), jgR_ok k0, r1, jdr_ok, jcv_ok k4.1 (s_get' k4 (by omega)), jvI_ok]
      by_cases c : pl.getD i 0 ≤ 0
      · rw [if_pos c, nI_1, show ovr wr pl be i = false from decide_eq_false (fun z => z.1 c), Bool.false_or]
        exact hih
      · rw [if_neg c, jgR_ok k0, r0, jdr_ok, jcv_ok k3.1 (s_get' k3 (by omega)), jvI_ok, jgR_ok k0, r1, jdr_ok, jcv_ok k4.1 (s_get' k4 (by omega)), jvI_ok, jgI_ok k0, k2]
        by_cases c2 : wr.getD i 0 + pl.getD i 0 ≤ be
        · rw [if_pos c2, nI_1, show ovr wr pl be i = false from decide_eq_false (fun z => z.2 c2), Bool.false_or]
          exact hih
        · rw [if_neg c2, jrt_0, show ovr wr pl be i = true from decide_eq_true ⟨c, c2⟩, Bool.true_or]
          rfl
  exact loop 6 jN 0 rfl (by omega) (by unfold jN; omega)
theorem s_E_strikePlan {e : Nat} {pl : List Int32} {be : Int32} : ∀ (d m i : Nat) (σ : Hp) (wr : List Int32), EmbV σ e wr pl be → 6 - i = d → i ≤ 6 → d < m → ∃ τ wr', J_X0_strikePlan_L2 m e (nI i) σ = some (.inl none, τ) ∧ EmbV τ e wr' pl be ∧ (∀ j, j < 6 → wr'.getD j 0 = if i ≤ j then wr.getD j 0 + pl.getD j 0 else wr.getD j 0) ∧ ag (rg e 5) σ τ := by
  intro d
  induction d with
  | zero =>
    intro m i σ wr h hd hi hm
    obtain ⟨m, rfl⟩ : ∃ z, m = z + 1 := ⟨m - 1, by omega⟩
    obtain rfl : i = 6 := by omega
    refine ⟨σ, wr, ?_, h, fun j hj => by rw [if_neg (by omega)], ag.rf⟩
    show J_X0_strikePlan_L2b (J_X0_strikePlan_L2 m) e (nI 6) σ = _
    unfold J_X0_strikePlan_L2b
    rw [if_pos (show (6 : Int32) ≤ nI 6 from nI_le (a := 6) (by omega) (by omega))]
  | succ d ih =>
    intro m i σ wr h hd hi hm
    obtain ⟨m, rfl⟩ : ∃ z, m = z + 1 := ⟨m - 1, by omega⟩
    obtain ⟨τ, b1, b2, b3⟩ := s_set h.2.2.2.1 (j := i) (by rw [h.2.2.2.2.2.1]; omega) (wr.getD i 0 + pl.getD i 0)
    have h2 := h.setW b2 (by rw [List.length_set]; exact h.2.2.2.2.2.1) b3
    obtain ⟨υ, wr', u1, u2, u3, u4⟩ := ih m (i + 1) τ _ h2 (by omega) (by omega) (by omega)
    refine ⟨υ, wr', ?_, u2, fun j hj => ?_, (b3.up (rw2_rg (by omega) (by omega))).tr u4⟩
    · show J_X0_strikePlan_L2b (J_X0_strikePlan_L2 m) e (nI i) σ = _
      unfold J_X0_strikePlan_L2b
      rw [if_neg (show ¬ (6 : Int32) ≤ nI i from nI_ge (b := 6) (by omega) (by omega)), jgR_ok h.1, jgR_ok h.1, h.2.1.1, jdr_ok, jdr_ok, jcv_ok h.2.2.2.1.1 (s_get' h.2.2.2.1 (by omega)), jvI_ok, jgR_ok h.1, h.2.1.2, jdr_ok, jcv_ok h.2.2.2.2.1.1 (s_get' h.2.2.2.2.1 (by omega)), jvI_ok, jcv_ok h.2.2.2.1.1 b1, jvV_ok, nI_1]
      exact u1
    · rw [u3 j hj, getD_set (by rw [h.2.2.2.2.2.1]; omega)]
      by_cases c : j = i
      · rw [if_neg (by omega), if_pos c, if_pos (by omega), c]
      · rw [if_neg c]
        by_cases c2 : i ≤ j
        · rw [if_pos (by omega), if_pos c2]
        · rw [if_neg (by omega), if_neg c2]
