/-! What the rules answer and become. -/
theorem kc_le {k m : Nat} (hk : k < 531441) (hm : m < 531441) : kc k ≤ kc m ↔ k ≤ m := by
  have h1 := c5_b hk
  have h2 := c5_b hm
  have h3 := @c5_lt m k
  unfold kc
  by_cases h : c5 k ≤ c5 m
  · exact ⟨fun _ => by omega, fun _ => nI_le h (by omega)⟩
  · exact ⟨fun z => (nI_ge (Nat.not_le.mp h) (by omega) z).elim, fun z => by omega⟩
theorem kc_lt {k m : Nat} (hk : k < 531441) (hm : m < 531441) : kc k < kc m ↔ k < m := by
  have h1 := c5_b hk
  have h2 := c5_b hm
  have h3 := @c5_lt k m
  unfold kc
  by_cases h : c5 k < c5 m
  · exact ⟨fun _ => by omega, fun _ => nI_lt h (by omega)⟩
  · exact ⟨fun z => (nI_nlt (Nat.not_lt.mp h) (by omega) z).elim, fun z => by omega⟩
theorem bI_nar (c : Bool) (σ : Hp) : jrt .boolean (bI c) σ = some (.inl (some (.int (bI c))), σ) := by
  cases c
  · exact jrt_0
  · exact jrt_1
theorem s_R_isFull {σ : Hp} {b : Nat} {ks : List Nat} {gs fs ss : List Int32} {E : List (List Nat)} (h : RubV σ b ks gs fs ss E) : J_X3_isFull b σ = some (.inl (some (.int (bI (decide (40 ≤ ks.length))))), σ) := by
  obtain ⟨k0, ⟨r0, r1, r2, r3, r4⟩, k1, k2, k3, k4, k5⟩ := h
  unfold J_X3_isFull
  rw [jgR_ok k0, r0, jdr_ok, jcv_ok k1.1 (s_isFull k1), jvI_ok, bI_nar, List.length_map]
theorem RubV.l40 {σ : Hp} {b : Nat} {ks : List Nat} {gs fs ss : List Int32} {E : List (List Nat)} (h : RubV σ b ks gs fs ss E) : ks.length ≤ 40 := by
  have := h.2.2.1.2.2.2.2.1
  rwa [List.length_map] at this
/-- an int that is a place of n -/
def inN (x : Int32) (n : Nat) : Prop := ∃ j, j < n ∧ x = nI j
theorem s_R_placeOf {σ : Hp} {b : Nat} {ks : List Nat} {gs fs ss : List Int32} {E : List (List Nat)} (h : RubV σ b ks gs fs ss E) (hI : RubI ks gs fs ss E) {k : Nat} (hk : k < 531441) : J_X3_placeOf b (kc k) σ = some (.inl (some (.int (if k ∈ ks then nI (ks.idxOf k) else -1))), σ) := by
  obtain ⟨k0, ⟨r0, r1, r2, r3, r4⟩, k1, k2, k3, k4, k5⟩ := h
  unfold J_X3_placeOf
  rw [jgR_ok k0, r0, jdr_ok, jcv_ok k1.1 (s_placeOf k1 _), jvI_ok, plc_kc hk hI.kb]
theorem k27_pos {w : List Nat} (h : lts w) (h1 : 1 ≤ w.length) : 19683 ≤ k27 w := by
  have := h.p (i := 0) h1
  unfold k27
  omega
theorem kc_pos {k : Nat} (h : 19683 ≤ k) (hk : k < 531441) : kc k ≠ 0 := by
  have := c5_b hk
  have h0 : 0 < c5 k := by unfold c5; omega
  exact nI_ne0 h0 (by omega)
theorem s_R_placeOf_0 {σ : Hp} {b : Nat} {ks : List Nat} {gs fs ss : List Int32} {E : List (List Nat)} (h : RubV σ b ks gs fs ss E) (hI : RubI ks gs fs ss E) : J_X3_placeOf b 0 σ = some (.inl (some (.int (-1))), σ) := by
  obtain ⟨k0, ⟨r0, r1, r2, r3, r4⟩, k1, k2, k3, k4, k5⟩ := h
  unfold J_X3_placeOf
  rw [jgR_ok k0, r0, jdr_ok, jcv_ok k1.1 (s_placeOf k1 _), jvI_ok, plc_no _ 0 (fun i hi => by
    rw [List.length_map] at hi
    rw [getD_map 0 hi]
    obtain ⟨w, w1, w2, w3, w4⟩ := hI.2.2.2.1 _ (getD_mem 0 hi)
    exact kc_pos (by rw [w4]; exact k27_pos w1 w2) (hI.kb _ (getD_mem 0 hi)))]
theorem ins_map {α β : Type} (f : α → β) (l : List α) (j : Nat) (x : α) : (ins l j x).map f = ins (l.map f) j (f x) := by simp [ins]
theorem del_map {α β : Type} (f : α → β) (l : List α) (j : Nat) : (del l j).map f = del (l.map f) j := by simp [del]
theorem s_R_insert {b : Nat} {ks : List Nat} {gs fs ss : List Int32} {E : List (List Nat)} (hI : RubI ks gs fs ss E) (hl : ks.length < 40) {k p : Nat} (hk : k < 531441) (hp : p ≤ ks.length) (h1 : ∀ i, i < p → ks.getD i 0 < k) (h2 : ∀ i, p ≤ i → i < ks.length → k < ks.getD i 0) (g x y : Int32) : ∀ (d m i : Nat) (σ : Hp), RubV σ b ks gs fs ss E → ks.length - i = d → i ≤ ks.length → d < m → ∃ τ, J_X3_insert_L6 m b (kc k) g x y (nI (min i p)) (nI i) σ = some (.inl (some (.int (nI p))), τ) ∧ RubV τ b (ins ks p k) (ins gs p g) (ins fs p x) (ins ss p y) E ∧ ag (rg b 14) σ τ := by
  intro d
  induction d with
  | zero =>
    intro m i σ h hd hi hm
    obtain ⟨m, rfl⟩ : ∃ z, m = z + 1 := ⟨m - 1, by omega⟩
    have hh := h
    obtain ⟨k0, ⟨r0, r1, r2, r3, r4⟩, k1, k2, k3, k4, k5⟩ := h
    have nb : ∀ c, 1 ≤ c → ¬ rw2 (b + c) b := fun c hc => by unfold rw2; omega
    obtain ⟨τ, a1, a2, a3⟩ := s_insert k1 (j := p) (by rw [List.length_map]; exact hp) (by rw [List.length_map]; exact hl) (kc k)
    obtain ⟨υ, b1, b2, b3⟩ := s_insert (k2.keep a3 (by unfold rw2; omega) (by unfold rw2; omega)) (j := p) (by rw [hI.1]; exact hp) (by rw [hI.1]; exact hl) g
    obtain ⟨φ, c1, c2, c3⟩ := s_insert ((k3.keep a3 (by unfold rw2; omega) (by unfold rw2; omega)).keep b3 (by unfold rw2; omega) (by unfold rw2; omega)) (j := p) (by rw [hI.2.1]; exact hp) (by rw [hI.2.1]; exact hl) x
    obtain ⟨ψ, d1, d2, d3⟩ := s_insert (((k4.keep a3 (by unfold rw2; omega) (by unfold rw2; omega)).keep b3 (by unfold rw2; omega) (by unfold rw2; omega)).keep c3 (by unfold rw2; omega) (by unfold rw2; omega)) (j := p) (by rw [hI.2.2.1]; exact hp) (by rw [hI.2.2.1]; exact hl) y
    have e1 : rfH τ b = rfH σ b := (a3.2.2.1 b (nb 1 (by omega))).2
    have e2 : rfH υ b = rfH σ b := by rw [(b3.2.2.1 b (nb 3 (by omega))).2, e1]
    have e3 : rfH φ b = rfH σ b := by rw [(c3.2.2.1 b (nb 5 (by omega))).2, e2]
    have e4 : rfH ψ b = rfH σ b := by rw [(d3.2.2.1 b (nb 7 (by omega))).2, e3]
    have f1 : kdH τ = kdH σ := a3.2.1
    have f2 : kdH υ = kdH σ := b3.2.1.trans f1
    have f3 : kdH φ = kdH σ := c3.2.1.trans f2
    have f4 : kdH ψ = kdH σ := d3.2.1.trans f3
    refine ⟨ψ, ?_, ⟨by rw [f4]; exact k0, by rw [e4]; exact ⟨r0, r1, r2, r3, r4⟩, ?_, ?_, ?_, d2, ?_⟩, (((a3.up (rw2_rg (by omega) (by omega))).tr (b3.up (rw2_rg (by omega) (by omega)))).tr (c3.up (rw2_rg (by omega) (by omega)))).tr (d3.up (rw2_rg (by omega) (by omega)))⟩
    · show J_X3_insert_L6b (J_X3_insert_L6 m) b (kc k) g x y (nI (min i p)) (nI i) σ = _
      unfold J_X3_insert_L6b
      rw [jgR_ok k0, r0, jdr_ok, jcv_ok k1.1 (s_count k1), jvI_ok, List.length_map, if_pos (nI_le (by omega) (by omega)), Nat.min_eq_right (by omega), jgR_ok k0, r0, jdr_ok, jcv_ok k1.1 a1, jvV_ok, jgR_ok (by rw [f1]; exact k0), e1, r1, jdr_ok, jcv_ok (by rw [f1]; exact k2.1) b1, jvV_ok, jgR_ok (by rw [f2]; exact k0), e2, r2, jdr_ok, jcv_ok (by rw [f2]; exact k3.1) c1, jvV_ok, jgR_ok (by rw [f3]; exact k0), e3, r3, jdr_ok, jcv_ok (by rw [f3]; exact k4.1) d1, jvV_ok]
    · rw [ins_map]
      exact ((a2.keep b3 (by unfold rw2; omega) (by unfold rw2; omega)).keep c3 (by unfold rw2; omega) (by unfold rw2; omega)).keep d3 (by unfold rw2; omega) (by unfold rw2; omega)
    · exact (b2.keep c3 (by unfold rw2; omega) (by unfold rw2; omega)).keep d3 (by unfold rw2; omega) (by unfold rw2; omega)
    · exact c2.keep d3 (by unfold rw2; omega) (by unfold rw2; omega)
    · refine (((k5.keep a3 ?_).keep b3 ?_).keep c3 ?_).keep d3 ?_ <;> (intro q hq; unfold rw2 at hq; unfold rg; omega)
  | succ d ih =>
    intro m i σ h hd hi hm
    obtain ⟨m, rfl⟩ : ∃ z, m = z + 1 := ⟨m - 1, by omega⟩
    have hh := h
    obtain ⟨k0, ⟨r0, r1, r2, r3, r4⟩, k1, k2, k3, k4, k5⟩ := h
    have hkb := hI.kb _ (getD_mem 0 (show i < ks.length by omega))
    obtain ⟨τ, j1, j2⟩ := ih m (i + 1) σ hh (by omega) (by omega) (by omega)
    refine ⟨τ, ?_, j2⟩
    show J_X3_insert_L6b (J_X3_insert_L6 m) b (kc k) g x y (nI (min i p)) (nI i) σ = _
    unfold J_X3_insert_L6b jj
    dsimp only
    rw [jgR_ok k0, r0, jdr_ok, jcv_ok k1.1 (s_count k1), jvI_ok, List.length_map, if_neg (nI_ge (by omega) (by omega)), jgR_ok k0, r0, jdr_ok, jcv_ok k1.1 (s_get' k1 (by omega)), jvI_ok, getD_map 0 (by omega)]
    by_cases hip : i < p
    · rw [if_neg (by rw [kc_le hk hkb]; have := h1 i hip; omega), nI_1]
      rw [Nat.min_eq_left (by omega)] at j1
      exact j1
    · rw [if_pos (by rw [kc_le hk hkb]; have := h2 i (by omega) (by omega); omega), nI_1]
      rw [Nat.min_eq_right (by omega)] at j1 ⊢
      exact j1
theorem s_R_alter {σ : Hp} {b : Nat} {ks : List Nat} {gs fs ss : List Int32} {E : List (List Nat)} (h : RubV σ b ks gs fs ss E) (hI : RubI ks gs fs ss E) {p : Nat} (hp : p < ks.length) (g x y : Int32) : ∃ τ, J_X3_alter b (nI p) g x y σ = some (.inl none, τ) ∧ RubV τ b ks (gs.set p g) (fs.set p x) (ss.set p y) E ∧ ag (rg b 14) σ τ := by
  obtain ⟨k0, ⟨r0, r1, r2, r3, r4⟩, k1, k2, k3, k4, k5⟩ := h
  have nb : ∀ c, 1 ≤ c → ¬ rw2 (b + c) b := fun c hc => by unfold rw2; omega
  obtain ⟨υ, b1, b2, b3⟩ := s_set k2 (j := p) (by rw [hI.1]; exact hp) g
  obtain ⟨φ, c1, c2, c3⟩ := s_set (k3.keep b3 (by unfold rw2; omega) (by unfold rw2; omega)) (j := p) (by rw [hI.2.1]; exact hp) x
  obtain ⟨ψ, d1, d2, d3⟩ := s_set ((k4.keep b3 (by unfold rw2; omega) (by unfold rw2; omega)).keep c3 (by unfold rw2; omega) (by unfold rw2; omega)) (j := p) (by rw [hI.2.2.1]; exact hp) y
  have e2 : rfH υ b = rfH σ b := by rw [(b3.2.2.1 b (nb 3 (by omega))).2]
  have e3 : rfH φ b = rfH σ b := by rw [(c3.2.2.1 b (nb 5 (by omega))).2, e2]
  have e4 : rfH ψ b = rfH σ b := by rw [(d3.2.2.1 b (nb 7 (by omega))).2, e3]
  have f2 : kdH υ = kdH σ := b3.2.1
  have f3 : kdH φ = kdH σ := c3.2.1.trans f2
  have f4 : kdH ψ = kdH σ := d3.2.1.trans f3
  refine ⟨ψ, ?_, ⟨by rw [f4]; exact k0, by rw [e4]; exact ⟨r0, r1, r2, r3, r4⟩, ?_, ?_, ?_, d2, ?_⟩, ((b3.up (rw2_rg (by omega) (by omega))).tr (c3.up (rw2_rg (by omega) (by omega)))).tr (d3.up (rw2_rg (by omega) (by omega)))⟩
  · unfold J_X3_alter
    rw [jgR_ok k0, r1, jdr_ok, jcv_ok k2.1 b1, jvV_ok, jgR_ok (by rw [f2]; exact k0), e2, r2, jdr_ok, jcv_ok (by rw [f2]; exact k3.1) c1, jvV_ok, jgR_ok (by rw [f3]; exact k0), e3, r3, jdr_ok, jcv_ok (by rw [f3]; exact k4.1) d1, jvV_ok]
  · exact ((k1.keep b3 (by unfold rw2; omega) (by unfold rw2; omega)).keep c3 (by unfold rw2; omega) (by unfold rw2; omega)).keep d3 (by unfold rw2; omega) (by unfold rw2; omega)
  · exact (b2.keep c3 (by unfold rw2; omega) (by unfold rw2; omega)).keep d3 (by unfold rw2; omega) (by unfold rw2; omega)
  · exact c2.keep d3 (by unfold rw2; omega) (by unfold rw2; omega)
  · refine ((k5.keep b3 ?_).keep c3 ?_).keep d3 ?_ <;> (intro q hq; unfold rw2 at hq; unfold rg; omega)
