/-! The class is made. -/
theorem gw.no {b b' : Nat} {t : Nat} {x y : Hp} (h : gw (fun _ => False) b x y) (hb : b' ≤ b) : gw (fun q => q = t) b' x y := h.up hb (fun q _ z => z.elim)
theorem gw.le {P : Nat → Prop} {b b' : Nat} {x y : Hp} (h : gw P b x y) (hb : b' ≤ b) : gw P b' x y := h.up hb (fun q _ z => z)
theorem gw.dn {b : Nat} {t : Nat} {x y : Hp} (h : gw (fun q => q = t) b x y) (hb : t ≤ b) : gw (fun _ => False) t x y := h.up hb (fun q h z => by omega)
theorem s_R_init {σ : Hp} (hz : kz σ) {t : Nat} (ht : tpH σ = t + 1) (hk : kdH σ t = (1, 3)) : ∃ τ, J_X3_init t σ = some (.inl none, τ) ∧ RubV τ t [] [] [] [] [] ∧ gw (fun _ => False) t σ τ ∧ tpH τ = t + 14 ∧ kz τ := by
  obtain ⟨τ1, a1, a2, a3, a4, a5⟩ := n_row hz 40 rfl (c := 40) (r := 40) (by omega) (by omega)
  rw [ht] at a1 a2 a3 a4
  have kA : kdH τ1 t = (1, 3) := by rw [(a3.2 t (by omega)).1]; exact hk
  obtain ⟨τ2, b1, b2, b3, b4, b5⟩ := n_row (σ := rfS τ1 t 0 (some (t + 1))) a5 40 rfl (c := 40) (r := 40) (by omega) (by omega)
  rw [show tpH (rfS τ1 t 0 (some (t + 1))) = t + 3 from a4] at b1 b2 b3 b4
  have kB : kdH τ2 t = (1, 3) := by rw [(b3.2 t (by omega)).1]; exact kA
  obtain ⟨τ3, c1, c2, c3, c4, c5⟩ := n_row (σ := rfS τ2 t 1 (some (t + 3))) b5 40 rfl (c := 40) (r := 40) (by omega) (by omega)
  rw [show tpH (rfS τ2 t 1 (some (t + 3))) = t + 5 from b4] at c1 c2 c3 c4
  have kC : kdH τ3 t = (1, 3) := by rw [(c3.2 t (by omega)).1]; exact kB
  obtain ⟨τ4, d1, d2, d3, d4, d5⟩ := n_row (σ := rfS τ3 t 2 (some (t + 5))) c5 40 rfl (c := 40) (r := 40) (by omega) (by omega)
  rw [show tpH (rfS τ3 t 2 (some (t + 5))) = t + 7 from c4] at d1 d2 d3 d4
  have kD : kdH τ4 t = (1, 3) := by rw [(d3.2 t (by omega)).1]; exact kC
  obtain ⟨τ5, e1, e2, e3, e4, e5⟩ := n_pie (σ := rfS τ4 t 3 (some (t + 7))) d5 20 1600 rfl rfl (c1 := 20) (c2 := 1600) (pr := 20) (r := 1600) (by omega) (by omega) (by omega) (by omega)
  rw [show tpH (rfS τ4 t 3 (some (t + 7))) = t + 9 from d4] at e1 e2 e3 e4
  have kE : kdH τ5 t = (1, 3) := by rw [(e3.2 t (by omega)).1]; exact kD
  have gB : gw (fun q => q = t) (t + 3) τ1 τ2 := (gw_rf τ1 0 _).tr (b3.no (by omega))
  have gC : gw (fun q => q = t) (t + 5) τ2 τ3 := (gw_rf τ2 1 _).tr (c3.no (by omega))
  have gD : gw (fun q => q = t) (t + 7) τ3 τ4 := (gw_rf τ3 2 _).tr (d3.no (by omega))
  have gE : gw (fun q => q = t) (t + 9) τ4 τ5 := (gw_rf τ4 3 _).tr (e3.no (by omega))
  have gF : gw (fun q => q = t) (t + 14) τ5 (rfS τ5 t 4 (some (t + 9))) := gw_rf τ5 4 _
  have no : ∀ {a m : Nat}, t < a → ∀ q, q = t → ¬ rg a m q := fun h q y z => by subst y; unfold rg at z; omega
  have h1 := a2.gw (gB.tr ((gC.le (by omega)).tr ((gD.le (by omega)).tr ((gE.le (by omega)).tr (gF.le (by omega)))))) (by omega) (by omega) (by omega)
  have h2 := b2.gw (gC.tr ((gD.le (by omega)).tr ((gE.le (by omega)).tr (gF.le (by omega))))) (by omega) (by omega) (by omega)
  have h3 := c2.gw (gD.tr ((gE.le (by omega)).tr (gF.le (by omega)))) (by omega) (by omega) (by omega)
  have h4 := d2.gw (gE.tr (gF.le (by omega))) (by omega) (by omega) (by omega)
  have h5 := e2.gw gF (by omega) (no (by omega))
  have rB : ∀ k, rfH τ2 t k = rfH (rfS τ1 t 0 (some (t + 1))) t k := fun k => by rw [((b3.2 t (by omega)).2 (fun z => z)).2.1]
  have rC : ∀ k, rfH τ3 t k = rfH (rfS τ2 t 1 (some (t + 3))) t k := fun k => by rw [((c3.2 t (by omega)).2 (fun z => z)).2.1]
  have rD : ∀ k, rfH τ4 t k = rfH (rfS τ3 t 2 (some (t + 5))) t k := fun k => by rw [((d3.2 t (by omega)).2 (fun z => z)).2.1]
  have rE : ∀ k, rfH τ5 t k = rfH (rfS τ4 t 3 (some (t + 7))) t k := fun k => by rw [((e3.2 t (by omega)).2 (fun z => z)).2.1]
  refine ⟨rfS τ5 t 4 (some (t + 9)), ?_, ⟨kE, ⟨?_, ?_, ?_, ?_, ?_⟩, h1, h2, h3, h4, h5⟩, ?_, e4, e5⟩
  · unfold J_X3_init
    rw [a1, jpR_ok kA, b1, jpR_ok kB, c1, jpR_ok kC, d1, jpR_ok kD, e1, jpR_ok kE]
  · simp [rf_rfS, rE, rD, rC, rB]
  · simp [rf_rfS, rE, rD, rC, rB]
  · simp [rf_rfS, rE, rD, rC, rB]
  · simp [rf_rfS, rE, rD, rC, rB]
  · simp [rf_rfS, rE, rD, rC, rB]
  · exact (a3.le (by omega)).tr ((gB.dn (by omega)).tr ((gC.dn (by omega)).tr ((gD.dn (by omega)).tr ((gE.dn (by omega)).tr (gF.dn (by omega))))))
theorem s_add_t {σ τ : Hp} {a r : Nat} {l : List Int32} (h : RowV σ a r l) (hl : l.length < r) (x : Int32) (e : J_X2_add a x σ = some (.inl none, τ)) : tpH τ = tpH σ := by
  obtain ⟨k0, k1, k2, k3, k4, k5, k6⟩ := h
  have : J_X2_add a x σ = some (.inl none, inS (inS σ (a + 1) l.length x) a 1 (nI l.length + 1)) := by
    unfold J_X2_add
    rw [jgI_ok k0, jgR_ok k0, k1, jdr_ok, jal_ok k3, k2, if_neg (nI_ge hl (by omega)), jgR_ok k0, jgI_ok k0, k1, jdr_ok, k2, jsI_ok k3 hl k5, jgI_ok (by rw [kd_inS]; exact k0), in_inS, if_neg (by omega), k2, jpI_ok (by rw [kd_inS]; exact k0)]
  rw [this] at e
  cases e
  rfl
theorem rep_snoc (i : Nat) : List.replicate i (0 : Int32) ++ [0] = List.replicate (i + 1) 0 := List.replicate_succ'.symm
theorem s_E_init_L {t : Nat} : ∀ (d m i : Nat) (σ : Hp), kdH σ t = (1, 0) → rfH σ t 0 = some (t + 1) → rfH σ t 1 = some (t + 3) → RowV σ (t + 1) 6 (List.replicate i 0) → RowV σ (t + 3) 6 (List.replicate i 0) → 6 - i = d → i ≤ 6 → d < m → ∃ τ, J_X0_init_L39 m t (nI i) σ = some (.inl none, τ) ∧ RowV τ (t + 1) 6 (List.replicate 6 0) ∧ RowV τ (t + 3) 6 (List.replicate 6 0) ∧ ag (fun q => t + 1 ≤ q ∧ q ≤ t + 4) σ τ ∧ tpH τ = tpH σ := by
  intro d
  induction d with
  | zero =>
    intro m i σ k0 r0 r1 h1 h2 hd hi hm
    obtain ⟨m, rfl⟩ : ∃ z, m = z + 1 := ⟨m - 1, by omega⟩
    obtain rfl : i = 6 := by omega
    refine ⟨σ, ?_, h1, h2, ag.rf, rfl⟩
    show J_X0_init_L39b (J_X0_init_L39 m) t (nI 6) σ = _
    unfold J_X0_init_L39b
    rw [if_pos (by decide)]
  | succ d ih =>
    intro m i σ k0 r0 r1 h1 h2 hd hi hm
    obtain ⟨m, rfl⟩ : ∃ z, m = z + 1 := ⟨m - 1, by omega⟩
    obtain ⟨τ1, a1, a2, a3⟩ := s_add h1 (by rw [List.length_replicate]; omega) 0
    have n0 : ¬ rw2 (t + 1) t := fun z => by unfold rw2 at z; omega
    have h2' := h2.keep a3 (fun z => by unfold rw2 at z; omega) (fun z => by unfold rw2 at z; omega)
    obtain ⟨τ2, b1, b2, b3⟩ := s_add h2' (by rw [List.length_replicate]; omega) 0
    have n1 : ¬ rw2 (t + 3) t := fun z => by unfold rw2 at z; omega
    have a2' := a2.keep b3 (fun z => by unfold rw2 at z; omega) (fun z => by unfold rw2 at z; omega)
    rw [rep_snoc] at a2' b2
    have k1 : kdH τ1 t = (1, 0) := by rw [a3.2.1]; exact k0
    have q1 : rfH τ1 t 1 = some (t + 3) := by rw [(a3.2.2.1 t n0).2]; exact r1
    have e1 := s_add_t h1 (by rw [List.length_replicate]; omega) 0 a1
    have e2 := s_add_t h2' (by rw [List.length_replicate]; omega) 0 b1
    obtain ⟨τ, c1, c2, c3, c4, c5⟩ := ih m (i + 1) τ2 (by rw [b3.2.1]; exact k1) (by rw [(b3.2.2.1 t n1).2, (a3.2.2.1 t n0).2]; exact r0) (by rw [(b3.2.2.1 t n1).2]; exact q1) a2' b2 (by omega) (by omega) (by omega)
    refine ⟨τ, ?_, c2, c3, (a3.up (fun q z => by unfold rw2 at z; omega)).tr ((b3.up (fun q z => by unfold rw2 at z; omega)).tr c4), by rw [c5, e2, e1]⟩
    show J_X0_init_L39b (J_X0_init_L39 m) t (nI i) σ = _
    unfold J_X0_init_L39b
    rw [if_neg (show ¬ (6 : Int32) ≤ nI i from nI_ge (b := 6) (by omega) (by omega)), jgR_ok k0, r0, jdr_ok, jcv_ok h1.1 a1, jvV_ok, jgR_ok k1, q1, jdr_ok, jcv_ok h2'.1 b1, jvV_ok, nI_1]
    exact c1
theorem s_E_init {σ : Hp} (hz : kz σ) {t : Nat} (ht : tpH σ = t + 1) (hk : kdH σ t = (1, 0)) : ∃ τ, J_X0_init t σ = some (.inl none, τ) ∧ EmbV τ t (List.replicate 6 0) (List.replicate 6 0) 5000 ∧ gw (fun _ => False) t σ τ ∧ tpH τ = t + 5 ∧ kz τ := by
  obtain ⟨τ1, a1, a2, a3, a4, a5⟩ := n_row hz 6 rfl (c := 6) (r := 6) (by omega) (by omega)
  rw [ht] at a1 a2 a3 a4
  have kA : kdH τ1 t = (1, 0) := by rw [(a3.2 t (by omega)).1]; exact hk
  obtain ⟨τ2, b1, b2, b3, b4, b5⟩ := n_row (σ := rfS τ1 t 0 (some (t + 1))) a5 6 rfl (c := 6) (r := 6) (by omega) (by omega)
  rw [show tpH (rfS τ1 t 0 (some (t + 1))) = t + 3 from a4] at b1 b2 b3 b4
  have kB : kdH τ2 t = (1, 0) := by rw [(b3.2 t (by omega)).1]; exact kA
  have gB : gw (fun q => q = t) (t + 3) τ1 τ2 := (gw_rf τ1 0 _).tr (b3.no (by omega))
  have gC : gw (fun q => q = t) (t + 5) τ2 (inS (rfS τ2 t 1 (some (t + 3))) t 2 5000) := (gw_rf τ2 1 _).tr (gw_in _ 2 5000)
  have h1 := a2.gw (gB.tr (gC.le (by omega))) (by omega) (by omega) (by omega)
  have h2 := b2.gw gC (by omega) (by omega) (by omega)
  have rB : ∀ k, rfH τ2 t k = rfH (rfS τ1 t 0 (some (t + 1))) t k := fun k => by rw [((b3.2 t (by omega)).2 (fun z => z)).2.1]
  have r0 : rfH (inS (rfS τ2 t 1 (some (t + 3))) t 2 5000) t 0 = some (t + 1) := by simp [rf_inS, rf_rfS, rB]
  have r1 : rfH (inS (rfS τ2 t 1 (some (t + 3))) t 2 5000) t 1 = some (t + 3) := by simp [rf_inS, rf_rfS, rB]
  obtain ⟨τ, c1, c2, c3, c4, c5⟩ := s_E_init_L (t := t) 6 jN 0 (inS (rfS τ2 t 1 (some (t + 3))) t 2 5000) kB r0 r1 h1 h2 rfl (by omega) (by unfold jN; omega)
  have nt : ¬ (t + 1 ≤ t ∧ t ≤ t + 4) := by omega
  have ht4 : tpH τ2 = t + 5 := b4
  refine ⟨τ, ?_, ⟨by rw [c4.2.1]; exact kB, ⟨by rw [(c4.2.2.1 t nt).2]; exact r0, by rw [(c4.2.2.1 t nt).2]; exact r1⟩, by rw [(c4.2.2.1 t nt).1, in_inS, if_pos ⟨rfl, rfl⟩], c2, c3, by simp, by simp⟩, ?_, ?_, ?_⟩
  · unfold J_X0_init
    rw [a1, jpR_ok kA, b1, jpR_ok kB, jpI_ok (by exact kB)]
    exact c1
  · exact (a3.le (by omega)).tr ((gB.dn (by omega)).tr ((gC.dn (by omega)).tr ((c4.gw (b := t)).up (Nat.le_refl _) (fun q h z => by omega))))
  · rw [c5]
    exact b4
  · exact kz.keep (σ := inS (rfS τ2 t 1 (some (t + 3))) t 2 5000) b5 c4

/-- an array of nothing but null -/
theorem n_txs {σ : Hp} (hz : kz σ) : ∃ τ, (∀ (K : Nat → Hp → jR), jnA σ 5 6 6 (fun b t => K b t) = K (tpH σ) τ) ∧ kdH τ (tpH σ) = (5, 6) ∧ (∀ i, rfH τ (tpH σ) i = none) ∧ gw (fun _ => False) (tpH σ) σ τ ∧ tpH τ = tpH σ + 1 ∧ kz τ := by
  refine ⟨nwS σ (5, 6), fun K => ?_, u1_s, fun i => ?_, gw_nw σ (5, 6), rfl, kz_nw hz (5, 6)⟩
  · unfold jnA
    rw [if_pos (by decide)]
    rfl
  · show u1 (rfH σ) (tpH σ) (fun _ => none) (tpH σ) i = none
    rw [u1_s]
theorem s_D_init {σ : Hp} (hz : kz σ) {t : Nat} (ht : tpH σ = t + 1) (hk : kdH σ t = (1, 5)) : ∃ τ, J_X5_init t σ = some (.inl none, τ) ∧ ClsV τ t [] [] [] [] [] [] 0 (fun _ => nTx 0) 20 (List.replicate 6 0) 5000 ∧ gw (fun _ => False) t σ τ ∧ tpH τ = t + 28 ∧ kz τ := by
  obtain ⟨τ1, a1, a2, a3, a4, a5⟩ := n_row hz 80 rfl (c := 80) (r := 80) (by omega) (by omega)
  rw [ht] at a1 a2 a3 a4
  have kA : kdH τ1 t = (1, 5) := by rw [(a3.2 t (by omega)).1]; exact hk
  -- the rules
  have z1 : kz (rfS τ1 t 0 (some (t + 1))) := a5
  have t1 : tpH (rfS τ1 t 0 (some (t + 1))) = t + 3 := a4
  obtain ⟨τ2, b1, b2, b3, b4, b5⟩ := s_R_init (kz_nw z1 (1, 3)) (t := t + 3) (by show tpH (rfS τ1 t 0 (some (t + 1))) + 1 = _; rw [t1]) (by show u1 _ (tpH (rfS τ1 t 0 (some (t + 1)))) (1, 3) (t + 3) = _; rw [t1, u1_s])
  have g2 : gw (fun q => q = t) (t + 3) τ1 τ2 := (gw_rf τ1 0 _).tr (((gw_nw (P := fun q => q = t) _ (1, 3)).le (by rw [t1]; omega)).tr (b3.no (by omega)))
  have kB : kdH τ2 t = (1, 5) := by rw [(g2.2 t (by omega)).1]; exact kA
  -- the embosser
  have z2 : kz (rfS τ2 t 1 (some (t + 3))) := b5
  have t2 : tpH (rfS τ2 t 1 (some (t + 3))) = t + 17 := b4
  obtain ⟨τ3, c1, c2, c3, c4, c5⟩ := s_E_init (kz_nw z2 (1, 0)) (t := t + 17) (by show tpH (rfS τ2 t 1 (some (t + 3))) + 1 = _; rw [t2]) (by show u1 _ (tpH (rfS τ2 t 1 (some (t + 3)))) (1, 0) (t + 17) = _; rw [t2, u1_s])
  have g3 : gw (fun q => q = t) (t + 17) τ2 τ3 := (gw_rf τ2 1 _).tr (((gw_nw (P := fun q => q = t) _ (1, 0)).le (by rw [t2]; omega)).tr (c3.no (by omega)))
  have kC : kdH τ3 t = (1, 5) := by rw [(g3.2 t (by omega)).1]; exact kB
  -- the texts
  have z3 : kz (rfS τ3 t 2 (some (t + 17))) := c5
  have t3 : tpH (rfS τ3 t 2 (some (t + 17))) = t + 22 := c4
  obtain ⟨τ4, d1, d2, d3, d4, d5, d6⟩ := n_txs z3
  rw [t3] at d1 d2 d3 d4 d5
  have g4 : gw (fun q => q = t) (t + 22) τ3 τ4 := (gw_rf τ3 2 _).tr (d4.no (by omega))
  have kD : kdH τ4 t = (1, 5) := by rw [(g4.2 t (by omega)).1]; exact kC
  -- the fresh cells
  obtain ⟨τ5, e1, e2, e3, e4, e5⟩ := n_pie (σ := rfS τ4 t 3 (some (t + 22))) d6 40 160 rfl rfl (c1 := 40) (c2 := 160) (pr := 40) (r := 160) (by omega) (by omega) (by omega) (by omega)
  rw [show tpH (rfS τ4 t 3 (some (t + 22))) = t + 23 from d5] at e1 e2 e3 e4
  have g5 : gw (fun q => q = t) (t + 23) τ4 τ5 := (gw_rf τ4 3 _).tr (e3.no (by omega))
  have kE : kdH τ5 t = (1, 5) := by rw [(g5.2 t (by omega)).1]; exact kD
  have g6 : gw (fun q => q = t) (t + 28) τ5 (inS (inS (rfS τ5 t 4 (some (t + 23))) t 5 0) t 6 20) := (gw_rf τ5 4 _).tr ((gw_in _ 5 0).tr (gw_in _ 6 20))
  have no : ∀ {a m : Nat}, t < a → ∀ q, q = t → ¬ rg a m q := fun h q y z => by subst y; unfold rg at z; omega
  have h1 := a2.gw (g2.tr ((g3.le (by omega)).tr ((g4.le (by omega)).tr ((g5.le (by omega)).tr (g6.le (by omega)))))) (by omega) (by omega) (by omega)
  have h2 := b2.gw (g3.tr ((g4.le (by omega)).tr ((g5.le (by omega)).tr (g6.le (by omega))))) (by omega) (no (by omega))
  have h3 := c2.gw (g4.tr ((g5.le (by omega)).tr (g6.le (by omega)))) (by omega) (no (by omega))
  have g56 := g5.tr (g6.le (by omega))
  have h5 := e2.gw g6 (by omega) (no (by omega))
  have k4 : kdH (inS (inS (rfS τ5 t 4 (some (t + 23))) t 5 0) t 6 20) (t + 22) = (5, 6) := by rw [(g56.2 (t + 22) (by omega)).1]; exact d2
  have r4 : ∀ i, rfH (inS (inS (rfS τ5 t 4 (some (t + 23))) t 5 0) t 6 20) (t + 22) i = none := fun i => by rw [((g56.2 (t + 22) (by omega)).2 (by omega)).2.1]; exact d3 i
  have rB : ∀ k, rfH τ2 t k = rfH (rfS τ1 t 0 (some (t + 1))) t k := fun k => by
    rw [((b3.2 t (by omega)).2 (fun z => z)).2.1]
    exact congrFun (u1_n (by rw [t1]; omega)) k
  have rC : ∀ k, rfH τ3 t k = rfH (rfS τ2 t 1 (some (t + 3))) t k := fun k => by
    rw [((c3.2 t (by omega)).2 (fun z => z)).2.1]
    exact congrFun (u1_n (by rw [t2]; omega)) k
  have rD : ∀ k, rfH τ4 t k = rfH (rfS τ3 t 2 (some (t + 17))) t k := fun k => by rw [((d4.2 t (by omega)).2 (fun z => z)).2.1]
  have rE : ∀ k, rfH τ5 t k = rfH (rfS τ4 t 3 (some (t + 22))) t k := fun k => by rw [((e3.2 t (by omega)).2 (fun z => z)).2.1]
  refine ⟨inS (inS (rfS τ5 t 4 (some (t + 23))) t 5 0) t 6 20, ?_, ⟨⟨kE, ?_, ?_, ?_, ?_, ?_, ?_, ?_⟩, h1, h2, ⟨_, h3⟩, ⟨k4, fun i hi => by rw [r4, if_neg (by omega)]⟩, ⟨_, _, h5⟩, fun i hi => (Nat.not_lt_zero i hi).elim, ⟨fun i hi => (Nat.not_lt_zero i hi).elim, fun i j _ hj => (Nat.not_lt_zero j hj).elim⟩⟩, ?_, e4, e5⟩
  · unfold J_X5_init
    rw [a1, jpR_ok kA]
    unfold jnw
    dsimp only
    rw [t1, jcv_ok (by show u1 _ (tpH (rfS τ1 t 0 (some (t + 1)))) (1, 3) (t + 3) = (1, 3); rw [t1, u1_s]) b1, jvV_ok, jpR_ok kB, t2, jcv_ok (by show u1 _ (tpH (rfS τ2 t 1 (some (t + 3)))) (1, 0) (t + 17) = (1, 0); rw [t2, u1_s]) c1, jvV_ok, jpR_ok kC, d1, jpR_ok kD]
    have := e1 (fun b19 t21 => jpR t21 t 5 4 (some b19) (fun t23 => jpI t23 t 5 5 0 (fun t24 => jpI t24 t 5 6 20 (fun t25 => some (.inl none, t25))))) (fun E t => some (.inr E, t))
    unfold jnw at this
    dsimp only at this
    rw [this, jpR_ok kE, jpI_ok (by exact kE), jpI_ok (by exact kE)]
  · simp [rf_inS, rf_rfS, rE, rD, rC, rB]
  · simp [rf_inS, rf_rfS, rE, rD, rC, rB]
  · simp [rf_inS, rf_rfS, rE, rD, rC, rB]
  · simp [rf_inS, rf_rfS, rE, rD, rC, rB]
  · simp [rf_inS, rf_rfS, rE, rD, rC, rB]
  · rw [in_inS, if_neg (by omega), in_inS, if_pos ⟨rfl, rfl⟩]
    rfl
  · rw [in_inS, if_pos ⟨rfl, rfl⟩]
    rfl
  · exact (a3.le (by omega)).tr ((g2.dn (by omega)).tr ((g3.dn (by omega)).tr ((g4.dn (by omega)).tr ((g5.dn (by omega)).tr (g6.dn (by omega))))))
