/-! Things that are made. -/
/-- what making leaves as it was -/
def gw (P : Nat → Prop) (b : Nat) (σ τ : Hp) : Prop := tpH σ ≤ tpH τ ∧ ∀ q, q < b → kdH τ q = kdH σ q ∧ (¬ P q → inH τ q = inH σ q ∧ rfH τ q = rfH σ q ∧ lgH τ q = lgH σ q ∧ dbH τ q = dbH σ q)
theorem gw.rf {P : Nat → Prop} {b : Nat} {σ : Hp} : gw P b σ σ := ⟨Nat.le_refl _, fun _ _ => ⟨rfl, fun _ => ⟨rfl, rfl, rfl, rfl⟩⟩⟩
theorem gw.tr {P : Nat → Prop} {b : Nat} {σ τ υ : Hp} (h : gw P b σ τ) (h' : gw P b τ υ) : gw P b σ υ := ⟨Nat.le_trans h.1 h'.1, fun q hq => ⟨(h'.2 q hq).1.trans (h.2 q hq).1, fun hp => by
  obtain ⟨a1, a2, a3, a4⟩ := (h.2 q hq).2 hp
  obtain ⟨b1, b2, b3, b4⟩ := (h'.2 q hq).2 hp
  exact ⟨b1.trans a1, b2.trans a2, b3.trans a3, b4.trans a4⟩⟩⟩
theorem gw.up {P P' : Nat → Prop} {b b' : Nat} {σ τ : Hp} (h : gw P b σ τ) (hb : b' ≤ b) (hP : ∀ q, q < b' → P q → P' q) : gw P' b' σ τ := ⟨h.1, fun q hq => ⟨(h.2 q (by omega)).1, fun z => (h.2 q (by omega)).2 (fun y => z (hP q hq y))⟩⟩
theorem ag.gw {P : Nat → Prop} {b : Nat} {σ τ : Hp} (h : ag P σ τ) : gw P b σ τ := ⟨h.1, fun q _ => ⟨by rw [h.2.1], fun hp => ⟨(h.2.2.1 q hp).1, (h.2.2.1 q hp).2, by rw [h.2.2.2.1], by rw [h.2.2.2.2]⟩⟩⟩
theorem RowV.gw {P : Nat → Prop} {b : Nat} {σ τ : Hp} {a r : Nat} {l : List Int32} (h : RowV σ a r l) (hg : gw P b σ τ) (hb : a + 1 < b) (h0 : ¬ P a) (h1 : ¬ P (a + 1)) : RowV τ a r l := by
  obtain ⟨k0, k1, k2, k3, k4, k5, k6⟩ := h
  obtain ⟨g1, g2⟩ := hg.2 a (by omega)
  obtain ⟨f1, f2⟩ := hg.2 (a + 1) hb
  refine ⟨by rw [g1]; exact k0, by rw [(g2 h0).2.1]; exact k1, by rw [(g2 h0).1]; exact k2, by rw [f1]; exact k3, k4, k5, fun i hi => ?_⟩
  rw [(f2 h1).1]
  exact k6 i hi
theorem PieV.gw {P : Nat → Prop} {b : Nat} {σ τ : Hp} {p pr r : Nat} {ps : List (List Int32)} {u : List Int32} (h : PieV σ p pr r ps u) (hg : gw P b σ τ) (hb : p + 5 ≤ b) (h0 : ∀ q, P q → ¬ rg p 5 q) : PieV τ p pr r ps u := by
  obtain ⟨k0, k1, k2, k3, e, k4, k5, k6⟩ := h
  have hn : ∀ i, i < 5 → ¬ P (p + i) := fun i hi z => h0 _ z ⟨by omega, by omega⟩
  obtain ⟨g1, g2⟩ := hg.2 p (by omega)
  exact ⟨by rw [g1]; exact k0, by rw [(g2 (hn 0 (by omega))).2.1]; exact k1, by rw [(g2 (hn 0 (by omega))).2.1]; exact k2, k3.gw hg (by omega) (hn 1 (by omega)) (hn 2 (by omega)), e, k4.gw hg (by omega) (hn 3 (by omega)) (hn 4 (by omega)), k5, k6⟩
theorem u1_s {α : Type} {f : Nat → α} {a : Nat} {v : α} : u1 f a v a = v := if_pos rfl
theorem u1_n {α : Type} {f : Nat → α} {a x : Nat} {v : α} (h : x ≠ a) : u1 f a v x = f x := if_neg h
theorem kz_nw {σ : Hp} (h : kz σ) (k : Nat × Nat) : kz (nwS σ k) := fun q hq => by
  have hq' : tpH σ + 1 ≤ q := hq
  show u1 (kdH σ) (tpH σ) k q = (0, 0)
  rw [u1_n (by omega)]
  exact h q (by omega)
theorem gw_nw {P : Nat → Prop} (σ : Hp) (k : Nat × Nat) : gw P (tpH σ) σ (nwS σ k) := ⟨Nat.le_succ _, fun q hq => ⟨u1_n (by omega), fun _ => ⟨u1_n (by omega), u1_n (by omega), u1_n (by omega), u1_n (by omega)⟩⟩⟩
theorem n_row {σ : Hp} (hz : kz σ) {c r : Nat} (v : Int32) (hv : v = nI r) (hc : r ≤ c) (hr : r < 100000) : ∃ τ, (∀ (K : Nat → Hp → jR) (KX : String → Hp → jR), jnw σ 2 (fun b1 t2 => jcv t2 b1 2 (J_X2_init c b1 v t2) (fun w4 t3 => jvV w4 (K b1 t3)) KX) = K (tpH σ) τ) ∧ RowV τ (tpH σ) r [] ∧ gw (fun _ => False) (tpH σ) σ τ ∧ tpH τ = tpH σ + 2 ∧ kz τ := by
  subst hv
  have kd1 : kdH (nwS σ (1, 2)) (tpH σ) = (1, 2) := u1_s
  have ha := ag_inS (P := fun q => q = tpH σ) (nwS σ (1, 2)) 1 0 (rfl : tpH σ = tpH σ)
  refine ⟨rfS (nwS (inS (nwS σ (1, 2)) (tpH σ) 1 0) (2, r)) (tpH σ) 0 (some (tpH σ + 1)), fun K KX => ?_, ?_, ?_, rfl, ?_⟩
  · unfold jnw
    have hk3 : kdH (nwS (inS (nwS σ (1, 2)) (tpH σ) 1 0) (2, r)) (tpH σ) = (1, 2) := by
      show u1 (u1 (kdH σ) (tpH σ) (1, 2)) (tpH σ + 1) (2, r) (tpH σ) = (1, 2)
      rw [u1_n (by omega), u1_s]
    have e : J_X2_init c (tpH σ) (nI r) (nwS σ (1, 2)) = some (.inl none, rfS (nwS (inS (nwS σ (1, 2)) (tpH σ) 1 0) (2, r)) (tpH σ) 0 (some (tpH σ + 1))) := by
      unfold J_X2_init jnA
      rw [jpI_ok kd1, if_pos (nI_pos' (by omega)), nI_clamp (by omega), if_pos ⟨nI_pos (by omega), hc⟩]
      dsimp only
      rw [show tpH (inS (nwS σ (1, 2)) (tpH σ) 1 0) = tpH σ + 1 from rfl, jpR_ok hk3]
    dsimp only
    rw [jcv_ok kd1 e, jvV_ok]
  · refine ⟨?_, ?_, ?_, ?_, Nat.zero_le _, hr, fun i hi => (Nat.not_lt_zero i hi).elim⟩
    · show u1 (u1 (kdH σ) (tpH σ) (1, 2)) (tpH σ + 1) (2, r) (tpH σ) = (1, 2)
      rw [u1_n (by omega), u1_s]
    · rw [rf_rfS, if_pos ⟨rfl, rfl⟩]
    · show u1 (inH (inS (nwS σ (1, 2)) (tpH σ) 1 0)) (tpH σ + 1) (fun _ => 0) (tpH σ) 1 = 0
      rw [u1_n (by omega), in_inS, if_pos ⟨rfl, rfl⟩]
    · show u1 (u1 (kdH σ) (tpH σ) (1, 2)) (tpH σ + 1) (2, r) (tpH σ + 1) = (2, r)
      exact u1_s
  · refine ⟨by show tpH σ ≤ tpH σ + 1 + 1; omega, fun q hq => ⟨?_, fun _ => ⟨?_, ?_, ?_, ?_⟩⟩⟩
    · show u1 (u1 (kdH σ) (tpH σ) (1, 2)) (tpH σ + 1) (2, r) q = kdH σ q
      rw [u1_n (by omega), u1_n (by omega)]
    · show u1 (inH (inS (nwS σ (1, 2)) (tpH σ) 1 0)) (tpH σ + 1) (fun _ => 0) q = inH σ q
      rw [u1_n (by omega)]
      funext y
      rw [in_inS, if_neg (fun z => by omega)]
      exact congrFun (u1_n (f := inH σ) (a := tpH σ) (v := fun _ => 0) (show q ≠ tpH σ by omega)) y
    · funext y
      rw [rf_rfS, if_neg (fun z => by omega)]
      show u1 (u1 (rfH σ) (tpH σ) (fun _ => none)) (tpH σ + 1) (fun _ => none) q y = rfH σ q y
      rw [u1_n (by omega), u1_n (by omega)]
    · show u1 (u1 (lgH σ) (tpH σ) (fun _ => 0)) (tpH σ + 1) (fun _ => 0) q = lgH σ q
      rw [u1_n (by omega), u1_n (by omega)]
    · show u1 (u1 (dbH σ) (tpH σ) (fun _ => 0)) (tpH σ + 1) (fun _ => 0) q = dbH σ q
      rw [u1_n (by omega), u1_n (by omega)]
  · intro q hq
    have hq' : tpH σ + 1 + 1 ≤ q := hq
    show u1 (u1 (kdH σ) (tpH σ) (1, 2)) (tpH σ + 1) (2, r) q = (0, 0)
    rw [u1_n (by omega), u1_n (by omega)]
    exact hz q (by omega)
theorem kz.inS' {σ : Hp} (h : kz σ) (a k : Nat) (v : Int32) : kz (inS σ a k v) := h
theorem kz.rfS' {σ : Hp} (h : kz σ) (a k : Nat) (v : Option Nat) : kz (rfS σ a k v) := h
theorem gw_rf {a b : Nat} (σ : Hp) (k : Nat) (v : Option Nat) : gw (fun q => q = a) b σ (rfS σ a k v) := (ag_rfS (P := fun q => q = a) σ k v rfl).gw
theorem gw_in {a b : Nat} (σ : Hp) (k : Nat) (v : Int32) : gw (fun q => q = a) b σ (inS σ a k v) := (ag_inS (P := fun q => q = a) σ k v rfl).gw
theorem s_P_init {σ : Hp} (hz : kz σ) {a c1 c2 pr r : Nat} (ha : tpH σ = a + 1) (hk : kdH σ a = (1, 1)) (h1 : pr ≤ c1) (h2 : r ≤ c2) (h3 : pr < 100000) (h4 : r < 100000) : ∃ τ, J_X1_init c1 c2 a (nI pr) (nI r) σ = some (.inl none, τ) ∧ PieV τ a pr r [] [] ∧ gw (fun _ => False) a σ τ ∧ tpH τ = a + 5 ∧ kz τ := by
  obtain ⟨τ1, a1, a2, a3, a4, a5⟩ := n_row hz (nI r) rfl h2 h4
  rw [ha] at a1 a2 a3 a4
  have k1 : kdH τ1 a = (1, 1) := by rw [(a3.2 a (by omega)).1]; exact hk
  obtain ⟨τ2, b1, b2, b3, b4, b5⟩ := n_row (σ := rfS τ1 a 0 (some (a + 1))) a5 (nI pr) rfl h1 h3
  have et : tpH (rfS τ1 a 0 (some (a + 1))) = a + 3 := a4
  rw [et] at b1 b2 b3 b4
  have k2 : kdH τ2 a = (1, 1) := by rw [(b3.2 a (by omega)).1]; exact k1
  have g1 : gw (fun q => q = a) (a + 3) τ1 τ2 := (gw_rf τ1 0 _).tr (b3.up (Nat.le_refl _) (fun q _ y => y.elim))
  have r1 := (a2.gw g1 (by omega) (by omega) (by omega)).gw (gw_rf (a := a) (b := a + 3) τ2 1 (some (a + 3))) (by omega) (by omega) (by omega)
  have r2 := b2.gw (gw_rf (a := a) (b := a + 5) τ2 1 (some (a + 3))) (by omega) (by omega) (by omega)
  refine ⟨rfS τ2 a 1 (some (a + 3)), ?_, ⟨k2, ?_, ?_, r1, [], r2, rfl, fun i hi => (Nat.not_lt_zero i hi).elim⟩, ?_, b4, b5⟩
  · unfold J_X1_init
    rw [a1, jpR_ok k1, b1, jpR_ok k2]
  · rw [rf_rfS, if_neg (by omega), ((b3.2 a (by omega)).2 (fun z => z)).2.1, rf_rfS, if_pos ⟨rfl, rfl⟩]
  · rw [rf_rfS, if_pos ⟨rfl, rfl⟩]
  · exact (a3.up (by omega) (fun q _ y => y)).tr ((g1.up (by omega) (fun q h y => by omega)).tr ((gw_rf (a := a) (b := a) τ2 1 _).up (Nat.le_refl _) (fun q h y => by omega)))
theorem n_pie {σ : Hp} (hz : kz σ) {c1 c2 pr r : Nat} (v v' : Int32) (hv : v = nI pr) (hv' : v' = nI r) (h1 : pr ≤ c1) (h2 : r ≤ c2) (h3 : pr < 100000) (h4 : r < 100000) : ∃ τ, (∀ (K : Nat → Hp → jR) (KX : String → Hp → jR), jnw σ 1 (fun b1 t2 => jcv t2 b1 1 (J_X1_init c1 c2 b1 v v' t2) (fun w4 t3 => jvV w4 (K b1 t3)) KX) = K (tpH σ) τ) ∧ PieV τ (tpH σ) pr r [] [] ∧ gw (fun _ => False) (tpH σ) σ τ ∧ tpH τ = tpH σ + 5 ∧ kz τ := by
  subst hv hv'
  have kd1 : kdH (nwS σ (1, 1)) (tpH σ) = (1, 1) := u1_s
  obtain ⟨τ, a1, a2, a3, a4, a5⟩ := s_P_init (kz_nw hz (1, 1)) (a := tpH σ) rfl kd1 h1 h2 h3 h4
  refine ⟨τ, fun K KX => ?_, a2, (gw_nw σ (1, 1)).tr a3, a4, a5⟩
  unfold jnw
  dsimp only
  rw [jcv_ok kd1 a1, jvV_ok]
theorem s_T_init {σ : Hp} (hz : kz σ) {t : Nat} (ht : tpH σ = t + 1) (hk : kdH σ t = (1, 4)) : ∃ τ, J_X4_init t σ = some (.inl none, τ) ∧ TxtV τ t 1 [] [] [] [] [] [] ∧ gw (fun _ => False) t σ τ ∧ tpH τ = t + 25 ∧ kz τ := by
  obtain ⟨τ1, a1, a2, a3, a4, a5⟩ := n_pie hz 40 80 rfl rfl (c1 := 40) (c2 := 80) (pr := 40) (r := 80) (by omega) (by omega) (by omega) (by omega)
  rw [ht] at a1 a2 a3 a4
  have kA : kdH τ1 t = (1, 4) := by rw [(a3.2 t (by omega)).1]; exact hk
  obtain ⟨τ2, b1, b2, b3, b4, b5⟩ := n_pie (σ := rfS τ1 t 0 (some (t + 1))) a5 40 160 rfl rfl (c1 := 40) (c2 := 160) (pr := 40) (r := 160) (by omega) (by omega) (by omega) (by omega)
  rw [show tpH (rfS τ1 t 0 (some (t + 1))) = t + 6 from a4] at b1 b2 b3 b4
  have kB : kdH τ2 t = (1, 4) := by rw [(b3.2 t (by omega)).1]; exact kA
  obtain ⟨τ3, c1, c2, c3, c4, c5⟩ := n_row (σ := rfS τ2 t 1 (some (t + 6))) b5 80 rfl (c := 80) (r := 80) (by omega) (by omega)
  rw [show tpH (rfS τ2 t 1 (some (t + 6))) = t + 11 from b4] at c1 c2 c3 c4
  have kC : kdH τ3 t = (1, 4) := by rw [(c3.2 t (by omega)).1]; exact kB
  obtain ⟨τ4, d1, d2, d3, d4, d5⟩ := n_pie (σ := rfS τ3 t 2 (some (t + 11))) c5 60 160 rfl rfl (c1 := 60) (c2 := 160) (pr := 60) (r := 160) (by omega) (by omega) (by omega) (by omega)
  rw [show tpH (rfS τ3 t 2 (some (t + 11))) = t + 13 from c4] at d1 d2 d3 d4
  have kD : kdH τ4 t = (1, 4) := by rw [(d3.2 t (by omega)).1]; exact kC
  obtain ⟨τ5, e1, e2, e3, e4, e5⟩ := n_row (σ := rfS τ4 t 3 (some (t + 13))) d5 40 rfl (c := 40) (r := 40) (by omega) (by omega)
  rw [show tpH (rfS τ4 t 3 (some (t + 13))) = t + 18 from d4] at e1 e2 e3 e4
  have kE : kdH τ5 t = (1, 4) := by rw [(e3.2 t (by omega)).1]; exact kD
  obtain ⟨τ6, f1, f2, f3, f4, f5⟩ := n_pie (σ := rfS τ5 t 4 (some (t + 18))) e5 60 160 rfl rfl (c1 := 60) (c2 := 160) (pr := 60) (r := 160) (by omega) (by omega) (by omega) (by omega)
  rw [show tpH (rfS τ5 t 4 (some (t + 18))) = t + 20 from e4] at f1 f2 f3 f4
  have kF : kdH τ6 t = (1, 4) := by rw [(f3.2 t (by omega)).1]; exact kE
  have up : ∀ {b b' : Nat} {x y : Hp}, gw (fun _ => False) b x y → b' ≤ b → gw (fun q => q = t) b' x y := fun h hb => h.up hb (fun q _ z => z.elim)
  have gB : gw (fun q => q = t) (t + 6) τ1 τ2 := (gw_rf τ1 0 _).tr (up b3 (by omega))
  have gC : gw (fun q => q = t) (t + 11) τ2 τ3 := (gw_rf τ2 1 _).tr (up c3 (by omega))
  have gD : gw (fun q => q = t) (t + 13) τ3 τ4 := (gw_rf τ3 2 _).tr (up d3 (by omega))
  have gE : gw (fun q => q = t) (t + 18) τ4 τ5 := (gw_rf τ4 3 _).tr (up e3 (by omega))
  have gF : gw (fun q => q = t) (t + 20) τ5 τ6 := (gw_rf τ5 4 _).tr (up f3 (by omega))
  have gG : gw (fun q => q = t) (t + 25) τ6 (inS (rfS τ6 t 5 (some (t + 20))) t 6 1) := (gw_rf τ6 5 _).tr (gw_in _ 6 1)
  have no : ∀ {a m : Nat}, t < a → ∀ q, q = t → ¬ rg a m q := fun h q y z => by subst y; unfold rg at z; omega
  have up2 : ∀ {b b' : Nat} {x y : Hp}, gw (fun q => q = t) b x y → b' ≤ b → gw (fun q => q = t) b' x y := fun h hb => h.up hb (fun q _ z => z)
  have h1 := a2.gw (gB.tr ((up2 gC (by omega)).tr ((up2 gD (by omega)).tr ((up2 gE (by omega)).tr ((up2 gF (by omega)).tr (up2 gG (by omega))))))) (by omega) (no (by omega))
  have h2 := b2.gw (gC.tr ((up2 gD (by omega)).tr ((up2 gE (by omega)).tr ((up2 gF (by omega)).tr (up2 gG (by omega)))))) (by omega) (no (by omega))
  have h3 := c2.gw (gD.tr ((up2 gE (by omega)).tr ((up2 gF (by omega)).tr (up2 gG (by omega))))) (by omega) (by omega) (by omega)
  have h4 := d2.gw (gE.tr ((up2 gF (by omega)).tr (up2 gG (by omega)))) (by omega) (no (by omega))
  have h5 := e2.gw (gF.tr (up2 gG (by omega))) (by omega) (by omega) (by omega)
  have h6 := f2.gw gG (by omega) (no (by omega))
  have rB : ∀ k, rfH τ2 t k = rfH (rfS τ1 t 0 (some (t + 1))) t k := fun k => by rw [((b3.2 t (by omega)).2 (fun z => z)).2.1]
  have rC : ∀ k, rfH τ3 t k = rfH (rfS τ2 t 1 (some (t + 6))) t k := fun k => by rw [((c3.2 t (by omega)).2 (fun z => z)).2.1]
  have rD : ∀ k, rfH τ4 t k = rfH (rfS τ3 t 2 (some (t + 11))) t k := fun k => by rw [((d3.2 t (by omega)).2 (fun z => z)).2.1]
  have rE : ∀ k, rfH τ5 t k = rfH (rfS τ4 t 3 (some (t + 13))) t k := fun k => by rw [((e3.2 t (by omega)).2 (fun z => z)).2.1]
  have rF : ∀ k, rfH τ6 t k = rfH (rfS τ5 t 4 (some (t + 18))) t k := fun k => by rw [((f3.2 t (by omega)).2 (fun z => z)).2.1]
  refine ⟨inS (rfS τ6 t 5 (some (t + 20))) t 6 1, ?_, ⟨⟨kF, ⟨?_, ?_, ?_, ?_, ?_, ?_⟩, ?_⟩, h1, h2, h3, h4, h5, h6⟩, ?_, f4, f5⟩
  · unfold J_X4_init
    rw [a1, jpR_ok kA, b1, jpR_ok kB, c1, jpR_ok kC, d1, jpR_ok kD, e1, jpR_ok kE, f1, jpR_ok kF, jpI_ok (by exact kF)]
  · simp [rf_inS, rf_rfS, rF, rE, rD, rC, rB]
  · simp [rf_inS, rf_rfS, rF, rE, rD, rC, rB]
  · simp [rf_inS, rf_rfS, rF, rE, rD, rC, rB]
  · simp [rf_inS, rf_rfS, rF, rE, rD, rC, rB]
  · simp [rf_inS, rf_rfS, rF, rE, rD, rC, rB]
  · simp [rf_inS, rf_rfS, rF, rE, rD, rC, rB]
  · rw [in_inS, if_pos ⟨rfl, rfl⟩]
  · have dn : ∀ {b : Nat} {x y : Hp}, gw (fun q => q = t) b x y → t ≤ b → gw (fun _ => False) t x y := fun h hb => h.up hb (fun q h z => by omega)
    exact (a3.up (by omega) (fun q _ y => y)).tr ((dn gB (by omega)).tr ((dn gC (by omega)).tr ((dn gD (by omega)).tr ((dn gE (by omega)).tr ((dn gF (by omega)).tr (dn gG (by omega)))))))
