/-! The turns past the texts: the deed (the width), the whole turn, all of them. -/
theorem Bx.txs {g : jG} {d n : Nat} {T : Nat → Tx} {W : Nat} {be : Int32} {σ : Hp} (h : Bx g d n T W be σ) : ∀ i, i < n → d + 28 ≤ tA (T i) ∧ tA (T i) + 25 ≤ tpH σ := by
  obtain ⟨⟨k0, k1, k2, k3, k4, k5, k6, k7⟩, -⟩ := h
  exact k7.1
/-- the class changed its own cells -/
theorem bx_cls {g : jG} {d n n' : Nat} {T T' : Nat → Tx} {W W' : Nat} {be be' : Int32} {σ τ : Hp} {c : Nat} (h : Bx g d n T W be σ) (hg : gw (clP d n T) c σ τ) (hc : c = tpH σ) (hz : kz τ) (h1 : ClsV τ d [] [] [] [] [] [] n' T' W' (List.replicate 6 0) be') (h2 : ClsI [] [] [] [] [] [] n' T' W') : Bx g d n' T' W' be' τ := by
  have hx := h.txs
  obtain ⟨-, -, -, h4, h5, h6, h7⟩ := h
  have hP : ∀ q, clP d n T q → ¬ (0 ≤ q ∧ q < gB g) := fun q z y => by
    rcases z with z | ⟨j, j1, z⟩
    · unfold rg at z
      omega
    · have := hx j j1
      unfold rg at z
      omega
  exact ⟨h1, h2, hz, Nat.le_trans h4 hg.1, h5, h6.gw hg (by omega) hP, h7.gw hg (by omega) hP⟩
theorem lw_5 : lw 5 14 = 5 := by decide +kernel
theorem lw_0 : (8 : Int32) + lw ((5 : Int32) >>> ((4 : Int32) &&& 31)) 33 = nI 8 := by decide +kernel
theorem s_acts {g : jG} {d : Nat} {T : Nat → Tx} {W : Nat} {be : Int32} {σ : Hp} (h : Bx g d 6 T W be σ) (a2 : Nat) : ∃ τ, J_L_acts g d 5 (nI 6) a2 σ = some (.inl (some (.int 1)), τ) ∧ Bx g d 6 T 8 be τ ∧ gw (clP d 6 T) (tpH σ) σ τ := by
  have hW := h.2.1.2.2.2.1
  rcases s_D_setWidth h.1 h.2.1 (nI 8) with ⟨hn, _⟩ | ⟨-, W', τ, w1, w2, w3, e, hv, hi, hg⟩
  · exact absurd (show inR (nI 8) 8 40 from by unfold inR; decide) hn
  · obtain rfl := nI_j w3 (by omega) (by omega)
    refine ⟨τ, ?_, bx_cls h hg.gw rfl (h.2.2.1.keep hg) hv hi, hg.gw⟩
    unfold J_L_acts
    rw [jcs_ok (s_low (by decide)), jvI_ok, jcs_ok (s_low (by decide)), jvI_ok, lw_5, if_pos rfl, jcs_ok (s_low (by decide)), jvI_ok, lw_0, jcv_ok h.1.1.1 e, jvI_ok, if_neg (show ¬ nI W < (8 : Int32) from nI_nlt (b := 8) (by omega) (by omega)), jrt_1]
theorem s_cell {g : jG} (hn : gSn g = 41) {k : Nat} (hk : k < 41) (σ : Hp) : J_L_cell g (nI k) σ = some (.inl (some (.int (gSx g k))), σ) := by
  unfold J_L_cell jzI
  rw [hn, if_neg (nI_ge hk (by omega)), if_pos (ix_ok hk (by omega)), nI_clamp (by omega)]
theorem s_turn {g : jG} {d : Nat} {T : Nat → Tx} {W : Nat} {be : Int32} (hT : tOK T) (hn : gSn g = 41) (k476 : Nat → Int32 → Hp → jR) (rc : Nat → Nat → Int32 → Int32 → Int32 → Hp → jR) (a2 : Nat) {t : Nat} (h6 : 6 ≤ t) (h40 : t < 40) (hs : gSx g (t + 1) = 5) {σ : Hp} (h : Bx g d 6 T W be σ) : ∃ τ, J_L_law_L65b g k476 rc d a2 (nI 6) 1 (nI t) σ = rc d a2 (nI 6) 1 (nI (t + 1)) τ ∧ Bx g d 6 T 8 be τ ∧ tpH σ + 7233 ≤ tpH τ := by
  have hx := h.txs
  have hL : Lo d T (tpH σ) := ⟨h.2.2.2.1, fun i hi => (hx i hi).2⟩
  have g1 := gw_nw (P := fun _ => False) σ (8, 240)
  have g2 := gw_nw (P := fun _ => False) (nwS σ (8, 240)) (7, 480)
  have g3 := gw_nw (P := fun _ => False) (nwS (nwS σ (8, 240)) (7, 480)) (2, 6)
  have gg : gw (fun _ => False) (tpH σ) σ (nwS (nwS (nwS σ (8, 240)) (7, 480)) (2, 6)) := (g1.trT g2 g1.1).trT g3 (Nat.le_trans g1.1 g2.1)
  have B1 := h.gw gg rfl (kz_nw (kz_nw (kz_nw h.2.2.1 _) _) _)
  have A1 : AR (nwS (nwS (nwS σ (8, 240)) (7, 480)) (2, 6)) (tpH σ) (tpH σ) (tpH σ + 1) (tpH σ + 2) T (dW 0 0) (fun x => x < 0) := by
    refine ⟨⟨?_, ?_, ?_⟩, ⟨Nat.le_refl _, ?_, Nat.le_succ _, ?_, by omega, ?_⟩, fun i j hd => ?_, fun i hi => absurd hi (Nat.not_lt_zero i)⟩
    · show (if tpH σ = tpH σ + 1 + 1 then ((2, 6) : Nat × Nat) else if tpH σ = tpH σ + 1 then (7, 480) else if tpH σ = tpH σ then (8, 240) else kdH σ (tpH σ)) = (8, 240)
      rw [if_neg (by omega), if_neg (by omega), if_pos rfl]
    · show (if tpH σ + 1 = tpH σ + 1 + 1 then ((2, 6) : Nat × Nat) else if tpH σ + 1 = tpH σ + 1 then (7, 480) else if tpH σ + 1 = tpH σ then (8, 240) else kdH σ (tpH σ + 1)) = (7, 480)
      rw [if_neg (by omega), if_pos rfl]
    · show (if tpH σ + 2 = tpH σ + 1 + 1 then ((2, 6) : Nat × Nat) else if tpH σ + 2 = tpH σ + 1 then (7, 480) else if tpH σ + 2 = tpH σ then (8, 240) else kdH σ (tpH σ + 2)) = (2, 6)
      rw [if_pos rfl]
    · show tpH σ < tpH σ + 1 + 1 + 1
      omega
    · show tpH σ + 1 < tpH σ + 1 + 1 + 1
      omega
    · show tpH σ + 2 < tpH σ + 1 + 1 + 1
      omega
    · unfold dW at hd
      omega
  obtain ⟨τ1, e1, B2, A2, t1⟩ := s_L180 (g := g) (d := d) (T := T) (W := W) (be := be) hT hL (fun (x55 : Nat) (x56 : Nat) (x57 : Int32) (x58 : Int32) (x59 : Int32) (x60 : Nat) (x61 : Nat) (x62 : Nat) (t63 : Hp) => jcs (J_L_acts g x55 x59 x57 x56 t63) (fun w65 t64 => jvI w65 (fun x66 => jcs (J_L_low g x59 ((14 : Int32)) t64) (fun w68 t67 => jvI w68 (fun x69 => J_L_law_L309 g  (fun (x108 : Nat) (x109 : Nat) (x110 : Int32) (x111 : Int32) (x112 : Int32) (t113 : Hp) => rc x108 x109 x110 x111 (x112 + 1) t113) jN x55 x56 x57 x66 x58 x60 x61 x62 x69 ((0 : Int32)) t67)) (fun _ _ => none))) (fun _ _ => none)) a2 (nI t) 5 (tpH σ) (tpH σ + 1) (tpH σ + 2) 6 jN 0 _ B1 A1 gg.1 (by omega) (by omega) (by show 6 < 100000; omega)
  obtain ⟨τ2, e2, B3, g4⟩ := s_acts B2 a2
  have A3 := A2.gw g4 rfl (fun q z => by
    rcases z with z | ⟨j, j1, z⟩
    · have := hL.1
      unfold rg at z
      omega
    · have := hL.2 j j1
      unfold rg at z
      omega)
  obtain ⟨τ3, e3, B4, t3⟩ := s_L309 (g := g) (d := d) (T := T) (be := be) hT (lo := tpH σ) (fun (x108 : Nat) (x109 : Nat) (x110 : Int32) (x111 : Int32) (x112 : Int32) (t113 : Hp) => rc x108 x109 x110 x111 (x112 + 1) t113) a2 (nI t) (tpH σ) (tpH σ + 1) (tpH σ + 2) 6 jN 0 τ2 B3 A3 (by omega) (by omega) (by show 6 < 100000; omega)
  refine ⟨τ3, ?_, B4, ?_⟩
  · unfold J_L_law_L65b jj
    rw [if_neg (show ¬ (40 : Int32) ≤ nI t from nI_ge (b := 40) (by omega) (by omega)), if_neg (by decide), show (1 : Int32) + nI t = nI (1 + t) from nI_add 1 t, jcs_ok (s_cell hn (by omega) σ), jvI_ok, Nat.add_comm 1 t, hs]
    dsimp only
    rw [if_pos (show (6 : Int32) ≤ nI 6 by decide), show nI 6 * (40 : Int32) = nI 240 by decide, show nI 6 * (80 : Int32) = nI 480 by decide, jnA_ok (by omega) (by omega), jnA_ok (by omega) (by omega), show (6 : Int32) = nI 6 by decide, jnA_ok (by omega) (by omega)]
    refine Eq.trans e1 ?_
    rw [jcs_ok e2, jvI_ok, jcs_ok (s_low (by decide)), jvI_ok, lw_5]
    refine Eq.trans e3 ?_
    rw [nI_1]
  · have q1 : tpH σ + 3 + 188 * 6 ≤ tpH τ1 := t1
    have q2 := g4.1
    have t9 : ∀ a b c e : Nat, a + 3 + 188 * 6 ≤ b → b ≤ c → c + 1017 * 6 ≤ e → a + 7233 ≤ e := fun a b c e q1 q2 q3 => by omega
    exact t9 _ _ _ _ q1 q2 t3
theorem s_turns {g : jG} {d : Nat} {T : Nat → Tx} {be : Int32} (hT : tOK T) (hn : gSn g = 41) (hs : ∀ i, 7 ≤ i → i ≤ 40 → gSx g i = 5) (k476 : Nat → Int32 → Hp → jR) (a2 : Nat) : ∀ (k m t W : Nat) (σ : Hp), Bx g d 6 T W be σ → 40 - t = k → 6 ≤ t → t ≤ 40 → k < m → ∃ τ W', J_L_law_L65 g k476 m d a2 (nI 6) 1 (nI t) σ = k476 d 1 τ ∧ tpH σ + 7233 * k ≤ tpH τ ∧ Bx g d 6 T W' be τ := by
  intro k
  induction k with
  | zero =>
    intro m t W σ h hk h6 h40 hm
    obtain ⟨n, rfl⟩ : ∃ n, m = n + 1 := ⟨m - 1, by omega⟩
    obtain rfl : t = 40 := by omega
    refine ⟨σ, W, ?_, by omega, h⟩
    show J_L_law_L65b g k476 (J_L_law_L65 g k476 n) d a2 (nI 6) 1 (nI 40) σ = _
    unfold J_L_law_L65b
    rw [if_pos (show (40 : Int32) ≤ nI 40 by decide)]
  | succ k ih =>
    intro m t W σ h hk h6 h40 hm
    obtain ⟨n, rfl⟩ : ∃ n, m = n + 1 := ⟨m - 1, by omega⟩
    obtain ⟨τ1, e1, B1, t1⟩ := s_turn hT hn k476 (J_L_law_L65 g k476 n) a2 h6 (by omega) (hs (t + 1) (by omega) (by omega)) h
    obtain ⟨τ, W', e2, t2, B2⟩ := ih n (t + 1) 8 τ1 B1 (by omega) (by omega) (by omega) (by omega)
    have t9 : ∀ a b c f : Nat, a + 7233 ≤ b → b + f ≤ c → a + f + 7233 ≤ c := fun a b c f q1 q2 => by omega
    refine ⟨τ, W', ?_, by rw [Nat.mul_succ, ← Nat.add_assoc]; exact t9 _ _ _ _ t1 t2, B2⟩
    show J_L_law_L65b g k476 (J_L_law_L65 g k476 n) d a2 (nI 6) 1 (nI t) σ = _
    rw [e1]
    exact e2
