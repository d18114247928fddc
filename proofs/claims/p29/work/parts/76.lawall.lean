/-! The turns that take the texts, and the whole walk: how many cells it makes at the least. -/
def tQ (n : Nat) (T : Nat → Tx) : Prop := ∀ i, i < n → tX (T i) = XX ∧ tG (T i) = nI 1
theorem tQ_ok {T : Nat → Tx} (h : tQ 6 T) : tOK T := fun i hi => by
  obtain ⟨h1, h2⟩ := h i hi
  refine ⟨?_, by rw [h1]; exact XX_wd.1⟩
  unfold clO
  rw [h1, h2]
  exact XX_wd.2
theorem v18 : lw ((122789275 : Int32) >>> (((18 : Int32)) &&& 31)) 6 = 0 := by decide +kernel
theorem v9 : (1 : Int32) + lw ((122789275 : Int32) >>> (((9 : Int32)) &&& 31)) 2 = nI 1 := by decide +kernel
theorem s_text {g : jG} {d n : Nat} {T : Nat → Tx} {W : Nat} {be : Int32} (hn : gSn g = 41) (k476 : Nat → Int32 → Hp → jR) (rc : Nat → Nat → Int32 → Int32 → Int32 → Hp → jR) (a2 : Nat) (h6 : n < 6) (hs : gSx g (n + 1) = 122789275) {σ : Hp} (h : Bx g d n T W be σ) (hQ : tQ n T) : ∃ τ T', J_L_law_L65b g k476 rc d a2 (nI n) 1 (nI n) σ = rc d a2 (nI (n + 1)) 1 (nI (n + 1)) τ ∧ Bx g d (n + 1) T' W be τ ∧ tQ (n + 1) T' ∧ tpH σ ≤ tpH τ := by
  obtain ⟨τ1, e1, v1, i1, g1⟩ := s_types h
  have hz1 := h.2.2.1.keep g1
  have hd1 : d + 28 ≤ tpH τ1 := Nat.le_trans h.2.2.2.1 g1.1
  rcases s_D_setText v1 i1 hz1 hd1 (nI n) (nI 1) with ⟨hn', _⟩ | ⟨_, _, hn', _⟩ | ⟨_, i, n', U, τ, q1, q2, q3, q4, e2, v2, i2, g2, z2⟩
  · exact absurd ⟨⟨n, h6, rfl⟩, ⟨n, by omega, rfl⟩⟩ hn'
  · exact absurd (show inR (nI 1) 1 2 from by unfold inR; decide) hn'
  · obtain rfl := nI_j q3 (by omega) (by omega)
    rcases q4 with ⟨q, _⟩ | ⟨_, rfl, rfl⟩
    · omega
    have hx := h.txs
    have g1' : gw (clP d n T) (tpH σ) σ τ1 := (g1.up (fun q z => Or.inl (by unfold rw2 at z; unfold rg; omega))).gw
    have B2 := bx_cls h (g1'.tr (g2.lw g1.1)) rfl z2 v2 i2
    have w2 : J_X5_words d (nI n) τ = some (.inl (some (.int (nI 6))), τ) := by
      rcases s_D_words v2 (show n + 1 ≤ 6 by omega) (nI n) with ⟨i', h1', h3', e⟩ | ⟨hn', _⟩
      · obtain rfl := nI_j h3' (by omega) (by omega)
        rw [e, if_pos rfl]
        rfl
      · exact absurd ⟨n, by omega, rfl⟩ hn'
    refine ⟨τ, _, ?_, B2, fun x hx' => ?_, Nat.le_trans g1.1 g2.1⟩
    · unfold J_L_law_L65b jj
      rw [if_neg (show ¬ (40 : Int32) ≤ nI n from nI_ge (b := 40) (by omega) (by omega)), if_neg (by decide), show (1 : Int32) + nI n = nI (1 + n) from nI_add 1 n, jcs_ok (s_cell hn (by omega) σ), jvI_ok, Nat.add_comm 1 n, hs]
      dsimp only
      rw [if_neg (show ¬ (6 : Int32) ≤ nI n from nI_ge (b := 6) (by omega) (by omega)), jcs_ok (s_low (by decide)), jvI_ok, v18, if_pos rfl, jcs_ok (show J_L_types g d ((122789275 : Int32) >>> (((3 : Int32)) &&& 31)) 60 1 σ = _ from e1), jvV_ok, jcs_ok (s_low (by decide)), jvI_ok, v9, jcv_ok v1.1.1 e2, jvI_ok, jcv_ok v2.1.1 w2, jvI_ok, if_pos (show nI (wd XX).length = nI 6 by rw [XX_wd.1]), nI_1]
    · show tX (if x = n then sTx (nTx (tpH τ1)) XX (nI 1) else T x) = XX ∧ tG (if x = n then sTx (nTx (tpH τ1)) XX (nI 1) else T x) = nI 1
      by_cases q : x = n
      · rw [if_pos q]
        exact ⟨rfl, rfl⟩
      · rw [if_neg q]
        exact hQ x (by omega)
theorem s_texts {g : jG} {d : Nat} {be : Int32} (hn : gSn g = 41) (hs1 : ∀ i, 1 ≤ i → i ≤ 6 → gSx g i = 122789275) (hs : ∀ i, 7 ≤ i → i ≤ 40 → gSx g i = 5) (k476 : Nat → Int32 → Hp → jR) (a2 : Nat) : ∀ (k m n W : Nat) (T : Nat → Tx) (σ : Hp), Bx g d n T W be σ → tQ n T → 6 - n = k → n ≤ 6 → k + 40 < m → ∃ τ T' W', J_L_law_L65 g k476 m d a2 (nI n) 1 (nI n) σ = k476 d 1 τ ∧ tpH σ + 7233 * 34 ≤ tpH τ ∧ Bx g d 6 T' W' be τ := by
  intro k
  induction k with
  | zero =>
    intro m n W T σ h hQ hk h6 hm
    obtain rfl : n = 6 := by omega
    obtain ⟨τ, W', e, t, B⟩ := s_turns (tQ_ok hQ) hn hs k476 a2 34 m 6 W σ h (by omega) (by omega) (by omega) (by omega)
    exact ⟨τ, T, W', e, t, B⟩
  | succ k ih =>
    intro m n W T σ h hQ hk h6 hm
    obtain ⟨m', rfl⟩ : ∃ m', m = m' + 1 := ⟨m - 1, by omega⟩
    obtain ⟨τ1, T', e1, B1, Q1, t1⟩ := s_text hn k476 (J_L_law_L65 g k476 m') a2 (by omega) (hs1 (n + 1) (by omega) (by omega)) h hQ
    obtain ⟨τ, T'', W', e2, t2, B2⟩ := ih m' (n + 1) W T' τ1 B1 Q1 (by omega) (by omega) (by omega)
    refine ⟨τ, T'', W', ?_, Nat.le_trans (Nat.add_le_add_right t1 _) t2, B2⟩
    show J_L_law_L65b g k476 (J_L_law_L65 g k476 m') d a2 (nI n) 1 (nI n) σ = _
    rw [e1]
    exact e2
theorem gw_sk {P : Nat → Prop} (σ : Hp) (n : Nat) : gw P (tpH σ) σ (skS σ n) := ⟨Nat.le_add_right _ _, fun q hq => ⟨by show (if tpH σ ≤ q ∧ q < tpH σ + n then ((0, 0) : Nat × Nat) else kdH σ q) = _; rw [if_neg (by omega)], fun _ => ⟨rfl, rfl, rfl, rfl⟩⟩⟩
theorem kz_sk {σ : Hp} (h : kz σ) (n : Nat) : kz (skS σ n) := fun q hq => by
  show (if tpH σ ≤ q ∧ q < tpH σ + n then ((0, 0) : Nat × Nat) else kdH σ q) = _
  by_cases c : tpH σ ≤ q ∧ q < tpH σ + n
  · rw [if_pos c]
  · rw [if_neg c]
    exact h q (Nat.le_trans (Nat.le_add_right _ _) hq)
theorem ini_I : ClsI [] [] [] [] [] [] 0 (fun _ => nTx 0) 20 := by
  refine ⟨⟨fun c h => absurd h List.not_mem_nil, by decide⟩, ⟨rfl, rfl, rfl, fun c h => absurd h List.not_mem_nil, fun i j h h' => absurd h' (Nat.not_lt_zero _), fun c h => absurd h List.not_mem_nil, fun c h => absurd h List.not_mem_nil, List.nodup_nil⟩, by omega, by omega, fun i h => absurd h (Nat.not_lt_zero _)⟩
/-- the whole walk over the script 1, six times 122789275, 34 times 5 -/
theorem s_law {g : jG} (hn : gSn g = 41) (hs0 : gSx g 0 = 1) (hs1 : ∀ i, 1 ≤ i → i ≤ 6 → gSx g i = 122789275) (hs : ∀ i, 7 ≤ i → i ≤ 40 → gSx g i = 5) {σ : Hp} (hz : kz σ) (hB : gB g ≤ tpH σ) (h0 : StrV σ 0 (gB g) (gKa g 0) []) (h1 : StrV σ 0 (gB g) (gKa g 1) [97, 98, 99, 100]) : ∃ τ, J_L_law g σ = some (.inl (some (.int 1)), τ) ∧ tpH σ + 7233 * 34 ≤ tpH τ := by
  have k5 : kdH (nwS σ (1, 5)) (tpH σ) = (1, 5) := by rw [kd_nwS, if_pos rfl]
  have g0 := gw_nw (P := fun _ => False) σ (1, 5)
  obtain ⟨τ1, e1, v1, g1, t1, z1⟩ := s_D_init (kz_nw hz (1, 5)) (t := tpH σ) rfl k5
  have gk := gw_sk (P := fun _ => False) τ1 7
  have zk := kz_sk z1 7
  have g01 : gw (fun _ => False) (tpH σ) σ τ1 := g0.tr g1
  have B1 : Bx g (tpH σ) 0 (fun _ => nTx 0) 20 5000 τ1 := ⟨v1, ini_I, z1, by omega, hB, h0.gw g01 hB (fun q z => z.elim), h1.gw g01 hB (fun q z => z.elim)⟩
  have B2 := B1.gw gk rfl zk
  have hst : tpH (skS τ1 7) = tpH τ1 + 7 := rfl
  rcases s_D_setBearing B2.1 9999 with ⟨hn', _⟩ | ⟨_, τ2, e2, v2, g2⟩
  · exact absurd (show inR 9999 10 9999 from by unfold inR; decide) hn'
  · have B3 := bx_cls B2 g2.gw rfl (zk.keep g2) v2 ini_I
    obtain ⟨τ, T', W', e3, t3, B4⟩ := s_texts hn hs1 hs J_L_fin (tpH τ1) 6 jN 0 20 _ τ2 B3 (fun i hi => absurd hi (Nat.not_lt_zero i)) (by omega) (by omega) (by show 46 < 100000; omega)
    have g2' := g2.1
    refine ⟨τ, ?_, ?_⟩
    · unfold J_L_law jnw jmu jj
      dsimp only
      rw [jcv_ok k5 e1, jvV_ok, jcs_ok (show J_L_cell g 0 (skS τ1 7) = _ from s_cell hn (k := 0) (by omega) _), jvI_ok, hs0, jcs_ok (s_low (by decide)), jvI_ok, if_neg (show ¬ lw 1 3 = 0 by decide), jcv_ok B2.1.1.1 e2, jvI_ok]
      refine Eq.trans e3 ?_
      unfold J_L_fin
      rw [if_neg (by decide), jcv_ok B4.1.1.1 (s_D_isSound B4.1 B4.2.1), jvI_ok, if_neg (by decide)]
    · have t9 : ∀ a b c e f : Nat, b = a + 28 → b + 7 ≤ c → c + f ≤ e → a + f ≤ e := fun a b c e f q1 q2 q3 => by omega
      exact t9 _ _ _ _ _ t1 (hst ▸ g2') t3
