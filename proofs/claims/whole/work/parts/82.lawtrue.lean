/-! The law's function answers 1. -/
/-- the empty heap's value -/
def h0H (B : Nat) : Hp := (B, fun _ => (0, 0), fun _ _ => 0, fun _ _ => none, fun _ _ => 0, fun _ _ => 0)
theorem jnA_1 {σ : Hp} {t : Nat} {K : Nat → Hp → jR} : jnA σ t 1 1 K = K (tpH σ) (nwS σ (t, 1)) := by
  unfold jnA
  rw [if_pos (by decide)]
  rfl
/-- THE PURE CLAIM -/
theorem law_true (g : jG) (hN : gSn g ≤ 2560) (B : Nat) : ∃ τ : Hp, J_L_law g (h0H B) = some (.inl (some (.int 1)), τ) := by
  have hz0 : kz (h0H B) := fun _ _ => rfl
  have kd : kdH (nwS (h0H B) (1, 5)) B = (1, 5) := u1_s
  obtain ⟨τ1, a1, a2, a3, a4, a5⟩ := s_D_init (kz_nw hz0 (1, 5)) (t := B) rfl kd
  have k6 : kdH (nwS τ1 (1, 6)) (B + 28) = (1, 6) := by
    show u1 (kdH τ1) (tpH τ1) (1, 6) (B + 28) = _
    rw [a4, u1_s]
  obtain ⟨τ2, b1, b2, b3, b4, b5⟩ := s_X6_init (kz_nw a5 (1, 6)) (M := B + 28) (by show tpH τ1 + 1 = _; rw [a4]) k6 (by
    show u1 (inH τ1) (tpH τ1) (fun _ => 0) (B + 28) = _
    rw [a4, u1_s])
  have hL : Lay B (B + 28) (B + 48) (B + 49) := ⟨by omega, by omega, by omega⟩
  have t2 : tpH τ2 = B + 48 := b4
  have g12 : gw (fun _ => False) (B + 28) τ1 τ2 := ((gw_nw (P := fun _ => False) τ1 (1, 6)).le (by rw [a4]; omega)).tr b3
  have c2 : ClsV τ2 B [] [] [] [] [] [] 0 (fun _ => nTx 0) 20 (List.replicate 6 0) 5000 := ClsG.gw a2 g12 a4.symm (by rw [a4]; omega) (fun q y => y.elim) (fun i hi => (Nat.not_lt_zero i hi).elim)
  have t3 : tpH (nwS τ2 (3, 1)) = B + 49 := by show tpH τ2 + 1 = _; rw [t2]
  have c3 : ClsV (nwS (nwS τ2 (3, 1)) (4, 1)) B [] [] [] [] [] [] 0 (fun _ => nTx 0) 20 (List.replicate 6 0) 5000 := by
    have c2' : ClsV (nwS τ2 (3, 1)) B [] [] [] [] [] [] 0 (fun _ => nTx 0) 20 (List.replicate 6 0) 5000 := ClsG.gw c2 (gw_nw (P := fun _ => False) τ2 (3, 1)) rfl (by rw [t2]; omega) (fun q y => y.elim) (fun i hi => (Nat.not_lt_zero i hi).elim)
    exact ClsG.gw c2' (gw_nw (P := fun _ => False) (nwS τ2 (3, 1)) (4, 1)) rfl (by rw [t3]; omega) (fun q y => y.elim) (fun i hi => (Nat.not_lt_zero i hi).elim)
  have m3 : ModV (nwS (nwS τ2 (3, 1)) (4, 1)) (B + 28) [] [] [] [] [] [] 0 (fun _ => nTx 0) 20 (List.replicate 6 0) 5000 := b2.same (fun a h1 h2 => by
    have g1 := ((gw_nw (P := fun _ => False) τ2 (3, 1)).2 a (by rw [t2]; omega))
    have g2 := ((gw_nw (P := fun _ => False) (nwS τ2 (3, 1)) (4, 1)).2 a (by rw [t3]; omega))
    have x1 := g1.2 (fun z => z)
    have x2 := g2.2 (fun z => z)
    exact ⟨by rw [g2.1, g1.1], by rw [x2.1, x1.1], by rw [x2.2.1, x1.2.1]⟩)
  have hI : ClsI [] [] [] [] [] [] 0 (fun _ => nTx 0) 20 := ⟨⟨fun c hc => (by cases hc), by simp⟩, ⟨rfl, rfl, rfl, fun x hx => (by cases hx), fun i j _ hj => (Nat.not_lt_zero j hj).elim, fun x hx => (by cases hx), fun w hw => (by cases hw), List.nodup_nil⟩, by omega, ⟨by omega, by omega⟩, fun i hi => (Nat.not_lt_zero i hi).elim⟩
  have hS1 : S1 [] [] [] [] [] [] [] 0 (fun _ => nTx 0) 20 (List.replicate 6 0) (B + 49) := ⟨hI, List.Perm.refl _, fun s hs => (by cases hs), by simp, fun i hi => (Nat.not_lt_zero i hi).elim⟩
  have hS2 : S2 (nwS (nwS τ2 (3, 1)) (4, 1)) (B + 48) (B + 49) := by
    refine ⟨kz_nw (kz_nw b5 (3, 1)) (4, 1), ?_, ?_, ?_⟩
    · show u1 (u1 (kdH τ2) (tpH τ2) (3, 1)) (tpH (nwS τ2 (3, 1))) (4, 1) (B + 48) = _
      rw [t3, u1_n (by omega), t2, u1_s]
    · show u1 (u1 (kdH τ2) (tpH τ2) (3, 1)) (tpH (nwS τ2 (3, 1))) (4, 1) (B + 49) = _
      rw [t3, u1_s]
    · show B + 49 < tpH (nwS τ2 (3, 1)) + 1
      rw [t3]
      omega
  obtain ⟨τ, e⟩ := law_loop (g := g) hL hN jNL 0 (nwS (nwS τ2 (3, 1)) (4, 1)) ⟨_, _, _, _, _, _, _, _, _, _, _, _, c3, m3, hS1, hS2⟩ (Nat.zero_le _) (by unfold jNL; omega)
  refine ⟨τ, ?_⟩
  unfold J_L_law jnw
  dsimp only
  rw [show tpH (h0H B) = B from rfl, jcv_ok kd a1, jvV_ok, a4, jcv_ok k6 b1, jvV_ok, jnA_1, jnA_1, t2, t3]
  exact e
