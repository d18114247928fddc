/-! The model is made. -/
/-- some arrays of the model are made, all zero; its ints are u -/
def MIn (σ : Hp) (M : Nat) (done : List (Nat × Nat × Nat)) (u : Nat → Int32) : Prop := kdH σ M = (1, 6) ∧ (∀ p ∈ done, rfH σ M p.1 = some (M + p.2.1) ∧ kdH σ (M + p.2.1) = (2, p.2.2) ∧ 1 ≤ p.2.1 ∧ M + p.2.1 < tpH σ ∧ ∀ k, inH σ (M + p.2.1) k = 0) ∧ kz σ ∧ inH σ M = u
theorem n_arr {σ : Hp} {M : Nat} {done : List (Nat × Nat × Nat)} {u : Nat → Int32} (h : MIn σ M done u) {f c r : Nat} (v : Int32) (hv : v = nI r) (hr : r < 100000) (hc : 1 ≤ c) (ht : tpH σ = M + c) (hf : ∀ p ∈ done, p.1 ≠ f) : ∃ τ, (∀ K : Hp → jR, jnA σ 2 r v (fun b t => jpR t M 6 f (some b) K) = K τ) ∧ MIn τ M ((f, c, r) :: done) u ∧ tpH τ = M + (c + 1) ∧ gw (fun _ => False) M σ τ := by
  subst hv
  obtain ⟨h0, h1, h2, h3⟩ := h
  have k0 : kdH (nwS σ (2, r)) M = (1, 6) := by
    show u1 (kdH σ) (tpH σ) (2, r) M = _
    rw [u1_n (by omega)]
    exact h0
  refine ⟨rfS (nwS σ (2, r)) M f (some (M + c)), fun K => ?_, ⟨k0, fun p hp => ?_, kz_nw h2 (2, r), ?_⟩, ?_, ?_⟩
  · unfold jnA
    rw [if_pos ⟨nI_pos (by omega), by rw [nI_clamp (by omega)]; exact Nat.le_refl _⟩, nI_clamp (by omega)]
    dsimp only
    rw [jpR_ok k0, ht]
  · rcases List.mem_cons.mp hp with e | e
    · subst e
      refine ⟨by rw [rf_rfS, if_pos ⟨rfl, rfl⟩], ?_, hc, by show M + c < tpH σ + 1; omega, fun k => ?_⟩
      · show u1 (kdH σ) (tpH σ) (2, r) (M + c) = _
        rw [ht, u1_s]
      · show u1 (inH σ) (tpH σ) (fun _ => 0) (M + c) k = 0
        rw [ht, u1_s]
    · obtain ⟨a1, a2, a3, a4, a5⟩ := h1 p e
      refine ⟨?_, ?_, a3, by show _ < tpH σ + 1; omega, fun k => ?_⟩
      · rw [rf_rfS, if_neg (fun z => hf p e z.2)]
        show u1 (rfH σ) (tpH σ) (fun _ => none) M p.1 = _
        rw [u1_n (by omega)]
        exact a1
      · show u1 (kdH σ) (tpH σ) (2, r) (M + p.2.1) = _
        rw [u1_n (by omega)]
        exact a2
      · show u1 (inH σ) (tpH σ) (fun _ => 0) (M + p.2.1) k = 0
        rw [u1_n (by omega)]
        exact a5 k
  · show u1 (inH σ) (tpH σ) (fun _ => 0) M = u
    rw [u1_n (by omega)]
    exact h3
  · show tpH σ + 1 = _
    omega
  · exact ((gw_nw (P := fun _ => False) σ (2, r)).le (by omega)).tr ((gw_rf (a := M) (b := M) _ f _).dn (Nat.le_refl _))
theorem n_int {σ : Hp} {M : Nat} {done : List (Nat × Nat × Nat)} {u : Nat → Int32} (h : MIn σ M done u) (k : Nat) (v : Int32) : (∀ K : Hp → jR, jpI σ M 6 k v K = K (inS σ M k v)) ∧ MIn (inS σ M k v) M done (fun j => if j = k then v else u j) ∧ gw (fun _ => False) M σ (inS σ M k v) := by
  obtain ⟨h0, h1, h2, h3⟩ := h
  refine ⟨fun K => jpI_ok h0, ⟨h0, fun p hp => ?_, h2, ?_⟩, (gw_in (a := M) (b := M) σ k v).dn (Nat.le_refl _)⟩
  · obtain ⟨a1, a2, a3, a4, a5⟩ := h1 p hp
    exact ⟨a1, a2, a3, a4, fun k => by rw [in_inS, if_neg (by omega)]; exact a5 k⟩
  · funext j
    rw [in_inS]
    by_cases e : j = k
    · rw [if_pos ⟨rfl, e⟩, if_pos e]
    · rw [if_neg (fun z => e z.2), if_neg e]
      exact congrFun h3 j
theorem rep0_get (n j : Nat) : (List.replicate n (0 : Int32)).getD j 0 = 0 := by
  simp only [List.getD_eq_getElem?_getD, List.getElem?_replicate]
  split <;> rfl
theorem s_X6_init {σ : Hp} (hz : kz σ) {M : Nat} (ht : tpH σ = M + 1) (hk : kdH σ M = (1, 6)) (hi : inH σ M = fun _ => 0) : ∃ τ, J_X6_init M σ = some (.inl none, τ) ∧ ModV τ M [] [] [] [] [] [] 0 (fun _ => nTx 0) 20 (List.replicate 6 0) 5000 ∧ gw (fun _ => False) M σ τ ∧ tpH τ = M + 20 ∧ kz τ := by
  have h0 : MIn σ M [] (fun _ => 0) := ⟨hk, fun p hp => (by cases hp), hz, hi⟩
  obtain ⟨τ1, a1, h1, t1, g1⟩ := n_arr h0 (f := 1) (c := 1) (r := 80) 80 rfl (by omega) (by omega) ht (by decide)
  obtain ⟨τ2, a2, h2, t2, g2⟩ := n_arr h1 (f := 3) (c := 2) (r := 40) 40 rfl (by omega) (by omega) t1 (by decide)
  obtain ⟨τ3, a3, h3, t3, g3⟩ := n_arr h2 (f := 4) (c := 3) (r := 40) 40 rfl (by omega) (by omega) t2 (by decide)
  obtain ⟨τ4, a4, h4, t4, g4⟩ := n_arr h3 (f := 5) (c := 4) (r := 40) 40 rfl (by omega) (by omega) t3 (by decide)
  obtain ⟨τ5, a5, h5, t5, g5⟩ := n_arr h4 (f := 6) (c := 5) (r := 40) 40 rfl (by omega) (by omega) t4 (by decide)
  obtain ⟨τ6, a6, h6, t6, g6⟩ := n_arr h5 (f := 8) (c := 6) (r := 1600) 1600 rfl (by omega) (by omega) t5 (by decide)
  obtain ⟨τ7, a7, h7, t7, g7⟩ := n_arr h6 (f := 9) (c := 7) (r := 20) 20 rfl (by omega) (by omega) t6 (by decide)
  obtain ⟨τ8, a8, h8, t8, g8⟩ := n_arr h7 (f := 11) (c := 8) (r := 480) 480 rfl (by omega) (by omega) t7 (by decide)
  obtain ⟨τ9, a9, h9, t9, g9⟩ := n_arr h8 (f := 12) (c := 9) (r := 6) 6 rfl (by omega) (by omega) t8 (by decide)
  obtain ⟨τ10, a10, h10, t10, g10⟩ := n_arr h9 (f := 13) (c := 10) (r := 6) 6 rfl (by omega) (by omega) t9 (by decide)
  obtain ⟨a11, h11, g11⟩ := n_int h10 15 20
  have t11 : tpH (inS τ10 M 15 20) = _ := t10
  obtain ⟨τ12, a12, h12, t12, g12⟩ := n_arr h11 (f := 16) (c := 11) (r := 24000) 24000 rfl (by omega) (by omega) t11 (by decide)
  obtain ⟨τ13, a13, h13, t13, g13⟩ := n_arr h12 (f := 17) (c := 12) (r := 600) 600 rfl (by omega) (by omega) t12 (by decide)
  obtain ⟨τ14, a14, h14, t14, g14⟩ := n_arr h13 (f := 18) (c := 13) (r := 6) 6 rfl (by omega) (by omega) t13 (by decide)
  obtain ⟨τ15, a15, h15, t15, g15⟩ := n_arr h14 (f := 19) (c := 14) (r := 480) 480 rfl (by omega) (by omega) t14 (by decide)
  obtain ⟨a16, h16, g16⟩ := n_int h15 20 5000
  have t16 : tpH (inS τ15 M 20 5000) = _ := t15
  obtain ⟨τ17, a17, h17, t17, g17⟩ := n_arr h16 (f := 21) (c := 15) (r := 6) 6 rfl (by omega) (by omega) t16 (by decide)
  obtain ⟨τ18, a18, h18, t18, g18⟩ := n_arr h17 (f := 22) (c := 16) (r := 160) 160 rfl (by omega) (by omega) t17 (by decide)
  obtain ⟨τ19, a19, h19, t19, g19⟩ := n_arr h18 (f := 24) (c := 17) (r := 1600) 1600 rfl (by omega) (by omega) t18 (by decide)
  obtain ⟨τ20, a20, h20, t20, g20⟩ := n_arr h19 (f := 25) (c := 18) (r := 4000) 4000 rfl (by omega) (by omega) t19 (by decide)
  obtain ⟨τ21, a21, h21, t21, g21⟩ := n_arr h20 (f := 26) (c := 19) (r := 100) 100 rfl (by omega) (by omega) t20 (by decide)
  obtain ⟨m0, m1, m2, m3⟩ := h21
  have hM : MH τ21 M := ⟨m0, fun p hp => by
    have hp' : p ∈ [(26, 19, 100), (25, 18, 4000), (24, 17, 1600), (22, 16, 160), (21, 15, 6), (19, 14, 480), (18, 13, 6), (17, 12, 600), (16, 11, 24000), (13, 10, 6), (12, 9, 6), (11, 8, 480), (9, 7, 20), (8, 6, 1600), (6, 5, 40), (5, 4, 40), (4, 3, 40), (3, 2, 40), (1, 1, 80)] := by
      have : ∀ q ∈ mAr, q ∈ [(26, 19, 100), (25, 18, 4000), (24, 17, 1600), (22, 16, 160), (21, 15, 6), (19, 14, 480), (18, 13, 6), (17, 12, 600), (16, 11, 24000), (13, 10, 6), (12, 9, 6), (11, 8, 480), (9, 7, 20), (8, 6, 1600), (6, 5, 40), (5, 4, 40), (4, 3, 40), (3, 2, 40), (1, 1, 80)] := by decide
      exact this p hp
    have hr : ∀ q ∈ mAr, q.2.2 < 100000 := by decide
    obtain ⟨x1, x2, x3, x4, x5⟩ := m1 p hp'
    exact ⟨x1, x2, hr p hp⟩⟩
  have z : ∀ f c r, (f, c, r) ∈ [(26, 19, 100), (25, 18, 4000), (24, 17, 1600), (22, 16, 160), (21, 15, 6), (19, 14, 480), (18, 13, 6), (17, 12, 600), (16, 11, 24000), (13, 10, 6), (12, 9, 6), (11, 8, 480), (9, 7, 20), (8, 6, 1600), (6, 5, 40), (5, 4, 40), (4, 3, 40), (3, 2, 40), (1, 1, 80)] → ∀ k, inH τ21 (M + c) k = 0 := fun f c r hp k => (m1 (f, c, r) hp).2.2.2.2 k
  have w : ∀ k, inH τ21 M k = if k = 20 then 5000 else if k = 15 then 20 else 0 := fun k => congrFun m3 k
  refine ⟨τ21, ?_, ⟨⟨hM, ⟨by rw [w]; rfl, fun k hk => (Nat.not_lt_zero k hk).elim⟩, ⟨by rw [w]; rfl, Nat.zero_le _, fun k hk => (Nat.not_lt_zero k hk).elim⟩, ⟨by rw [w]; rfl, Nat.zero_le _, fun k hk => (Nat.not_lt_zero k hk).elim⟩, ⟨⟨by rw [w]; rfl, Nat.zero_le _⟩, fun k hk => (Nat.not_lt_zero k hk).elim, fun i _ _ => z 18 13 6 (by decide) i⟩, ⟨by rw [w]; rfl, by rw [w]; rfl, fun j hj => ?_⟩⟩, fun k hk => (Nat.not_lt_zero k hk).elim⟩, (g1).tr ((g2).tr ((g3).tr ((g4).tr ((g5).tr ((g6).tr ((g7).tr ((g8).tr ((g9).tr ((g10).tr ((g11).tr ((g12).tr ((g13).tr ((g14).tr ((g15).tr ((g16).tr ((g17).tr ((g18).tr ((g19).tr ((g20).tr (g21)))))))))))))))))))), t21, m2⟩
  · unfold J_X6_init
    rw [a1, a2, a3, a4, a5, a6, a7, a8, a9, a10, a11, a12, a13, a14, a15, a16, a17, a18, a19, a20, a21]
  · rw [z 21 15 6 (by decide) j, rep0_get]
