/-! One turn, further. -/
theorem s_L180 {g : jG} {d : Nat} {T : Nat → Tx} {W : Nat} {be : Int32} (hT : tOK T) {lo : Nat} (hL : Lo d T lo) (k287 : Nat → Nat → Int32 → Int32 → Int32 → Nat → Nat → Nat → Hp → jR) (a2 : Nat) (v6 v7 : Int32) (a8 a9 a10 : Nat) : ∀ (k m i : Nat) (σ : Hp), Bx g d 6 T W be σ → AR σ lo a8 a9 a10 T (dW i 0) (fun x => x < i) → lo ≤ tpH σ → 6 - i = k → i ≤ 6 → k < m → ∃ τ, J_L_law_L180 g k287 m d a2 (nI 6) v6 v7 a8 a9 a10 (nI i) σ = k287 d a2 (nI 6) v6 v7 a8 a9 a10 τ ∧ Bx g d 6 T W be τ ∧ AR τ lo a8 a9 a10 T (dW 6 0) (fun x => x < 6) ∧ tpH σ + 188 * k ≤ tpH τ := by
  intro k
  induction k with
  | zero =>
    intro m i σ h hA hlo hk hi hm
    obtain ⟨n, rfl⟩ : ∃ n, m = n + 1 := ⟨m - 1, by omega⟩
    obtain rfl : i = 6 := by omega
    refine ⟨σ, ?_, h, hA, by omega⟩
    show J_L_law_L180b g k287 (J_L_law_L180 g k287 n) d a2 (nI 6) v6 v7 a8 a9 a10 (nI 6) σ = _
    unfold J_L_law_L180b
    rw [if_pos (nI_le (Nat.le_refl _) (by omega))]
  | succ k ih =>
    intro m i σ h hA hlo hk hi hm
    obtain ⟨n, rfl⟩ : ∃ n, m = n + 1 := ⟨m - 1, by omega⟩
    have hA' := hA
    obtain ⟨⟨k8, k9, k10⟩, ⟨b1, b2, b3, b4, b5, b6⟩, hD, hR⟩ := hA
    have n10 : (kdH σ a10).1 = 2 := by rw [k10]
    have h109 : a9 ≠ a10 := fun e => by rw [e, k10] at k9; cases k9
    have B1 := bx_inS h hL b5 i (nI 6)
    have A1 : AR (inS σ a10 i (nI 6)) lo a8 a9 a10 T (dW i 0) (fun x => x ≤ i) := by
      refine ⟨⟨k8, k9, k10⟩, ⟨b1, b2, b3, b4, b5, b6⟩, fun x y hd => ?_, fun x hx => ?_⟩
      · obtain ⟨⟨s, r1, r2⟩, r3, r4⟩ := hD x y hd
        refine ⟨⟨s, r1, r2.inS8 (Or.inr (Or.inr n10)) _ _⟩, ?_, ?_⟩
        · rw [in_inS, if_neg (fun z => h109 z.1)]
          exact r3
        · rw [in_inS, if_neg (fun z => h109 z.1)]
          exact r4
      · rw [in_inS]
        by_cases q : x = i
        · rw [if_pos ⟨rfl, q⟩]
        · rw [if_neg (fun z => q z.2)]
          exact hR x (by omega)
    obtain ⟨τ1, e1, B2, A2, t1⟩ := s_L200 (W := W) (be := be) (g := g) hT hL (fun (x45 : Nat) (x46 : Nat) (x47 : Int32) (x48 : Int32) (x49 : Int32) (x50 : Nat) (x51 : Nat) (x52 : Nat) (x53 : Int32) (t54 : Hp) => J_L_law_L180 g k287 n x45 x46 x47 x48 x49 x50 x51 x52 (x53 + 1) t54) a2 (nI 6) v6 v7 a8 a9 a10 (i := i) (by omega) 6 jN 0 (inS σ a10 i (nI 6)) B1 A1 hlo (by omega) (by omega) (by show 6 < 100000; omega)
    have h0 : pre 0 = 0 := by decide +kernel
    rw [h0] at t1
    have t1' : tpH σ + 4 * 47 ≤ tpH τ1 := t1
    have A3 : AR τ1 lo a8 a9 a10 T (dW (i + 1) 0) (fun x => x < i + 1) := ⟨A2.1, A2.2.1, fun x y hd => A2.2.2.1 x y (by unfold dW at hd ⊢; omega), fun x hx => A2.2.2.2 x (by omega)⟩
    obtain ⟨τ, e2, B3, A4, t2⟩ := ih n (i + 1) τ1 B2 A3 (by omega) (by omega) (by omega) (by omega)
    refine ⟨τ, ?_, B3, A4, by omega⟩
    show J_L_law_L180b g k287 (J_L_law_L180 g k287 n) d a2 (nI 6) v6 v7 a8 a9 a10 (nI i) σ = _
    unfold J_L_law_L180b
    rw [if_neg (nI_ge (by omega) (by omega)), jcv_ok h.1.1.1 (q_words h hT (i := i) (by omega)), jvI_ok, jsI_ok k10 (by omega) (by omega)]
    refine Eq.trans e1 ?_
    rw [nI_1]
    exact e2
theorem s_L333 {g : jG} {d : Nat} {T : Nat → Tx} {W : Nat} {be : Int32} (hT : tOK T) {lo : Nat} (k464 : Nat → Nat → Int32 → Int32 → Int32 → Nat → Nat → Nat → Int32 → Int32 → Hp → jR) (a2 : Nat) (v3 v6 : Int32) (a8 a9 a10 : Nat) {i : Nat} (hi : i < 6) : ∀ (k m c : Nat) (σ : Hp), Bx g d 6 T W be σ → AR σ lo a8 a9 a10 T (dW 6 0) (fun x => x < 6) → 6 - c = k → c ≤ 6 → k < m → ∃ τ, J_L_law_L333 g k464 m d a2 v3 1 v6 a8 a9 a10 5 (nI i) (nI c) σ = k464 d a2 v3 1 v6 a8 a9 a10 5 (nI i) τ ∧ Bx g d 6 T W be τ ∧ AR τ lo a8 a9 a10 T (dW 6 0) (fun x => x < 6) ∧ tpH σ + 4 * 47 ≤ tpH τ + 4 * pre c := by
  intro k
  induction k with
  | zero =>
    intro m c σ h hA hk hc hm
    obtain ⟨n, rfl⟩ : ∃ n, m = n + 1 := ⟨m - 1, by omega⟩
    obtain rfl : c = 6 := by omega
    refine ⟨σ, ?_, h, hA, by rw [pre_6]; exact Nat.le_refl _⟩
    show J_L_law_L333b g k464 (J_L_law_L333 g k464 n) d a2 v3 1 v6 a8 a9 a10 5 (nI i) (nI 6) σ = _
    unfold J_L_law_L333b
    rw [jaI_ok hA.1.2.2 hi (by omega), hA.2.2.2 i hi, if_pos (nI_le (Nat.le_refl _) (by omega))]
  | succ k ih =>
    intro m c σ h hA hk hc hm
    obtain ⟨n, rfl⟩ : ∃ n, m = n + 1 := ⟨m - 1, by omega⟩
    have hp := pre_s c (by omega)
    obtain ⟨τ1, b, e1, B1, s1, g1, t1, hkb⟩ := s_word hT hi (j := c) (by omega) h
    have A1 := hA.gw g1 rfl (fun q z => z.elim)
    have hd : dW 6 0 i c := by unfold dW; omega
    obtain ⟨⟨s, r1, r2⟩, -, -⟩ := hA.2.2.1 i c hd
    obtain ⟨⟨s', r1', r2'⟩, r3, r4⟩ := A1.2.2.1 i c hd
    have es : s' = s := by
      have := (g1.2 a8 hA.2.1.2.1).2 (fun z => z)
      rw [this.2.1, r1] at r1'
      cases r1'
      rfl
    subst es
    have m0 := q_mark B1 hT (e := 0) (by omega) hi (j := c) (by omega)
    have m1 := q_mark B1 hT (e := 1) (by omega) hi (j := c) (by omega)
    obtain ⟨τ, e5, B5, A5, t5⟩ := ih n (c + 1) τ1 B1 A1 (by omega) (by omega) (by omega)
    refine ⟨τ, ?_, B5, A5, by omega⟩
    show J_L_law_L333b g k464 (J_L_law_L333 g k464 n) d a2 v3 1 v6 a8 a9 a10 5 (nI i) (nI c) σ = _
    unfold J_L_law_L333b jj
    rw [jaI_ok hA.1.2.2 hi (by omega), hA.2.2.2 i hi, if_neg (nI_ge (by omega) (by omega)), if_neg (by decide), if_neg (by decide), ix40, ix80, jaS_ok hA.1.1 (by omega) (by omega), r1, jdr_ok, jcs_ok e1, jvA_ok, jcs_ok (s_alike r2' s1 (by rw [List.length_replicate]; have := wN_b c (by omega); omega)), jvI_ok, jcv_ok B1.1.1.1 (show J_X5_markOf d 0 (nI i) (nI c) _ = _ from m0.2), jvI_ok]
    dsimp only
    rw [if_neg (by decide), jaC_ok A1.1.2.1 (by omega) (by omega), r3, if_pos rfl, jcv_ok B1.1.1.1 (show J_X5_markOf d 1 (nI i) (nI c) _ = _ from m1.2), jvI_ok]
    rw [if_neg (by decide), nI_1, jaC_ok A1.1.2.1 (by omega) (by omega), r4, if_pos rfl, nI_1]
    exact e5
theorem s_L309 {g : jG} {d : Nat} {T : Nat → Tx} {be : Int32} (hT : tOK T) {lo : Nat} (k470 : Nat → Nat → Int32 → Int32 → Int32 → Hp → jR) (a2 : Nat) (v6 : Int32) (a8 a9 a10 : Nat) : ∀ (k m i : Nat) (σ : Hp), Bx g d 6 T 8 be σ → AR σ lo a8 a9 a10 T (dW 6 0) (fun x => x < 6) → 6 - i = k → i ≤ 6 → k < m → ∃ τ, J_L_law_L309 g k470 m d a2 (nI 6) 1 v6 a8 a9 a10 5 (nI i) σ = k470 d a2 (nI 6) 1 v6 τ ∧ Bx g d 6 T 8 be τ ∧ tpH σ + 1017 * k ≤ tpH τ := by
  intro k
  induction k with
  | zero =>
    intro m i σ h hA hk hi hm
    obtain ⟨n, rfl⟩ : ∃ n, m = n + 1 := ⟨m - 1, by omega⟩
    obtain rfl : i = 6 := by omega
    refine ⟨σ, ?_, h, by omega⟩
    show J_L_law_L309b g k470 (J_L_law_L309 g k470 n) d a2 (nI 6) 1 v6 a8 a9 a10 5 (nI 6) σ = _
    unfold J_L_law_L309b
    rw [if_pos (nI_le (Nat.le_refl _) (by omega))]
  | succ k ih =>
    intro m i σ h hA hk hi hm
    obtain ⟨n, rfl⟩ : ∃ n, m = n + 1 := ⟨m - 1, by omega⟩
    obtain ⟨τ1, e1, B1, g1, t1⟩ := s_isSet hT (i := i) (by omega) h
    have A1 := hA.gw g1 rfl (fun q z => z.elim)
    obtain ⟨τ2, e2, B2, A2, t2⟩ := s_L333 (W := 8) (be := be) (g := g) (d := d) hT (lo := lo) (fun (x97 : Nat) (x98 : Nat) (x99 : Int32) (x100 : Int32) (x101 : Int32) (x102 : Nat) (x103 : Nat) (x104 : Nat) (x105 : Int32) (x106 : Int32) (t107 : Hp) => J_L_law_L309 g k470 n x97 x98 x99 x100 x101 x102 x103 x104 x105 (x106 + 1) t107) a2 (nI 6) v6 a8 a9 a10 (i := i) (by omega) 6 jN 0 τ1 B1 A1 (by omega) (by omega) (by show 6 < 100000; omega)
    have h0 : pre 0 = 0 := by decide +kernel
    rw [h0] at t2
    obtain ⟨τ, e3, B3, t3⟩ := ih n (i + 1) τ2 B2 A2 (by omega) (by omega) (by omega)
    have t9 : ∀ a b c e f : Nat, a + 829 ≤ b → b + 4 * 47 ≤ c + 4 * 0 → c + f ≤ e → a + f + 1017 ≤ e := fun a b c e f q1 q2 q3 => by omega
    refine ⟨τ, ?_, B3, by rw [Nat.mul_succ, ← Nat.add_assoc]; exact t9 _ _ _ _ _ t1 t2 t3⟩
    show J_L_law_L309b g k470 (J_L_law_L309 g k470 n) d a2 (nI 6) 1 v6 a8 a9 a10 5 (nI i) σ = _
    unfold J_L_law_L309b
    rw [if_neg (nI_ge (by omega) (by omega)), if_neg (by decide), jcs_ok e1, jvI_ok]
    refine Eq.trans e2 ?_
    rw [nI_1]
    exact e3
