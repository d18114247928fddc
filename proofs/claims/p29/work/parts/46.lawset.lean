/-! The law's isSet. -/
def pre (j : Nat) : Nat := (wL.take j).sum
theorem pre_s : ∀ j, j < 6 → pre (j + 1) = pre j + wN j := by decide +kernel
theorem pre_6 : pre 6 = 47 := by decide +kernel
theorem pre_b : ∀ j, j < 7 → pre j ≤ 47 := by decide +kernel
theorem pre_3 : ∀ j, j < 6 → (2 ≤ j → 16 < pre (j + 1)) ∧ (j < 2 → pre (j + 1) ≤ 16) := by decide +kernel
theorem rep_a (a b : Nat) : List.replicate a 63 ++ List.replicate b 63 = List.replicate (a + b) 63 := List.replicate_append_replicate
def gr (n : Nat) : Nat := 8 * n + (n - 16)
theorem s_set88 {g : jG} {d : Nat} {T : Nat → Tx} {W : Nat} {be : Int32} (k162 : Nat → Int32 → Int32 → Nat → Nat → Int32 → Int32 → Hp → jR) (v1 v2 v5 v6 : Int32) (a4 a7 p L : Nat) (hp : p + L ≤ 300) : ∀ (k m c : Nat) (σ : Hp) (a3 h3 l7 h7 : Nat), Bx g d 6 T W be σ → StrV σ 0 h3 a3 (List.replicate (p + c) 63) → StrV σ l7 h7 a7 (List.replicate L 63) → L - c = k → c ≤ L → k < m → ∃ τ a', J_L_isSet_L88 g k162 m d v1 v2 a3 a4 v5 v6 a7 (nI c) σ = k162 d v1 v2 a' a4 v5 v6 τ ∧ Bx g d 6 T W be τ ∧ StrV τ 0 (tpH τ) a' (List.replicate (p + L) 63) ∧ gw (fun _ => False) (tpH σ) σ τ ∧ tpH σ + gr (p + L) ≤ tpH τ + gr (p + c) := by
  intro k
  induction k with
  | zero =>
    intro m c σ a3 h3 l7 h7 h hs h7s hk hc hm
    obtain ⟨n, rfl⟩ : ∃ n, m = n + 1 := ⟨m - 1, by omega⟩
    obtain rfl : c = L := by omega
    refine ⟨σ, a3, ?_, h, hs.wk (Nat.le_refl _) hs.2.2.2.2.1 (Nat.le_refl _), gw.rf, Nat.le_refl _⟩
    show J_L_isSet_L88b g k162 (J_L_isSet_L88 g k162 n) d v1 v2 a3 a4 v5 v6 a7 (nI c) σ = _
    unfold J_L_isSet_L88b
    rw [jcvS_ok h7s.1 (s_len h7s), List.length_replicate, jvI_ok, if_pos (nI_le (Nat.le_refl _) (by omega))]
  | succ k ih =>
    intro m c σ a3 h3 l7 h7 h hs h7s hk hc hm
    obtain ⟨n, rfl⟩ : ∃ n, m = n + 1 := ⟨m - 1, by omega⟩
    have hcL : c < (List.replicate L 63).length := by rw [List.length_replicate]; omega
    have hch : (List.replicate L 63).getD c 0 = 63 := by
      rw [List.getD_eq_getElem?_getD, List.getElem?_eq_getElem hcL, Option.getD_some, List.getElem_replicate]
    obtain ⟨τ1, v, cap, e1, w1, g1, z1, t1, c1⟩ := s_cat1 h.2.2.1 hs (by rw [List.length_replicate]; omega)
    rw [List.length_replicate] at t1 c1
    have B1 := h.gw g1 rfl z1
    have s71 := h7s.gw g1 h7s.2.2.2.2.1 (fun q z => z.elim)
    obtain ⟨τ2, v2', cap2, e2, w2, g2, z2, t2, c2⟩ := s_cat1 z1 B1.2.2.2.2.2.1 (by simp only [List.length_nil]; omega)
    have B2 := B1.gw g2 rfl z2
    have s72 := s71.gw g2 s71.2.2.2.2.1 (fun q z => z.elim)
    obtain ⟨τ3, a5, e3, s3, g3, z3, t3, kk⟩ := s_cat2C z2 w2 g2.1 (c := 63) (by omega) (by simp only [List.length_nil]; omega)
    have g23 := g2.trT g3 (Nat.le_refl _)
    have B3 := B1.gw g23 rfl z3
    have hb1 : tpH σ < tpH τ1 := w1.2.2.2.2.2.2.2.1
    have hv1 : v < tpH τ1 := w1.2.2.2.2.2.2.2.2.1
    have w3 := w1.gw g23 hb1 hv1
    obtain ⟨τ4, a6, e4, s4, g4, z4, t4⟩ := s_cat2S z3 w3 (Nat.le_trans g1.1 g23.1) s3 (Or.inl hb1) (Or.inl hv1) (by rw [List.length_replicate]; simp only [List.nil_append, List.length_singleton]; omega)
    rw [List.nil_append, rep_s] at s4
    rw [List.length_replicate] at t4
    simp only [List.nil_append, List.length_singleton] at t4
    have g14 := (g1.trT g23 g1.1).trT g4 (Nat.le_refl _)
    have B4 := h.gw g14 rfl z4
    have s74 := h7s.gw g14 h7s.2.2.2.2.1 (fun q z => z.elim)
    obtain ⟨τ, a', e5, B5, s5, g5, t5⟩ := ih n (c + 1) τ4 a6 _ _ _ B4 (s4.wk (Nat.zero_le _) (Nat.le_refl _) (Nat.le_refl _)) s74 (by omega) (by omega) (by omega)
    refine ⟨τ, a', ?_, B5, s5, g14.trT g5 g14.1, ?_⟩
    · show J_L_isSet_L88b g k162 (J_L_isSet_L88 g k162 n) d v1 v2 a3 a4 v5 v6 a7 (nI c) σ = _
      unfold J_L_isSet_L88b jj
      rw [jcvS_ok h7s.1 (s_len h7s), List.length_replicate, jvI_ok, if_neg (nI_ge (by omega) (by omega))]
      refine (e1 _ _).trans ?_
      rw [jcvS_ok s71.1 (s_chr s71 hcL (by rw [List.length_replicate]; omega)), jvI_ok, hch]
      dsimp only
      rw [if_neg (show ¬ nI 63 = 0 by decide)]
      refine (e2 _ _).trans ?_
      rw [jcvS_ok s72.1 (s_chr s72 hcL (by rw [List.length_replicate]; omega)), jvI_ok, hch]
      refine (e3 _ _).trans ?_
      refine (e4 _ _).trans ?_
      rw [nI_1]
      exact e5
    · have hg : gr (p + c) + 8 + (if 16 ≤ p + c then 1 else 0) = gr (p + (c + 1)) := by
        unfold gr
        by_cases q : 16 ≤ p + c
        · rw [if_pos q]
          omega
        · rw [if_neg q]
          omega
      have ht : tpH σ + 8 + (if 16 ≤ p + c then 1 else 0) ≤ tpH τ4 := by
        by_cases q : 16 < p + c
        · rw [if_pos q] at t1
          rw [if_pos (by omega)]
          omega
        · rw [if_neg q] at t1
          by_cases q' : 16 ≤ p + c
          · rw [if_pos q']
            rw [c1 (by omega), if_pos (by omega)] at t4
            omega
          · rw [if_neg q']
            omega
      omega
theorem s_set13 {g : jG} {d : Nat} {T : Nat → Tx} {be : Int32} (hT : tOK T) {i : Nat} (hi : i < 6) (k168 : Nat → Int32 → Nat → Nat → Int32 → Hp → jR) (a4 : Nat) : ∀ (k m c : Nat) (σ : Hp) (a3 h3 : Nat), Bx g d 6 T 8 be σ → StrV σ 0 h3 a3 (List.replicate (pre c) 63) → 6 - c = k → c ≤ 6 → k < m → ∃ τ a', J_L_isSet_L13 g k168 m d (nI i) 40 a3 a4 1 (nI c) σ = k168 d (nI i) a' a4 1 τ ∧ Bx g d 6 T 8 be τ ∧ StrV τ 0 (tpH τ) a' (List.replicate 47 63) ∧ gw (fun _ => False) (tpH σ) σ τ ∧ tpH σ + gr 47 + 4 * 47 + 18 ≤ tpH τ + gr (pre c) + 4 * pre c + 3 * c := by
  intro k
  induction k with
  | zero =>
    intro m c σ a3 h3 h hs hk hc hm
    obtain ⟨n, rfl⟩ : ∃ n, m = n + 1 := ⟨m - 1, by omega⟩
    obtain rfl : c = 6 := by omega
    rw [pre_6] at hs ⊢
    refine ⟨σ, a3, ?_, h, hs.wk (Nat.le_refl _) hs.2.2.2.2.1 (Nat.le_refl _), gw.rf, by omega⟩
    show J_L_isSet_L13b g k168 (J_L_isSet_L13 g k168 n) d (nI i) 40 a3 a4 1 (nI 6) σ = _
    unfold J_L_isSet_L13b
    rw [jcv_ok h.1.1.1 (q_lines h hT hi), jvI_ok, if_pos (nI_le (Nat.le_refl _) (by omega))]
  | succ k ih =>
    intro m c σ a3 h3 h hs hk hc hm
    obtain ⟨n, rfl⟩ : ∃ n, m = n + 1 := ⟨m - 1, by omega⟩
    have hb := wN_b c (by omega)
    have hp := pre_s c (by omega)
    have hp' := pre_b (c + 1) (by omega)
    obtain ⟨τ1, b, e1, B1, s1, g1, t1⟩ := s_line hT hi (j := c) (by omega) h
    have s31 := hs.gw g1 hs.2.2.2.2.1 (fun q z => z.elim)
    obtain ⟨τ2, a', e2, B2, s2, g2, t2⟩ := s_set88 (g := g) (d := d) (T := T) (W := 8) (be := be) (fun (x49 : Nat) (x50 : Int32) (x51 : Int32) (x52 : Nat) (x53 : Nat) (x54 : Int32) (x55 : Int32) (t56 : Hp) => J_L_isSet_L13 g k168 n x49 x50 x51 x52 x53 x54 (x55 + 1) t56) (nI i) 40 1 (nI c) a4 b (pre c) (wN c) (by omega) (wN c) jN 0 τ1 a3 _ _ _ B1 s31 s1 (by omega) (by omega) (by show wN c < 100000; omega)
    rw [← hp] at s2 t2
    obtain ⟨τ, a'', e3, B3, s3, g3, t3⟩ := ih n (c + 1) τ2 a' _ B2 s2 (by omega) (by omega) (by omega)
    have l8 : (List.replicate (wN c) 63).length = wN c := List.length_replicate
    have hch : ∀ y, y < wN c → (List.replicate (wN c) 63).getD y 0 = 63 := fun y hy => by
      rw [List.getD_eq_getElem?_getD, List.getElem?_eq_getElem (by rw [l8]; exact hy), Option.getD_some, List.getElem_replicate]
    have g12 := g1.trT g2 g1.1
    refine ⟨τ, a'', ?_, B3, s3, g12.trT g3 g12.1, ?_⟩
    · show J_L_isSet_L13b g k168 (J_L_isSet_L13 g k168 n) d (nI i) 40 a3 a4 1 (nI c) σ = _
      unfold J_L_isSet_L13b jj
      rw [jcv_ok h.1.1.1 (q_lines h hT hi), jvI_ok, if_neg (nI_ge (by omega) (by omega)), if_neg (by decide), jcs_ok e1, jvA_ok, jcvS_ok s1.1 (s_len s1), jvI_ok, l8]
      dsimp only
      rw [if_neg (nI_nle (by omega) (by omega)), jcvS_ok s1.1 (s_len s1), jvI_ok, l8, if_neg (show ¬ (40 : Int32) < nI (wN c) from nI_nlt (a := 40) (by omega) (by omega)), jcvS_ok s1.1 (show J_J0_charAt_5068e b 0 τ1 = _ from s_chr (i := 0) s1 (by rw [l8]; omega) (by rw [l8]; omega)), jvI_ok, hch 0 (by omega), if_neg (show ¬ nI 63 = 0 by decide), jcvS_ok s1.1 (s_len s1), jvI_ok, l8, show nI (wN c) - 1 = nI (wN c - 1) from pk_sub (b := 1) (by omega), jcvS_ok s1.1 (s_chr (i := wN c - 1) s1 (by rw [l8]; omega) (by rw [l8]; omega)), jvI_ok, hch _ (by omega), if_neg (show ¬ nI 63 = 0 by decide)]
      refine Eq.trans e2 ?_
      rw [nI_1]
      exact e3
    · unfold gr at *
      omega
def grW (c : Nat) : Nat := 4 * c + 4 * pre c + (c - 2)
theorem s_set174 {g : jG} {d : Nat} {T : Nat → Tx} {be : Int32} (hT : tOK T) {i : Nat} (hi : i < 6) (k250 : Nat → Nat → Int32 → Hp → jR) (a3 : Nat) (l : List Nat) : ∀ (k m c : Nat) (σ : Hp) (a4 h3 h4 : Nat), Bx g d 6 T 8 be σ → StrV σ 0 h3 a3 l → StrV σ 0 h4 a4 (List.replicate (pre c) 63) → 6 - c = k → c ≤ 6 → k < m → ∃ τ a', J_L_isSet_L174 g k250 m d (nI i) a3 a4 1 (nI (c - 1)) (nI c) σ = k250 a3 a' 1 τ ∧ Bx g d 6 T 8 be τ ∧ StrV τ 0 (tpH τ) a3 l ∧ StrV τ 0 (tpH τ) a' (List.replicate 47 63) ∧ gw (fun _ => False) (tpH σ) σ τ ∧ tpH σ + grW 6 ≤ tpH τ + grW c := by
  intro k
  induction k with
  | zero =>
    intro m c σ a4 h3 h4 h hs h4s hk hc hm
    obtain ⟨n, rfl⟩ : ∃ n, m = n + 1 := ⟨m - 1, by omega⟩
    obtain rfl : c = 6 := by omega
    rw [pre_6] at h4s
    refine ⟨σ, a4, ?_, h, hs.wk (Nat.le_refl _) hs.2.2.2.2.1 (Nat.le_refl _), h4s.wk (Nat.le_refl _) h4s.2.2.2.2.1 (Nat.le_refl _), gw.rf, by omega⟩
    show J_L_isSet_L174b g k250 (J_L_isSet_L174 g k250 n) d (nI i) a3 a4 1 (nI (6 - 1)) (nI 6) σ = _
    unfold J_L_isSet_L174b
    rw [jcv_ok h.1.1.1 (q_words h hT hi), jvI_ok, if_pos (nI_le (Nat.le_refl _) (by omega))]
  | succ k ih =>
    intro m c σ a4 h3 h4 h hs h4s hk hc hm
    obtain ⟨n, rfl⟩ : ∃ n, m = n + 1 := ⟨m - 1, by omega⟩
    have hb := wN_b c (by omega)
    have hp := pre_s c (by omega)
    have hp' := pre_b (c + 1) (by omega)
    have hp3 := pre_3 c (by omega)
    obtain ⟨τ1, v, cap, e1, w1, g1, z1, t1, c1⟩ := s_cat1 h.2.2.1 h4s (by rw [List.length_replicate]; omega)
    rw [List.length_replicate] at t1 c1
    have B1 := h.gw g1 rfl z1
    obtain ⟨τ2, b, e2, B2, s2, g2, t2, kk⟩ := s_word hT hi (j := c) (by omega) B1
    have hb1 : tpH σ < tpH τ1 := w1.2.2.2.2.2.2.2.1
    have hv1 : v < tpH τ1 := w1.2.2.2.2.2.2.2.2.1
    have w2 := w1.gw g2 hb1 hv1
    obtain ⟨τ3, a6, e3, s3, g3, z3, t3⟩ := s_cat2S B2.2.2.1 w2 (Nat.le_trans g1.1 g2.1) s2 (Or.inl hb1) (Or.inl hv1) (by rw [List.length_replicate, List.length_replicate]; omega)
    rw [rep_a, ← hp] at s3
    rw [List.length_replicate, List.length_replicate, ← hp] at t3
    have g13 := (g1.trT g2 g1.1).trT g3 (Nat.le_refl _)
    have B3 := h.gw g13 rfl z3
    have hs3 := hs.gw g13 hs.2.2.2.2.1 (fun q z => z.elim)
    obtain ⟨τ, a', e4, B4, s4, s4', g4, t4⟩ := ih n (c + 1) τ3 a6 _ _ B3 hs3 (s3.wk (Nat.zero_le _) (Nat.le_refl _) (Nat.le_refl _)) (by omega) (by omega) (by omega)
    refine ⟨τ, a', ?_, B4, s4, s4', g13.trT g4 g13.1, ?_⟩
    · show J_L_isSet_L174b g k250 (J_L_isSet_L174 g k250 n) d (nI i) a3 a4 1 (nI (c - 1)) (nI c) σ = _
      unfold J_L_isSet_L174b jj
      rw [jcv_ok h.1.1.1 (q_words h hT hi), jvI_ok, if_neg (nI_ge (by omega) (by omega)), if_neg (by decide)]
      refine (e1 _ _).trans ?_
      rw [jcs_ok e2, jvA_ok]
      refine (e3 _ _).trans ?_
      rw [jcv_ok B3.1.1.1 (q_lineOf B3 hT hi (j := c) (by omega)), jvI_ok]
      dsimp only
      rw [if_neg (nI_nlt (by omega) (by omega)), jcv_ok B3.1.1.1 (q_lineOf B3 hT hi (j := c) (by omega)), jvI_ok, nI_1]
      exact e4
    · have ht : tpH σ + 4 + 4 * wN c + (if 2 ≤ c then 1 else 0) ≤ tpH τ3 := by
        by_cases q : 2 ≤ c
        · rw [if_pos q]
          have h16 := hp3.1 q
          by_cases q' : 16 < pre c
          · rw [if_pos q'] at t1
            omega
          · rw [c1 (by omega), if_pos (by omega)] at t3
            omega
        · rw [if_neg q]
          omega
      have hg : grW c + 4 + 4 * wN c + (if 2 ≤ c then 1 else 0) = grW (c + 1) := by
        unfold grW
        by_cases q : 2 ≤ c
        · rw [if_pos q]
          omega
        · rw [if_neg q]
          omega
      omega
theorem s_isSet {g : jG} {d : Nat} {T : Nat → Tx} {be : Int32} (hT : tOK T) {i : Nat} (hi : i < 6) {σ : Hp} (h : Bx g d 6 T 8 be σ) : ∃ τ, J_L_isSet g d (nI i) 40 σ = some (.inl (some (.int 1)), τ) ∧ Bx g d 6 T 8 be τ ∧ gw (fun _ => False) (tpH σ) σ τ ∧ tpH σ + 829 ≤ tpH τ := by
  have hK := h.2.2.2.2.2.1
  obtain ⟨τ1, a1, e1, B1, s1, g1, t1⟩ := s_set13 (g := g) (d := d) (T := T) (be := be) hT hi (fun (x70 : Nat) (x71 : Int32) (x72 : Nat) (x73 : Nat) (x74 : Int32) (t75 : Hp) => J_L_isSet_L174 g  (fun (x103 : Nat) (x104 : Nat) (x105 : Int32) (t106 : Hp) => (if x105 = 0 then jrt .boolean ((0 : Int32)) t106 else jcs (J_L_areAlike g x103 x104 t106) (fun w108 t107 => jvI w108 (fun x109 => (if x109 = 0 then jrt .boolean ((0 : Int32)) t107 else jrt .boolean ((1 : Int32)) t107))) (fun E t => some (.inr E, t)))) jN x70 x71 x72 x73 x74 ((0 : Int32)) ((0 : Int32)) t75) (gKa g 0) 6 jN 0 σ (gKa g 0) (gB g) h hK (by omega) (by omega) (by show 6 < 100000; omega)
  have hK1 := B1.2.2.2.2.2.1
  obtain ⟨τ2, a2, e2, B2, s2, s2', g2, t2⟩ := s_set174 (g := g) (d := d) (T := T) (be := be) hT hi (fun (x103 : Nat) (x104 : Nat) (x105 : Int32) (t106 : Hp) => (if x105 = 0 then jrt .boolean ((0 : Int32)) t106 else jcs (J_L_areAlike g x103 x104 t106) (fun w108 t107 => jvI w108 (fun x109 => (if x109 = 0 then jrt .boolean ((0 : Int32)) t107 else jrt .boolean ((1 : Int32)) t107))) (fun E t => some (.inr E, t)))) a1 (List.replicate 47 63) 6 jN 0 τ1 (gKa g 0) _ (gB g) B1 s1 hK1 (by omega) (by omega) (by show 6 < 100000; omega)
  refine ⟨τ2, ?_, B2, g1.trT g2 g1.1, ?_⟩
  · refine (show J_L_isSet g d (nI i) 40 σ = _ from e1).trans ?_
    refine (show _ = _ from e2).trans ?_
    rw [if_neg (by decide), jcs_ok (s_alike s2 s2' (by rw [List.length_replicate]; omega)), jvI_ok, if_neg (by decide), jrt_1]
  · have h0 : pre 0 = 0 := by decide +kernel
    unfold gr at t1
    unfold grW at t2
    rw [h0] at t1 t2
    rw [pre_6] at t2
    omega
