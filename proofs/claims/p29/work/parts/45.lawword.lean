/-! The law's word, line and likeness. -/
theorem b63 : (((nI 63).toUInt32 % 65536).toInt32) = nI 63 := (by_all 63 (by omega)).2.2.2.2.1
theorem rep_s (c : Nat) : List.replicate c 63 ++ [63] = List.replicate (c + 1) 63 := (List.replicate_succ' (n := c) (a := 63)).symm
theorem Bx.th {g : jG} {d n : Nat} {T : Nat → Tx} {W : Nat} {be : Int32} {σ : Hp} (h : Bx g d n T W be σ) : Bx g d n T W be (thS σ) := h.gw (ag_thS h.2.2.1).gw rfl (h.2.2.1.keep (ag_thS h.2.2.1))
theorem s_word_L {g : jG} {d : Nat} {T : Nat → Tx} {W : Nat} {be : Int32} (hT : tOK T) {i j : Nat} (hi : i < 6) (hj : j < 6) (k50 : Nat → Hp → jR) (lo : Nat) : ∀ (k m c : Nat) (σ : Hp) (a l1 h1 : Nat), Bx g d 6 T W be σ → StrV σ l1 h1 a (List.replicate c 63) → (c ≠ 0 → lo ≤ l1 ∧ kdH σ a = (1, 7)) → lo ≤ tpH σ → wN j - c = k → c ≤ wN j → k < m → ∃ τ a', J_L_word_L6 g k50 m d (nI i) (nI j) a (nI c) σ = k50 a' τ ∧ Bx g d 6 T W be τ ∧ StrV τ lo (tpH τ) a' (List.replicate (wN j) 63) ∧ gw (fun _ => False) (tpH σ) σ τ ∧ tpH σ + 4 * k ≤ tpH τ ∧ kdH τ a' = (1, 7) := by
  have hb := wN_b j hj
  intro k
  induction k with
  | zero =>
    intro m c σ a l1 h1 h hs hl ht hk hc hm
    obtain ⟨n, rfl⟩ : ∃ n, m = n + 1 := ⟨m - 1, by omega⟩
    obtain rfl : c = wN j := by omega
    refine ⟨σ, a, ?_, h, hs.wk (hl (by omega)).1 hs.2.2.2.2.1 (Nat.le_refl _), gw.rf, by omega, (hl (by omega)).2⟩
    show J_L_word_L6b g k50 (J_L_word_L6 g k50 n) d (nI i) (nI j) a (nI (wN j)) σ = _
    unfold J_L_word_L6b
    rw [jcv_ok h.1.1.1 (q_len h hT hi hj), jvI_ok, if_pos (nI_le (Nat.le_refl _) (by omega))]
  | succ k ih =>
    intro m c σ a l1 h1 h hs hl ht hk hc hm
    obtain ⟨n, rfl⟩ : ∃ n, m = n + 1 := ⟨m - 1, by omega⟩
    obtain ⟨τ1, v, cap, e1, w1, g1, z1, t1, c1⟩ := s_cat1 h.2.2.1 hs (by rw [List.length_replicate]; omega)
    have h1' := h.gw g1 rfl z1
    obtain ⟨τ2, a2, e2, s2, g2, z2, t2, kk⟩ := s_cat2C z1 w1 g1.1 (c := 63) (by omega) (by rw [List.length_replicate]; omega)
    rw [rep_s] at s2
    have h2' := h.gw (g1.trT g2 (Nat.le_refl _)) rfl z2
    have tt : tpH σ + 4 ≤ tpH τ2 := by omega
    obtain ⟨τ, a', e3, h3, s3, g3, t3, k3⟩ := ih n (c + 1) τ2 a2 _ _ h2' s2 (fun _ => ⟨ht, kk⟩) (by omega) (by omega) (by omega) (by omega)
    refine ⟨τ, a', ?_, h3, s3, (g1.trT g2 (Nat.le_refl _)).trT g3 (by omega), by omega, k3⟩
    show J_L_word_L6b g k50 (J_L_word_L6 g k50 n) d (nI i) (nI j) a (nI c) σ = _
    unfold J_L_word_L6b
    rw [jcv_ok h.1.1.1 (q_len h hT hi hj), jvI_ok, if_neg (nI_ge (by omega) (by omega))]
    refine (e1 _ _).trans ?_
    rw [jcv_ok h1'.1.1.1 (q_cell h1' hT hi hj (by omega)), jvI_ok, b63]
    refine (e2 _ _).trans ?_
    rw [nI_1]
    exact e3
theorem s_word {g : jG} {d : Nat} {T : Nat → Tx} {W : Nat} {be : Int32} (hT : tOK T) {i j : Nat} (hi : i < 6) (hj : j < 6) {σ : Hp} (h : Bx g d 6 T W be σ) : ∃ τ a, J_L_word g d (nI i) (nI j) σ = some (.inl (some (.ref a)), τ) ∧ Bx g d 6 T W be τ ∧ StrV τ (tpH σ) (tpH τ) a (List.replicate (wN j) 63) ∧ gw (fun _ => False) (tpH σ) σ τ ∧ tpH σ + 4 * wN j ≤ tpH τ ∧ kdH τ a = (1, 7) := by
  have hb := wN_b j hj
  obtain ⟨τ, a, e, r⟩ := s_word_L (g := g) hT hi hj (fun (x20 : Nat) (t21 : Hp) => some (.inl (some (.ref x20)), t21)) (tpH σ) (wN j) jN 0 σ (gKa g 0) 0 (gB g) h h.2.2.2.2.2.1 (fun q => absurd rfl q) (Nat.le_refl _) (by omega) (by omega) (by show wN j < 100000; omega)
  exact ⟨τ, a, e, r⟩
theorem s_line_L {g : jG} {d : Nat} {T : Nat → Tx} {be : Int32} (hT : tOK T) {i j : Nat} (hi : i < 6) (hj : j < 6) (k46 k50 : Nat → Hp → jR) (lo : Nat) : ∀ (k m c : Nat) (σ : Hp) (a l1 h1 : Nat), Bx g d 6 T 8 be σ → StrV σ l1 h1 a (List.replicate c 63) → (c ≠ 0 → lo ≤ l1) → lo ≤ tpH σ → wN j - c = k → c ≤ wN j → k < m → ∃ τ a', J_L_line_L6 g k46 k50 m d (nI i) (nI j) a (nI c) σ = k50 a' τ ∧ Bx g d 6 T 8 be τ ∧ StrV τ lo (tpH τ) a' (List.replicate (wN j) 63) ∧ gw (fun _ => False) (tpH σ) σ τ ∧ tpH σ + 4 * k + 3 ≤ tpH τ := by
  have hb := wN_b j hj
  intro k
  induction k with
  | zero =>
    intro m c σ a l1 h1 h hs hl ht hk hc hm
    obtain ⟨n, rfl⟩ : ∃ n, m = n + 1 := ⟨m - 1, by omega⟩
    obtain rfl : c = wN j := by omega
    obtain ⟨τ1, v, cap, e1, w1, g1, z1, t1, c1⟩ := s_cat1 h.2.2.1 hs (by rw [List.length_replicate]; omega)
    have h1' := h.gw g1 rfl z1
    have gt : gw (fun _ => False) (tpH σ) σ (thS τ1) := g1.trT (ag_thS z1).gw (Nat.le_refl _)
    have s1 := (hs.gw gt hs.2.2.2.2.1 (fun q z => z.elim))
    refine ⟨thS τ1, a, ?_, h1'.th, s1.wk (hl (by omega)) s1.2.2.2.2.1 (Nat.le_refl _), gt, by show _ ≤ tpH τ1 + 1; omega⟩
    show J_L_line_L6b g k46 k50 (J_L_line_L6 g k46 k50 n) d (nI i) (nI j) a (nI (wN j)) σ = _
    unfold J_L_line_L6b
    rw [show (40 : Int32) = nI 40 by decide, if_neg (nI_nlt (by omega) (by omega))]
    refine (e1 _ _).trans ?_
    rw [jcv_x h1'.1.1.1 ((q_lineAt h1' hT hi hj (by omega)).2 (Nat.le_refl _)), if_pos rfl]
  | succ k ih =>
    intro m c σ a l1 h1 h hs hl ht hk hc hm
    obtain ⟨n, rfl⟩ : ∃ n, m = n + 1 := ⟨m - 1, by omega⟩
    obtain ⟨τ1, v, cap, e1, w1, g1, z1, t1, c1⟩ := s_cat1 h.2.2.1 hs (by rw [List.length_replicate]; omega)
    have h1' := h.gw g1 rfl z1
    obtain ⟨τ2, a2, e2, s2, g2, z2, t2, kk⟩ := s_cat2C z1 w1 g1.1 (c := 63) (by omega) (by rw [List.length_replicate]; omega)
    rw [rep_s] at s2
    have h2' := h.gw (g1.trT g2 (Nat.le_refl _)) rfl z2
    have tt : tpH σ + 4 ≤ tpH τ2 := by omega
    obtain ⟨τ, a', e3, h3, s3, g3, t3⟩ := ih n (c + 1) τ2 a2 _ _ h2' s2 (fun _ => ht) (by omega) (by omega) (by omega) (by omega)
    refine ⟨τ, a', ?_, h3, s3, (g1.trT g2 (Nat.le_refl _)).trT g3 (by omega), by omega⟩
    show J_L_line_L6b g k46 k50 (J_L_line_L6 g k46 k50 n) d (nI i) (nI j) a (nI c) σ = _
    unfold J_L_line_L6b
    rw [show (40 : Int32) = nI 40 by decide, if_neg (nI_nlt (by omega) (by omega))]
    refine (e1 _ _).trans ?_
    rw [jcv_ok h1'.1.1.1 ((q_lineAt h1' hT hi hj (by omega)).1 (by omega)), jvI_ok, b63]
    refine (e2 _ _).trans ?_
    rw [nI_1]
    exact e3
theorem s_line {g : jG} {d : Nat} {T : Nat → Tx} {be : Int32} (hT : tOK T) {i j : Nat} (hi : i < 6) (hj : j < 6) {σ : Hp} (h : Bx g d 6 T 8 be σ) : ∃ τ a, J_L_line g d (nI i) (nI j) σ = some (.inl (some (.ref a)), τ) ∧ Bx g d 6 T 8 be τ ∧ StrV τ (tpH σ) (tpH τ) a (List.replicate (wN j) 63) ∧ gw (fun _ => False) (tpH σ) σ τ ∧ tpH σ + 4 * wN j + 3 ≤ tpH τ := by
  have hb := wN_b j hj
  obtain ⟨τ, a, e, r⟩ := s_line_L (g := g) hT hi hj (fun (x20 : Nat) (t21 : Hp) => some (.inl (some (.ref x20)), t21)) (fun (x20 : Nat) (t21 : Hp) => some (.inl (some (.ref x20)), t21)) (tpH σ) (wN j) jN 0 σ (gKa g 0) 0 (gB g) h h.2.2.2.2.2.1 (fun q => absurd rfl q) (Nat.le_refl _) (by omega) (by omega) (by show wN j < 100000; omega)
  exact ⟨τ, a, e, r⟩
theorem s_alike_L {g : jG} {σ : Hp} {l1 h1 a l2 h2 b : Nat} {l : List Nat} (ha : StrV σ l1 h1 a l) (hb : StrV σ l2 h2 b l) (hl : l.length ≤ 400) (k56 : Int32 → Hp → jR) : ∀ (k m c : Nat), l.length - c = k → c ≤ l.length → k < m → J_L_areAlike_L19 g k56 m a b 1 (nI c) σ = k56 1 σ := by
  intro k
  induction k with
  | zero =>
    intro m c hk hc hm
    obtain ⟨n, rfl⟩ : ∃ n, m = n + 1 := ⟨m - 1, by omega⟩
    show J_L_areAlike_L19b g k56 (J_L_areAlike_L19 g k56 n) a b 1 (nI c) σ = _
    unfold J_L_areAlike_L19b
    rw [jcvS_ok ha.1 (s_len ha), jvI_ok, if_pos (nI_le (by omega) (by omega))]
  | succ k ih =>
    intro m c hk hc hm
    obtain ⟨n, rfl⟩ : ∃ n, m = n + 1 := ⟨m - 1, by omega⟩
    show J_L_areAlike_L19b g k56 (J_L_areAlike_L19 g k56 n) a b 1 (nI c) σ = _
    unfold J_L_areAlike_L19b jj
    rw [jcvS_ok ha.1 (s_len ha), jvI_ok, if_neg (nI_ge (by omega) (by omega)), if_neg (by decide), jcvS_ok ha.1 (s_chr ha (by omega) (by omega)), jvI_ok, jcvS_ok hb.1 (s_chr hb (by omega) (by omega)), jvI_ok]
    dsimp only
    rw [if_pos rfl, nI_1]
    exact ih n (c + 1) (by omega) (by omega) (by omega)
theorem s_alike {g : jG} {σ : Hp} {l1 h1 a l2 h2 b : Nat} {l : List Nat} (ha : StrV σ l1 h1 a l) (hb : StrV σ l2 h2 b l) (hl : l.length ≤ 400) : J_L_areAlike g a b σ = some (.inl (some (.int 1)), σ) := by
  unfold J_L_areAlike jj
  rw [jcvS_ok ha.1 (s_len ha), jvI_ok, jcvS_ok hb.1 (s_len hb), jvI_ok]
  dsimp only
  rw [if_pos rfl]
  exact (s_alike_L ha hb hl _ l.length jN 0 (by omega) (by omega) (by show l.length < 100000; omega)).trans rfl
