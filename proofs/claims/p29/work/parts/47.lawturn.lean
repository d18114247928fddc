/-! One turn of the law, past the texts: what it keeps of each word, the deed, what it asks then. -/
def lw (a b : Int32) : Int32 := (a &&& 2147483647) - (a &&& 2147483647) / b * b
theorem s_low {g : jG} {a b : Int32} {σ : Hp} (hb : ¬ b = 0) : J_L_low g a b σ = some (.inl (some (.int (lw a b))), σ) := by
  unfold J_L_low jnz
  rw [if_pos hb]
  rfl
theorem jsS_ok {σ : Hp} {a n i v : Nat} {K : Hp → jR} (h : kdH σ a = (8, n)) (hv : kdH σ v = (1, 7)) (hi : i < n) (hb : n < 100000) : jsS σ a (nI i) v K = K (rfS σ a i (some v)) := by
  unfold jsS
  rw [h, if_pos ⟨rfl, hv, ix_ok hi hb⟩, nI_clamp (by omega)]
theorem jaS_ok {σ : Hp} {a n i : Nat} {K : Option Nat → jR} (h : kdH σ a = (8, n)) (hi : i < n) (hb : n < 100000) : jaS σ a (nI i) K = K (rfH σ a i) := by
  unfold jaS
  rw [h, if_pos ⟨rfl, ix_ok hi hb⟩, nI_clamp (by omega)]
theorem jsC_ok {σ : Hp} {a n i : Nat} {v : Int32} {K : Hp → jR} (h : kdH σ a = (7, n)) (hv : vp_nar .char v = v) (hi : i < n) (hb : n < 100000) : jsC σ a (nI i) v K = K (inS σ a i v) := by
  unfold jsC
  rw [h, if_pos ⟨rfl, ix_ok hi hb⟩, nI_clamp (by omega), hv]
theorem jaC_ok {σ : Hp} {a n i : Nat} {K : Int32 → jR} (h : kdH σ a = (7, n)) (hi : i < n) (hb : n < 100000) : jaC σ a (nI i) K = K (inH σ a i) := by
  unfold jaC
  rw [h, if_pos ⟨rfl, ix_ok hi hb⟩, nI_clamp (by omega)]
theorem StrV.nq {σ : Hp} {lo hi s q : Nat} {l : List Nat} (h : StrV σ lo hi s l) (hk : (kdH σ q).1 = 8 ∨ (kdH σ q).1 = 7 ∨ (kdH σ q).1 = 2) : s ≠ q ∧ ∀ w, rfH σ s 0 = some w → w ≠ q := by
  obtain ⟨k0, k1, k2, k3, k4, k5, v, k6, k7, k8, k9, k10⟩ := h
  refine ⟨fun e => ?_, fun w hw e => ?_⟩
  · subst e
    rcases k0 with k0 | k0
    · rw [k0] at hk
      rcases hk with q | q | q <;> cases q
    · rw [k0] at hk
      rcases hk with q | q | q <;> cases q
  · rw [k6] at hw
    cases hw
    subst e
    rcases k9 with k9 | k9
    · rw [k9] at hk
      rcases hk with q | q | q <;> cases q
    · rw [k9] at hk
      rcases hk with q | q | q <;> cases q
theorem StrV.rfS8 {σ : Hp} {lo hi s q : Nat} {l : List Nat} (h : StrV σ lo hi s l) (hk : (kdH σ q).1 = 8 ∨ (kdH σ q).1 = 7 ∨ (kdH σ q).1 = 2) (k : Nat) (r : Option Nat) : StrV (rfS σ q k r) lo hi s l := by
  obtain ⟨n1, n2⟩ := h.nq hk
  obtain ⟨k0, k1, k2, k3, k4, k5, v, k6, k7, k8, k9⟩ := h
  exact ⟨k0, k1, k2, k3, k4, k5, v, by rw [rf_rfS, if_neg (fun z => n1 z.1)]; exact k6, k7, k8, k9⟩
theorem StrV.inS8 {σ : Hp} {lo hi s q : Nat} {l : List Nat} (h : StrV σ lo hi s l) (hk : (kdH σ q).1 = 8 ∨ (kdH σ q).1 = 7 ∨ (kdH σ q).1 = 2) (k : Nat) (r : Int32) : StrV (inS σ q k r) lo hi s l := by
  obtain ⟨n1, n2⟩ := h.nq hk
  obtain ⟨k0, k1, k2, k3, k4, k5, v, k6, k7, k8, k9, k10, k11, k12⟩ := h
  have e : ∀ y, inH (inS σ q k r) v y = inH σ v y := fun y => by rw [in_inS, if_neg (fun z => n2 v k6 z.1)]
  exact ⟨k0, by rw [in_inS, if_neg (fun z => n1 z.1)]; exact k1, k2, k3, k4, k5, v, k6, k7, k8, k9, k10, fun i => by rw [e]; exact k11 i, fun i hi => by rw [e]; exact k12 i hi⟩
/-- a word's mark -/
def mk (T : Nat → Tx) (i j e : Nat) : Int32 := (tM (T i)).getD (2 * j + e) 0
theorem mk_nar {x : Int32} (h : mkc x) : vp_nar .char x = x := by
  rcases h with rfl | rfl | rfl <;> decide
theorem q_mark {g : jG} {d : Nat} {T : Nat → Tx} {W : Nat} {be : Int32} {σ : Hp} (h : Bx g d 6 T W be σ) (hT : tOK T) {e i j : Nat} (he : e < 2) (hi : i < 6) (hj : j < 6) : mkc (mk T i j e) ∧ J_X5_markOf d (nI e) (nI i) (nI j) σ = some (.inl (some (.int (mk T i j e))), σ) := by
  rcases s_D_markOf h.1 h.2.1 (nI e) (nI i) (nI j) with ⟨e', i', j', h0, h1, h2, h5, h3, h4, hm, r⟩ | ⟨hn, _⟩
  · rw [(hT i' h1).2] at h2
    obtain rfl := nI_j h5 (by omega) (by omega)
    obtain rfl := nI_j h3 (by omega) (by omega)
    obtain rfl := nI_j h4 (by omega) (by omega)
    exact ⟨hm, r⟩
  · exact absurd ⟨⟨e, he, rfl⟩, i, j, hi, by rw [(hT i hi).2]; exact hj, rfl, rfl⟩ hn
/-- what the law keeps of the words: the Strings, the marks, how many -/
def AR (σ : Hp) (lo a8 a9 a10 : Nat) (T : Nat → Tx) (D : Nat → Nat → Prop) (R : Nat → Prop) : Prop := (kdH σ a8 = (8, 240) ∧ kdH σ a9 = (7, 480) ∧ kdH σ a10 = (2, 6)) ∧ (lo ≤ a8 ∧ a8 < tpH σ ∧ lo ≤ a9 ∧ a9 < tpH σ ∧ lo ≤ a10 ∧ a10 < tpH σ) ∧ (∀ i j, D i j → (∃ s, rfH σ a8 (40 * i + j) = some s ∧ StrV σ lo (tpH σ) s (List.replicate (wN j) 63)) ∧ inH σ a9 (80 * i + 2 * j) = mk T i j 0 ∧ inH σ a9 (80 * i + 2 * j + 1) = mk T i j 1) ∧ ∀ i, R i → inH σ a10 i = nI 6
theorem AR.gw {P : Nat → Prop} {c : Nat} {σ τ : Hp} {lo a8 a9 a10 : Nat} {T : Nat → Tx} {D : Nat → Nat → Prop} {R : Nat → Prop} (h : AR σ lo a8 a9 a10 T D R) (hg : gw P c σ τ) (hc : c = tpH σ) (hP : ∀ q, P q → q < lo) : AR τ lo a8 a9 a10 T D R := by
  subst hc
  obtain ⟨⟨k8, k9, k10⟩, ⟨b1, b2, b3, b4, b5, b6⟩, hD, hR⟩ := h
  have np : ∀ q, lo ≤ q → ¬ P q := fun q hq z => by
    have := hP q z
    omega
  obtain ⟨x1, x2⟩ := hg.2 a8 b2
  obtain ⟨y1, y2⟩ := hg.2 a9 b4
  obtain ⟨z1, z2⟩ := hg.2 a10 b6
  have hh := hg.1
  refine ⟨⟨by rw [x1]; exact k8, by rw [y1]; exact k9, by rw [z1]; exact k10⟩, ⟨b1, by omega, b3, by omega, b5, by omega⟩, fun i j hd => ?_, fun i hr => by rw [(z2 (np _ b5)).1]; exact hR i hr⟩
  obtain ⟨⟨s, s1, s2⟩, m1, m2⟩ := hD i j hd
  refine ⟨⟨s, by rw [(x2 (np _ b1)).2.1]; exact s1, (s2.gw hg (Nat.le_refl _) (fun q z y => np q y.1 z)).wk (Nat.le_refl _) hh (Nat.le_refl _)⟩, by rw [(y2 (np _ b3)).1]; exact m1, by rw [(y2 (np _ b3)).1]; exact m2⟩
/-- where the law's things of a turn begin -/
def Lo (d : Nat) (T : Nat → Tx) (lo : Nat) : Prop := d + 28 ≤ lo ∧ ∀ i, i < 6 → tA (T i) + 25 ≤ lo
theorem bx_gwP {P : Nat → Prop} {g : jG} {d : Nat} {T : Nat → Tx} {W : Nat} {be : Int32} {σ τ : Hp} {lo : Nat} (h : Bx g d 6 T W be σ) (hL : Lo d T lo) (hg : gw P (tpH σ) σ τ) (hP : ∀ q, P q → lo ≤ q) (hz : kz τ) : Bx g d 6 T W be τ := by
  obtain ⟨h1, h2, h3, h4, h5, h6, h7⟩ := h
  have hL1 := hL.1
  exact ⟨h1.gw hg rfl h4 (fun q z y => by have := hP q z; unfold rg at y; omega) (fun i hi q z y => by have := hP q z; have := hL.2 i hi; unfold rg at y; omega), h2, hz, Nat.le_trans h4 hg.1, h5, h6.gw hg (by omega) (fun q z y => by have := hP q z; omega), h7.gw hg (by omega) (fun q z y => by have := hP q z; omega)⟩
theorem bx_rfS {g : jG} {d : Nat} {T : Nat → Tx} {W : Nat} {be : Int32} {σ : Hp} {lo : Nat} (h : Bx g d 6 T W be σ) (hL : Lo d T lo) {a : Nat} (ha : lo ≤ a) (k : Nat) (v : Option Nat) : Bx g d 6 T W be (rfS σ a k v) := bx_gwP h hL (gw_rf (a := a) σ k v) (fun q e => by omega) (h.2.2.1.rfS' _ _ _)
theorem bx_inS {g : jG} {d : Nat} {T : Nat → Tx} {W : Nat} {be : Int32} {σ : Hp} {lo : Nat} (h : Bx g d 6 T W be σ) (hL : Lo d T lo) {a : Nat} (ha : lo ≤ a) (k : Nat) (v : Int32) : Bx g d 6 T W be (inS σ a k v) := bx_gwP h hL (gw_in (a := a) σ k v) (fun q e => by omega) (h.2.2.1.inS' _ _ _)
theorem ix40 (i c : Nat) : ((40 : Int32) * nI i) + nI c = nI (40 * i + c) := by
  show nI 40 * nI i + nI c = _
  rw [pk_mul, nI_add]
theorem ix80 (i c : Nat) : ((80 : Int32) * nI i) + ((2 : Int32) * nI c) = nI (80 * i + 2 * c) := by
  show nI 80 * nI i + nI 2 * nI c = _
  rw [pk_mul, pk_mul, nI_add]
/-- the words done -/
def dW (i c : Nat) : Nat → Nat → Prop := fun x y => x < i ∧ y < 6 ∨ x = i ∧ y < c
theorem s_L200 {g : jG} {d : Nat} {T : Nat → Tx} {W : Nat} {be : Int32} (hT : tOK T) {lo : Nat} (hL : Lo d T lo) (k281 : Nat → Nat → Int32 → Int32 → Int32 → Nat → Nat → Nat → Int32 → Hp → jR) (a2 : Nat) (v3 v6 v7 : Int32) (a8 a9 a10 : Nat) {i : Nat} (hi : i < 6) : ∀ (k m c : Nat) (σ : Hp), Bx g d 6 T W be σ → AR σ lo a8 a9 a10 T (dW i c) (fun x => x ≤ i) → lo ≤ tpH σ → 6 - c = k → c ≤ 6 → k < m → ∃ τ, J_L_law_L200 g k281 m d a2 v3 v6 v7 a8 a9 a10 (nI i) (nI c) σ = k281 d a2 v3 v6 v7 a8 a9 a10 (nI i) τ ∧ Bx g d 6 T W be τ ∧ AR τ lo a8 a9 a10 T (dW i 6) (fun x => x ≤ i) ∧ tpH σ + 4 * 47 ≤ tpH τ + 4 * pre c := by
  intro k
  induction k with
  | zero =>
    intro m c σ h hA hlo hk hc hm
    obtain ⟨n, rfl⟩ : ∃ n, m = n + 1 := ⟨m - 1, by omega⟩
    obtain rfl : c = 6 := by omega
    refine ⟨σ, ?_, h, hA, by rw [pre_6]; exact Nat.le_refl _⟩
    show J_L_law_L200b g k281 (J_L_law_L200 g k281 n) d a2 v3 v6 v7 a8 a9 a10 (nI i) (nI 6) σ = _
    unfold J_L_law_L200b
    rw [jaI_ok hA.1.2.2 hi (by omega), hA.2.2.2 i (Nat.le_refl _), if_pos (nI_le (Nat.le_refl _) (by omega))]
  | succ k ih =>
    intro m c σ h hA hlo hk hc hm
    obtain ⟨n, rfl⟩ : ∃ n, m = n + 1 := ⟨m - 1, by omega⟩
    have hp := pre_s c (by omega)
    obtain ⟨τ1, b, e1, B1, s1, g1, t1, hkb⟩ := s_word hT hi (j := c) (by omega) h
    have A1 := hA.gw g1 rfl (fun q z => z.elim)
    obtain ⟨⟨k8, k9, k10⟩, ⟨b1, b2, b3, b4, b5, b6⟩, hD, hR⟩ := A1
    have B2 := bx_rfS B1 hL b1 (40 * i + c) (some b)
    have B3 := bx_inS B2 hL b3 (80 * i + 2 * c) (mk T i c 0)
    have B4 := bx_inS B3 hL b3 (80 * i + 2 * c + 1) (mk T i c 1)
    have m0 := q_mark B2 hT (e := 0) (by omega) hi (j := c) (by omega)
    have m1 := q_mark B3 hT (e := 1) (by omega) hi (j := c) (by omega)
    have n9 : (kdH τ1 a9).1 = 7 := by rw [k9]
    have n8 : (kdH τ1 a8).1 = 8 := by rw [k8]
    have h89 : a8 ≠ a9 := fun e => by rw [e, n9] at n8; cases n8
    have kp : ∀ {s : Nat} {l1 h1 : Nat} {l : List Nat}, StrV τ1 l1 h1 s l → StrV (inS (inS (rfS τ1 a8 (40 * i + c) (some b)) a9 (80 * i + 2 * c) (mk T i c 0)) a9 (80 * i + 2 * c + 1) (mk T i c 1)) l1 h1 s l := fun q => ((q.rfS8 (Or.inl n8) _ _).inS8 (Or.inr (Or.inl n9)) _ _).inS8 (Or.inr (Or.inl n9)) _ _
    have A4 : AR (inS (inS (rfS τ1 a8 (40 * i + c) (some b)) a9 (80 * i + 2 * c) (mk T i c 0)) a9 (80 * i + 2 * c + 1) (mk T i c 1)) lo a8 a9 a10 T (dW i (c + 1)) (fun x => x ≤ i) := by
      refine ⟨⟨k8, k9, k10⟩, ⟨b1, b2, b3, b4, b5, b6⟩, fun x y hd => ?_, fun x hx => ?_⟩
      · by_cases q : x = i ∧ y = c
        · obtain ⟨rfl, rfl⟩ := q
          refine ⟨⟨b, ?_, (kp s1).wk hlo (Nat.le_refl _) (Nat.le_refl _)⟩, ?_, ?_⟩
          · rw [rf_inS, rf_inS, rf_rfS, if_pos ⟨rfl, rfl⟩]
          · rw [in_inS, if_neg (by omega), in_inS, if_pos ⟨rfl, rfl⟩]
          · rw [in_inS, if_pos ⟨rfl, rfl⟩]
        · have hd' : dW i c x y ∧ y < 6 := by unfold dW at hd ⊢; omega
          obtain ⟨⟨s, r1, r2⟩, r3, r4⟩ := hD x y hd'.1
          have hx : x ≤ i := by unfold dW at hd; omega
          refine ⟨⟨s, ?_, kp r2⟩, ?_, ?_⟩
          · rw [rf_inS, rf_inS, rf_rfS, if_neg (by omega)]
            exact r1
          · rw [in_inS, if_neg (by omega), in_inS, if_neg (by omega)]
            exact r3
          · rw [in_inS, if_neg (by omega), in_inS, if_neg (by omega)]
            exact r4
      · have h109 : a10 ≠ a9 := fun e => by rw [e, k9] at k10; cases k10
        rw [in_inS, if_neg (fun z => h109 z.1), in_inS, if_neg (fun z => h109 z.1)]
        exact hR x hx
    obtain ⟨τ, e5, B5, A5, t5⟩ := ih n (c + 1) _ B4 A4 (Nat.le_trans hlo g1.1) (by omega) (by omega) (by omega)
    have t5' : tpH τ1 + 4 * 47 ≤ tpH τ + 4 * pre (c + 1) := t5
    refine ⟨τ, ?_, B5, A5, by omega⟩
    show J_L_law_L200b g k281 (J_L_law_L200 g k281 n) d a2 v3 v6 v7 a8 a9 a10 (nI i) (nI c) σ = _
    unfold J_L_law_L200b
    rw [jaI_ok hA.1.2.2 hi (by omega), hA.2.2.2 i (Nat.le_refl _), if_neg (nI_ge (by omega) (by omega)), jcs_ok e1, jvA_ok, ix40, ix80, jsS_ok k8 hkb (by omega) (by omega), jcv_ok B2.1.1.1 (show J_X5_markOf d 0 (nI i) (nI c) _ = _ from m0.2), jvI_ok, jsC_ok (by exact k9) (mk_nar m0.1) (by omega) (by omega), jcv_ok B3.1.1.1 (show J_X5_markOf d 1 (nI i) (nI c) _ = _ from m1.2), jvI_ok, nI_1, jsC_ok (by exact k9) (mk_nar m1.1) (by omega) (by omega), nI_1]
    exact e5
