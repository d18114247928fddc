/-! The walk of the law over one script: what it rests on. -/
theorem nI_j {a b : Nat} (h : nI a = nI b) (ha : a < 100000) (hb : b < 100000) : a = b := (nI_eq (by omega) (by omega)).mp h
/-- the class's state, with neither rules nor exceptions nor anything typed; the constants -/
def Bx (g : jG) (d n : Nat) (T : Nat → Tx) (W : Nat) (be : Int32) (σ : Hp) : Prop := ClsV σ d [] [] [] [] [] [] n T W (List.replicate 6 0) be ∧ ClsI [] [] [] [] [] [] n T W ∧ kz σ ∧ d + 28 ≤ tpH σ ∧ gB g ≤ d ∧ StrV σ 0 (gB g) (gKa g 0) [] ∧ StrV σ 0 (gB g) (gKa g 1) [97, 98, 99, 100]
theorem Bx.gw {g : jG} {d n : Nat} {T : Nat → Tx} {W : Nat} {be : Int32} {σ τ : Hp} {c : Nat} (h : Bx g d n T W be σ) (hg : gw (fun _ => False) c σ τ) (hc : c = tpH σ) (hz : kz τ) : Bx g d n T W be τ := by
  obtain ⟨h1, h2, h3, h4, h5, h6, h7⟩ := h
  exact ⟨h1.gw hg hc h4 (fun q z => z.elim) (fun i _ q z => z.elim), h2, hz, Nat.le_trans h4 hg.1, h5, h6.gw hg (by omega) (fun q z => z.elim), h7.gw hg (by omega) (fun q z => z.elim)⟩
theorem gw.trT {σ τ υ : Hp} {c : Nat} (h : gw (fun _ => False) (tpH σ) σ τ) (h' : gw (fun _ => False) c τ υ) (hc : tpH σ ≤ c) : gw (fun _ => False) (tpH σ) σ υ := h.tr (h'.lw hc)
/-- a builder, and a first String in it -/
theorem s_cat1 {σ : Hp} (hz : kz σ) {l1 h1 a : Nat} {l : List Nat} (hs : StrV σ l1 h1 a l) (hl : l.length ≤ 400) : ∃ τ v cap, (∀ (K : Nat → Hp → jR) (KX : String → Hp → jR), jnw σ 6 (fun b1 t2 => jcv t2 b1 6 (J_J4_init_da8c8 b1 t2) (fun w4 t3 => jvV w4 (jcv t3 b1 6 (J_J4_append_15ec4 b1 a t3) (fun w6 t5 => jvA w6 (fun b7 => K b7 t5)) KX)) KX) = K (tpH σ) τ) ∧ SbW τ (tpH σ) (tpH σ) v cap l ∧ gw (fun _ => False) (tpH σ) σ τ ∧ kz τ ∧ tpH σ + 2 + (if 16 < l.length then 1 else 0) ≤ tpH τ ∧ (l.length ≤ 16 → cap = 16) := by
  obtain ⟨τ1, e1, w1, g1, t1, z1⟩ := s_sb hz
  have hh : h1 ≤ tpH σ := hs.2.2.2.2.1
  have hs1 := hs.gw g1 hh (fun q z => z.elim)
  obtain ⟨τ, v', cap', e2, w2, -, g2, z2, t2, c2⟩ := s_appS z1 w1 hs1 (Or.inr (by omega)) (Or.inr (by omega)) (by simp only [List.length_nil]; omega)
  rw [List.nil_append] at w2
  rw [List.length_nil, Nat.zero_add] at t2 c2
  refine ⟨τ, v', cap', fun K KX => ?_, w2, g1.trT g2 (Nat.le_refl _), z2, ?_, c2⟩
  · refine (e1 (fun b1 t3 => jcv t3 b1 6 (J_J4_append_15ec4 b1 a t3) (fun w6 t5 => jvA w6 (fun b7 => K b7 t5)) KX) KX).trans ?_
    rw [jcv_ok w1.1 e2, jvA_ok]
  · have := g2.1
    by_cases q : 16 < l.length
    · rw [if_pos q]
      have := t2 q
      omega
    · rw [if_neg q]
      omega
/-- then a char, and a String of it -/
theorem s_cat2C {σ : Hp} (hz : kz σ) {lo b v cap : Nat} {l : List Nat} (h : SbW σ lo b v cap l) (hlo : lo ≤ tpH σ) {c : Nat} (hc : c < 128) (hm : l.length + 1 ≤ 400) : ∃ τ a, (∀ (K : Nat → Hp → jR) (KX : String → Hp → jR), jcv σ b 6 (J_J4_append_cf468 b (nI c) σ) (fun w12 t11 => jvA w12 (fun b13 => jcv t11 b13 6 (J_J4_toString_0e30d b13 t11) (fun w15 t14 => jvA w15 (fun b16 => K b16 t14)) KX)) KX = K a τ) ∧ StrV τ lo (tpH τ) a (l ++ [c]) ∧ gw (fun _ => False) lo σ τ ∧ kz τ ∧ tpH σ + 2 + (if cap < l.length + 1 then 1 else 0) ≤ tpH τ ∧ kdH τ a = (1, 7) := by
  obtain ⟨τ1, v1, cap1, e1, w1, -, g1, z1, t1, c1⟩ := s_appC hz h hc hm
  obtain ⟨τ, e2, s2, g2, t2, z2, kk⟩ := s_toS z1 w1 (by rw [List.length_append]; exact hm)
  have := g1.1
  refine ⟨τ, _, fun K KX => ?_, s2.wk (by omega) (Nat.le_refl _) (Nat.le_refl _), g1.tr (g2.lw (by omega)), z2, ?_, kk⟩
  · rw [jcv_ok h.1 e1, jvA_ok, jcv_ok w1.1 e2, jvA_ok]
  · by_cases q : cap < l.length + 1
    · rw [if_pos q]
      have := t1 q
      omega
    · rw [if_neg q]
      omega
/-- then a String, and a String of it -/
theorem s_cat2S {σ : Hp} (hz : kz σ) {lo b v cap : Nat} {l m : List Nat} (h : SbW σ lo b v cap l) (hlo : lo ≤ tpH σ) {l1 h1 s : Nat} (hs : StrV σ l1 h1 s m) (hb : b < l1 ∨ h1 ≤ b) (hv : v < l1 ∨ h1 ≤ v) (hm : l.length + m.length ≤ 400) : ∃ τ a, (∀ (K : Nat → Hp → jR) (KX : String → Hp → jR), jcv σ b 6 (J_J4_append_15ec4 b s σ) (fun w12 t11 => jvA w12 (fun b13 => jcv t11 b13 6 (J_J4_toString_0e30d b13 t11) (fun w15 t14 => jvA w15 (fun b16 => K b16 t14)) KX)) KX = K a τ) ∧ StrV τ lo (tpH τ) a (l ++ m) ∧ gw (fun _ => False) lo σ τ ∧ kz τ ∧ tpH σ + 2 + (if cap < l.length + m.length then 1 else 0) ≤ tpH τ := by
  obtain ⟨τ1, v1, cap1, e1, w1, -, g1, z1, t1, c1⟩ := s_appS hz h hs hb hv hm
  obtain ⟨τ, e2, s2, g2, t2, z2, kk⟩ := s_toS z1 w1 (by rw [List.length_append]; exact hm)
  have := g1.1
  refine ⟨τ, _, fun K KX => ?_, s2.wk (by omega) (Nat.le_refl _) (Nat.le_refl _), g1.tr (g2.lw (by omega)), z2, ?_⟩
  · rw [jcv_ok h.1 e1, jvA_ok, jcv_ok w1.1 e2, jvA_ok]
  · by_cases q : cap < l.length + m.length
    · rw [if_pos q]
      have := t1 q
      omega
    · rw [if_neg q]
      omega
/-- the words' lengths, and their cells -/
def wL : List Nat := [7, 8, 8, 8, 8, 8]
def cS : List (List Int32) := wL.map (fun m => List.replicate m (nI 63))
def wN (j : Nat) : Nat := wL.getD j 0
theorem cS_len : cS.length = 6 := by decide +kernel
theorem cS_lay : lay 8 cS = cS := by decide +kernel
theorem cS_fl : ∀ j, j < 6 → (flS 8 ([], []) cS).getD j 0 = nI j := by decide +kernel
theorem cS_j : ∀ j, j < 6 → (cS.getD j []).length = wN j ∧ ∀ k, k < wN j → (cS.getD j []).getD k 0 = nI 63 := by decide +kernel
theorem wN_b : ∀ j, j < 6 → 7 ≤ wN j ∧ wN j ≤ 8 := by decide +kernel
/-- texts all alike -/
def tOK (T : Nat → Tx) : Prop := ∀ i, i < 6 → clO [] [] [] [] [] (T i) = cS ∧ (wd (tX (T i))).length = 6
theorem q_len {g : jG} {d : Nat} {T : Nat → Tx} {W : Nat} {be : Int32} {σ : Hp} (h : Bx g d 6 T W be σ) (hT : tOK T) {i j : Nat} (hi : i < 6) (hj : j < 6) : J_X5_length d (nI i) (nI j) σ = some (.inl (some (.int (nI (wN j)))), σ) := by
  rcases s_D_length h.1 (Nat.le_refl 6) (nI i) (nI j) with ⟨i', j', h1, h2, h3, h4, e⟩ | ⟨hn, _⟩
  · rw [(hT i' h1).2] at h2
    obtain rfl := nI_j h3 (by omega) (by omega)
    obtain rfl := nI_j h4 (by omega) (by omega)
    rw [e, (hT i h1).1, (cS_j j h2).1]
  · exact absurd ⟨i, j, hi, by rw [(hT i hi).2]; exact hj, rfl, rfl⟩ hn
theorem q_cell {g : jG} {d : Nat} {T : Nat → Tx} {W : Nat} {be : Int32} {σ : Hp} (h : Bx g d 6 T W be σ) (hT : tOK T) {i j k : Nat} (hi : i < 6) (hj : j < 6) (hk : k < wN j) : J_X5_cellOf d (nI i) (nI j) (nI k) σ = some (.inl (some (.int (nI 63))), σ) := by
  have hb := wN_b j hj
  rcases s_D_cellOf h.1 (Nat.le_refl 6) (nI i) (nI j) (nI k) with ⟨i', j', h1, h2, h3, h4, r⟩ | ⟨hn, _⟩
  · rw [(hT i' h1).2] at h2
    obtain rfl := nI_j h3 (by omega) (by omega)
    obtain rfl := nI_j h4 (by omega) (by omega)
    rw [(hT i h1).1, (cS_j j h2).1] at r
    rcases r with ⟨k', k1, k2, e⟩ | ⟨hn, _⟩
    · obtain rfl := nI_j k2 (by omega) (by omega)
      rw [e, (cS_j j h2).2 k k1]
    · exact absurd ⟨k, hk, rfl⟩ hn
  · exact absurd ⟨i, j, hi, by rw [(hT i hi).2]; exact hj, rfl, rfl⟩ hn
theorem q_words {g : jG} {d : Nat} {T : Nat → Tx} {W : Nat} {be : Int32} {σ : Hp} (h : Bx g d 6 T W be σ) (hT : tOK T) {i : Nat} (hi : i < 6) : J_X5_words d (nI i) σ = some (.inl (some (.int (nI 6))), σ) := by
  rcases s_D_words h.1 (Nat.le_refl 6) (nI i) with ⟨i', h1, h3, e⟩ | ⟨hn, _⟩
  · obtain rfl := nI_j h3 (by omega) (by omega)
    rw [e, (hT i h1).2]
  · exact absurd ⟨i, hi, rfl⟩ hn
theorem q_lines {g : jG} {d : Nat} {T : Nat → Tx} {be : Int32} {σ : Hp} (h : Bx g d 6 T 8 be σ) (hT : tOK T) {i : Nat} (hi : i < 6) : J_X5_lines d (nI i) σ = some (.inl (some (.int (nI 6))), σ) := by
  rcases s_D_lines h.1 (Nat.le_refl 6) (nI i) with ⟨i', h1, h3, e⟩ | ⟨hn, _⟩
  · obtain rfl := nI_j h3 (by omega) (by omega)
    rw [e, (hT i h1).1, cS_lay, cS_len]
  · exact absurd ⟨i, hi, rfl⟩ hn
theorem q_lineOf {g : jG} {d : Nat} {T : Nat → Tx} {be : Int32} {σ : Hp} (h : Bx g d 6 T 8 be σ) (hT : tOK T) {i j : Nat} (hi : i < 6) (hj : j < 6) : J_X5_lineOf d (nI i) (nI j) σ = some (.inl (some (.int (nI j))), σ) := by
  rcases s_D_lineOf h.1 (Nat.le_refl 6) (nI i) (nI j) with ⟨i', j', h1, h2, h3, h4, e⟩ | ⟨hn, _⟩
  · rw [(hT i' h1).2] at h2
    obtain rfl := nI_j h3 (by omega) (by omega)
    obtain rfl := nI_j h4 (by omega) (by omega)
    rw [e, (hT i h1).1, cS_fl j hj]
  · exact absurd ⟨i, j, hi, by rw [(hT i hi).2]; exact hj, rfl, rfl⟩ hn
theorem q_lineAt {g : jG} {d : Nat} {T : Nat → Tx} {be : Int32} {σ : Hp} (h : Bx g d 6 T 8 be σ) (hT : tOK T) {i j k : Nat} (hi : i < 6) (hj : j < 6) (hk : k < 100) : (k < wN j → J_X5_lineAt d (nI i) (nI j) (nI k) σ = some (.inl (some (.int (nI 63))), σ)) ∧ (wN j ≤ k → J_X5_lineAt d (nI i) (nI j) (nI k) σ = some (.inr "java/util/NoSuchElementException", thS σ)) := by
  have hb := wN_b j hj
  rcases s_D_lineAt h.1 (Nat.le_refl 6) (nI i) (nI j) (nI k) with ⟨i', h1, h3, r⟩ | ⟨hn, _⟩
  · obtain rfl := nI_j h3 (by omega) (by omega)
    rw [(hT i h1).1, cS_lay, cS_len] at r
    rcases r with ⟨hn, _⟩ | ⟨j', h2, h4, r⟩
    · exact absurd ⟨j, hj, rfl⟩ hn
    · obtain rfl := nI_j h4 (by omega) (by omega)
      rw [(cS_j j h2).1] at r
      rcases r with ⟨k', k1, k2, e⟩ | ⟨hn, e⟩
      · obtain rfl := nI_j k2 (by omega) (by omega)
        exact ⟨fun _ => by rw [e, (cS_j j h2).2 k k1], fun q => by omega⟩
      · exact ⟨fun q => absurd ⟨k, q, rfl⟩ hn, fun _ => e⟩
  · exact absurd ⟨i, hi, rfl⟩ hn
