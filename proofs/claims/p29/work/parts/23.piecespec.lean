/-! Pieces: a row of numbers cut into pieces. -/
/-- n cells from a on -/
def rg (a n : Nat) : Nat → Prop := fun q => a ≤ q ∧ q < a + n
theorem rw2_rg {a b n : Nat} (h : b ≤ a) (h' : a + 1 < b + n) : ∀ q, rw2 a q → rg b n q := fun q z => by
  unfold rw2 at z
  unfold rg
  omega
theorem nI_z {n : Nat} (h : n < 2 ^ 31) : nI n = 0 ↔ n = 0 := nI_eq (a := n) (b := 0) h (by omega)
/-- where the i-th piece begins -/
def sz {α : Type} (ps : List (List α)) (i : Nat) : Nat := (ps.take i).flatten.length
theorem sz_succ {α : Type} (ps : List (List α)) (i : Nat) : sz ps (i + 1) = sz ps i + (ps.getD i []).length := by
  unfold sz
  rw [List.take_add_one, List.flatten_append, List.length_append]
  by_cases h : i < ps.length
  · simp [List.getD_eq_getElem?_getD, h]
  · simp [List.getD_eq_getElem?_getD, h]
theorem sz_0 {α : Type} (ps : List (List α)) : sz ps 0 = 0 := by simp [sz]
theorem sz_all {α : Type} (ps : List (List α)) {i : Nat} (h : ps.length ≤ i) : sz ps i = ps.flatten.length := by
  unfold sz
  rw [List.take_of_length_le h]
theorem sz_split {α : Type} (ps : List (List α)) (i : Nat) : ps.flatten = (ps.take i).flatten ++ (ps.drop i).flatten := by
  rw [← List.flatten_append, List.take_append_drop]
theorem sz_le {α : Type} (ps : List (List α)) (i : Nat) : sz ps i ≤ ps.flatten.length := by
  have := congrArg List.length (sz_split ps i)
  rw [List.length_append] at this
  unfold sz
  omega
theorem sz_mono {α : Type} (ps : List (List α)) {i j : Nat} (h : i ≤ j) : sz ps i ≤ sz ps j := by
  induction j with
  | zero => rw [Nat.le_zero.mp h]; exact Nat.le_refl _
  | succ j ih =>
    by_cases e : i = j + 1
    · rw [e]; exact Nat.le_refl _
    · have := ih (by omega)
      rw [sz_succ]
      omega
theorem sz_app {α : Type} (ps qs : List (List α)) {i : Nat} (h : i ≤ ps.length) : sz (ps ++ qs) i = sz ps i := by
  unfold sz
  rw [List.take_append_of_le_length h]
theorem pc_slice {α : Type} (ps : List (List α)) {i : Nat} (h : i < ps.length) : (ps.flatten.drop (sz ps i)).take (ps.getD i []).length = ps.getD i [] := by
  rw [sz_split ps i]
  unfold sz
  rw [List.drop_left, List.drop_eq_getElem_cons h, List.flatten_cons]
  simp [List.getD_eq_getElem?_getD, h]
theorem pc_get (ps : List (List Int32)) {i k : Nat} (h : i < ps.length) (hk : k < (ps.getD i []).length) (u : List Int32) : (ps.flatten ++ u).getD (sz ps i + k) 0 = (ps.getD i []).getD k 0 := by
  have h1 := sz_succ ps i
  have h2 := sz_le ps (i + 1)
  rw [getD_app_l (by omega)]
  have e := congrArg (fun z : List Int32 => z.getD k 0) (pc_slice ps h)
  simp only [List.getD_eq_getElem?_getD, List.getElem?_take, List.getElem?_drop] at e ⊢
  rw [if_pos (by simpa [List.getD_eq_getElem?_getD] using hk)] at e
  simpa using e
/-- Pieces at p with rooms: the pieces ps, and behind the last cut u -/
def PieV (σ : Hp) (p pr r : Nat) (ps : List (List Int32)) (u : List Int32) : Prop := kdH σ p = (1, 1) ∧ rfH σ p 0 = some (p + 1) ∧ rfH σ p 1 = some (p + 3) ∧ RowV σ (p + 1) r (ps.flatten ++ u) ∧ ∃ e, RowV σ (p + 3) pr e ∧ e.length = ps.length ∧ ∀ i, i < ps.length → e.getD i 0 = nI (sz ps (i + 1))
theorem PieV.keep {P : Nat → Prop} {σ τ : Hp} {p pr r : Nat} {ps : List (List Int32)} {u : List Int32} (h : PieV σ p pr r ps u) (hg : ag P σ τ) (h0 : ∀ q, P q → ¬ rg p 5 q) : PieV τ p pr r ps u := by
  obtain ⟨k0, k1, k2, k3, e, k4, k5, k6⟩ := h
  have hn : ∀ i, i < 5 → ¬ P (p + i) := fun i hi z => h0 _ z ⟨by omega, by omega⟩
  refine ⟨by rw [hg.2.1]; exact k0, by rw [(hg.2.2.1 p (hn 0 (by omega))).2]; exact k1, by rw [(hg.2.2.1 p (hn 0 (by omega))).2]; exact k2, k3.keep hg (hn 1 (by omega)) (hn 2 (by omega)), e, k4.keep hg (hn 3 (by omega)) (hn 4 (by omega)), k5, k6⟩
theorem PieV.b {σ : Hp} {p pr r : Nat} {ps : List (List Int32)} {u : List Int32} (h : PieV σ p pr r ps u) : ps.length ≤ pr ∧ pr < 100000 ∧ ps.flatten.length + u.length ≤ r ∧ r < 100000 := by
  obtain ⟨k0, k1, k2, k3, e, k4, k5, k6⟩ := h
  refine ⟨by rw [← k5]; exact k4.2.2.2.2.1, k4.2.2.2.2.2.1, ?_, k3.2.2.2.2.2.1⟩
  rw [← List.length_append]
  exact k3.2.2.2.2.1
theorem s_P_count {σ : Hp} {p pr r : Nat} {ps : List (List Int32)} {u : List Int32} (h : PieV σ p pr r ps u) : J_X1_count p σ = some (.inl (some (.int (nI ps.length))), σ) := by
  obtain ⟨k0, k1, k2, k3, e, k4, k5, k6⟩ := h
  unfold J_X1_count
  rw [jgR_ok k0, k2, jdr_ok, jcv_ok k4.1 (s_count k4), jvI_ok, k5]
theorem s_P_startOf {σ : Hp} {p pr r : Nat} {ps : List (List Int32)} {u : List Int32} (h : PieV σ p pr r ps u) {i : Nat} (hi : i ≤ ps.length) : J_X1_startOf p (nI i) σ = some (.inl (some (.int (nI (sz ps i)))), σ) := by
  have hb := h.b
  obtain ⟨k0, k1, k2, k3, e, k4, k5, k6⟩ := h
  unfold J_X1_startOf
  by_cases hz : i = 0
  · subst hz
    rw [if_pos (show nI 0 = 0 from nI_0), sz_0]
    rfl
  · obtain ⟨j, rfl⟩ : ∃ j, i = j + 1 := ⟨i - 1, by omega⟩
    rw [if_neg (nI_ne0 (by omega) (by omega)), jgR_ok k0, k2, jdr_ok, nI_pred, jcv_ok k4.1 (s_get' k4 (by omega)), jvI_ok, k6 j (by omega)]
theorem s_P_endOf {σ : Hp} {p pr r : Nat} {ps : List (List Int32)} {u : List Int32} (h : PieV σ p pr r ps u) {i : Nat} (hi : i < ps.length) : J_X1_endOf p (nI i) σ = some (.inl (some (.int (nI (sz ps (i + 1))))), σ) := by
  have hb := h.b
  obtain ⟨k0, k1, k2, k3, e, k4, k5, k6⟩ := h
  unfold J_X1_endOf
  rw [jgR_ok k0, k2, jdr_ok, jcv_ok k4.1 (s_get' k4 (by omega)), jvI_ok, k6 i (by omega)]
theorem s_P_sizeOf {σ : Hp} {p pr r : Nat} {ps : List (List Int32)} {u : List Int32} (h : PieV σ p pr r ps u) {i : Nat} (hi : i < ps.length) : J_X1_sizeOf p (nI i) σ = some (.inl (some (.int (nI (ps.getD i []).length))), σ) := by
  have hs := sz_succ ps i
  unfold J_X1_sizeOf
  rw [jcv_ok h.1 (s_P_endOf h hi), jvI_ok, jcv_ok h.1 (s_P_startOf h (Nat.le_of_lt hi)), jvI_ok, pk_sub (by omega), hs, Nat.add_sub_cancel_left]
theorem s_P_get {σ : Hp} {p pr r : Nat} {ps : List (List Int32)} {u : List Int32} (h : PieV σ p pr r ps u) {i k : Nat} (hi : i < ps.length) (hk : k < (ps.getD i []).length) : J_X1_get p (nI i) (nI k) σ = some (.inl (some (.int ((ps.getD i []).getD k 0))), σ) := by
  have hb := h.b
  have hs := sz_succ ps i
  have hs' := sz_le ps (i + 1)
  have hst := s_P_startOf h (Nat.le_of_lt hi)
  obtain ⟨k0, k1, k2, k3, e, k4, k5, k6⟩ := h
  unfold J_X1_get
  rw [jgR_ok k0, k1, jdr_ok, jcv_ok k0 hst, jvI_ok, nI_add, jcv_ok k3.1 (s_get' k3 (by omega)), jvI_ok, pc_get ps hi hk u]
theorem s_P_uncutSize {σ : Hp} {p pr r : Nat} {ps : List (List Int32)} {u : List Int32} (h : PieV σ p pr r ps u) : J_X1_uncutSize p σ = some (.inl (some (.int (nI u.length))), σ) := by
  have hst := s_P_startOf h (Nat.le_refl _)
  have hc := s_P_count h
  obtain ⟨k0, k1, k2, k3, e, k4, k5, k6⟩ := h
  unfold J_X1_uncutSize
  rw [jgR_ok k0, k1, jdr_ok, jcv_ok k3.1 (s_count k3), jvI_ok, jcv_ok k0 hc, jvI_ok, jcv_ok k0 hst, jvI_ok, sz_all ps (Nat.le_refl _), List.length_append, pk_sub (by omega), Nat.add_sub_cancel_left]
theorem s_P_uncut {σ : Hp} {p pr r : Nat} {ps : List (List Int32)} {u : List Int32} (h : PieV σ p pr r ps u) : J_X1_uncut p σ = some (.inl (some (.ref (p + 1))), σ) := by
  unfold J_X1_uncut
  rw [jgR_ok h.1, h.2.1, jdr_ok]
theorem s_P_add {σ : Hp} {p pr r : Nat} {ps : List (List Int32)} {u : List Int32} (h : PieV σ p pr r ps u) (hr : ps.flatten.length + u.length < r) (x : Int32) : ∃ τ, J_X1_add p x σ = some (.inl none, τ) ∧ PieV τ p pr r ps (u ++ [x]) ∧ ag (rg p 5) σ τ := by
  obtain ⟨k0, k1, k2, k3, e, k4, k5, k6⟩ := h
  obtain ⟨τ, j1, j2, j3⟩ := s_add k3 (by rw [List.length_append]; omega) x
  have hp : ¬ rw2 (p + 1) p := by unfold rw2; omega
  refine ⟨τ, ?_, ⟨by rw [j3.2.1]; exact k0, by rw [(j3.2.2.1 p hp).2]; exact k1, by rw [(j3.2.2.1 p hp).2]; exact k2, by rw [← List.append_assoc]; exact j2, e, k4.keep j3 (by unfold rw2; omega) (by unfold rw2; omega), k5, k6⟩, j3.up (rw2_rg (by omega) (by omega))⟩
  unfold J_X1_add
  rw [jgR_ok k0, k1, jdr_ok, jcv_ok k3.1 j1, jvV_ok]
/-- a cut: what stands behind the last one becomes a piece, if it is any -/
def cutP (ps : List (List Int32)) (u : List Int32) : List (List Int32) := if u = [] then ps else ps ++ [u]
theorem s_P_cut {σ : Hp} {p pr r : Nat} {ps : List (List Int32)} {u : List Int32} (h : PieV σ p pr r ps u) (hr : u ≠ [] → ps.length < pr) : ∃ τ, J_X1_cut p σ = some (.inl none, τ) ∧ PieV τ p pr r (cutP ps u) [] ∧ ag (rg p 5) σ τ := by
  have hb := h.b
  have hu := s_P_uncutSize h
  have hh := h
  obtain ⟨k0, k1, k2, k3, e, k4, k5, k6⟩ := h
  unfold J_X1_cut cutP
  rw [jcv_ok k0 hu, jvI_ok]
  by_cases hz : u = []
  · subst hz
    rw [if_pos (by exact nI_le (a := 0) (b := 0) (by omega) (by omega)), if_pos rfl]
    exact ⟨σ, rfl, hh, ag.rf⟩
  · have hl : 0 < u.length := List.length_pos_iff.mpr hz
    obtain ⟨τ, j1, j2, j3⟩ := s_add k4 (by have := hr hz; omega) (nI (ps.flatten ++ u).length)
    have hp : ¬ rw2 (p + 3) p := by unfold rw2; omega
    rw [if_neg (nI_nle hl (by omega)), if_neg hz, jgR_ok k0, jgR_ok k0, k1, k2, jdr_ok, jdr_ok, jcv_ok k3.1 (s_count k3), jvI_ok, jcv_ok k4.1 j1, jvV_ok]
    refine ⟨τ, rfl, ⟨by rw [j3.2.1]; exact k0, by rw [(j3.2.2.1 p hp).2]; exact k1, by rw [(j3.2.2.1 p hp).2]; exact k2, ?_, _, j2, ?_, fun i hi => ?_⟩, j3.up (rw2_rg (by omega) (by omega))⟩
    · rw [List.flatten_append, List.append_nil, List.flatten_cons, List.flatten_nil, List.append_nil]
      exact k3.keep j3 (by unfold rw2; omega) (by unfold rw2; omega)
    · rw [List.length_append, k5]
      simp
    · by_cases hi' : i < ps.length
      · rw [getD_app_l (by omega), k6 i hi', sz_app _ _ (by omega)]
      · have e' : i = e.length := by
          rw [List.length_append] at hi
          simp at hi
          omega
        subst e'
        rw [sz_all _ (by rw [List.length_append]; simp; omega)]
        simp [List.getD_eq_getElem?_getD]
theorem s_P_empty {σ : Hp} {p pr r : Nat} {ps : List (List Int32)} {u : List Int32} (h : PieV σ p pr r ps u) : ∃ τ, J_X1_empty p σ = some (.inl none, τ) ∧ PieV τ p pr r [] [] ∧ ag (rg p 5) σ τ := by
  obtain ⟨k0, k1, k2, k3, e, k4, k5, k6⟩ := h
  obtain ⟨τ, j1, j2, j3⟩ := s_empty k3
  obtain ⟨υ, i1, i2, i3⟩ := s_empty (k4.keep j3 (by unfold rw2; omega) (by unfold rw2; omega))
  have hp : ¬ rw2 (p + 3) p := by unfold rw2; omega
  have hp' : ¬ rw2 (p + 1) p := by unfold rw2; omega
  have z0 : kdH τ p = (1, 1) := by rw [j3.2.1]; exact k0
  have z2 : rfH τ p 1 = some (p + 3) := by rw [(j3.2.2.1 p hp').2]; exact k2
  refine ⟨υ, ?_, ⟨by rw [i3.2.1]; exact z0, by rw [(i3.2.2.1 p hp).2, (j3.2.2.1 p hp').2]; exact k1, by rw [(i3.2.2.1 p hp).2]; exact z2, j2.keep i3 (by unfold rw2; omega) (by unfold rw2; omega), [], i2, rfl, fun i hi => (Nat.not_lt_zero i hi).elim⟩, (j3.up (rw2_rg (by omega) (by omega))).tr (i3.up (rw2_rg (by omega) (by omega)))⟩
  unfold J_X1_empty
  rw [jgR_ok k0, k1, jdr_ok, jcv_ok k3.1 j1, jvV_ok, jgR_ok z0, z2, jdr_ok, jcv_ok (by rw [j3.2.1]; exact k4.1) i1, jvV_ok]
theorem s_P_takeOver {σ : Hp} {p pr r q pr' r' : Nat} {ps qs : List (List Int32)} {u v : List Int32} (h : PieV σ p pr r ps u) (h' : PieV σ q pr' r' qs v) (hd : ∀ z, rg p 5 z → ¬ rg q 5 z) (h1 : qs.length ≤ pr) (h2 : qs.flatten.length + v.length ≤ r) : ∃ τ, J_X1_takeOver p q σ = some (.inl none, τ) ∧ PieV τ p pr r qs v ∧ ag (rg p 5) σ τ := by
  have hr1 : ∀ z, rw2 (p + 1) z → rg p 5 z := rw2_rg (by omega) (by omega)
  have hr3 : ∀ z, rw2 (p + 3) z → rg p 5 z := rw2_rg (by omega) (by omega)
  have hq : ∀ i, i < 5 → ¬ rg p 5 (q + i) := fun i hi z => hd _ z ⟨by omega, by omega⟩
  obtain ⟨k0, k1, k2, k3, e, k4, k5, k6⟩ := h
  obtain ⟨g0, g1, g2, g3, e', g4, g5, g6⟩ := h'
  obtain ⟨τ, j1, j2, j3⟩ := s_takeOver k3 g3 (by rw [List.length_append]; exact h2) (fun z => hq 1 (by omega) (hr1 _ z)) (fun z => hq 2 (by omega) (hr1 _ z))
  obtain ⟨υ, i1, i2, i3⟩ := s_takeOver (k4.keep j3 (by unfold rw2; omega) (by unfold rw2; omega)) (g4.keep j3 (fun z => hq 3 (by omega) (hr1 _ z)) (fun z => hq 4 (by omega) (hr1 _ z))) (by rw [g5]; exact h1) (fun z => hq 3 (by omega) (hr3 _ z)) (fun z => hq 4 (by omega) (hr3 _ z))
  have hp : ¬ rw2 (p + 3) p := by unfold rw2; omega
  have hp' : ¬ rw2 (p + 1) p := by unfold rw2; omega
  have z0 : kdH τ p = (1, 1) := by rw [j3.2.1]; exact k0
  have z2 : rfH τ p 1 = some (p + 3) := by rw [(j3.2.2.1 p hp').2]; exact k2
  have y0 : kdH τ q = (1, 1) := by rw [j3.2.1]; exact g0
  have y2 : rfH τ q 1 = some (q + 3) := by rw [(j3.2.2.1 q (fun z => hq 0 (by omega) (hr1 _ z))).2]; exact g2
  refine ⟨υ, ?_, ⟨by rw [i3.2.1]; exact z0, by rw [(i3.2.2.1 p hp).2, (j3.2.2.1 p hp').2]; exact k1, by rw [(i3.2.2.1 p hp).2]; exact z2, j2.keep i3 (by unfold rw2; omega) (by unfold rw2; omega), e', i2, g5, g6⟩, (j3.up hr1).tr (i3.up hr3)⟩
  unfold J_X1_takeOver
  rw [jgR_ok k0, jgR_ok g0, k1, g1, jdr_ok, jdr_ok, jcv_ok k3.1 j1, jvV_ok, jgR_ok z0, jgR_ok y0, z2, y2, jdr_ok, jdr_ok, jcv_ok (by rw [j3.2.1]; exact k4.1) i1, jvV_ok]
theorem s_P_isSame_L {σ : Hp} {p pr r : Nat} {ps : List (List Int32)} {u : List Int32} (h : PieV σ p pr r ps u) {q rq : Nat} {l : List Int32} (hq : RowV σ q rq l) {s t o n : Nat} {A B : List Int32} (hn : t = s + n) (hA : A.length = n) (hB : B.length = n) (hs : ∀ k, k < n → (ps.flatten ++ u).getD (o + k) 0 = A.getD k 0) (hl : ∀ k, k < n → l.getD (s + k) 0 = B.getD k 0) (ho : o + n < 2 ^ 30) (hh : s + n < 2 ^ 30) : ∀ (d m k : Nat), n - k = d → k ≤ n → d < m → J_X1_isSame_L30 m p q (nI s) (nI t) (nI o) (nI k) σ = some (.inl (some (.int (bI (decide (A.drop k = B.drop k))))), σ) := by
  have hd : nI t - nI s = nI n := by rw [hn, pk_sub (by omega), Nat.add_sub_cancel_left]
  obtain ⟨k0, k1, k2, k3, e, k4, k5, k6⟩ := h
  intro d
  induction d with
  | zero =>
    intro m k hk hk' hm
    obtain ⟨m, rfl⟩ : ∃ z, m = z + 1 := ⟨m - 1, by omega⟩
    show J_X1_isSame_L30b (J_X1_isSame_L30 m) p q (nI s) (nI t) (nI o) (nI k) σ = _
    unfold J_X1_isSame_L30b
    rw [hd, if_pos (nI_le (by omega) (by omega)), jrt_1, List.drop_of_length_le (by omega), List.drop_of_length_le (by omega)]
    rfl
  | succ d ih =>
    intro m k hk hk' hm
    obtain ⟨m, rfl⟩ : ∃ z, m = z + 1 := ⟨m - 1, by omega⟩
    show J_X1_isSame_L30b (J_X1_isSame_L30 m) p q (nI s) (nI t) (nI o) (nI k) σ = _
    unfold J_X1_isSame_L30b
    rw [hd, if_neg (nI_ge (by omega) (by omega)), jgR_ok k0, k1, jdr_ok, nI_add, jcv_ok k3.1 (s_get' k3 (by omega)), jvI_ok, nI_add, jcv_ok hq.1 (s_get' hq (by omega)), jvI_ok, hs k (by omega), hl k (by omega), drop_cons (l := A) (by omega), drop_cons (l := B) (by omega)]
    by_cases e : A.getD k 0 = B.getD k 0
    · rw [if_pos e, nI_1, ih m (k + 1) (by omega) (by omega) (by omega), e]
      simp
    · rw [if_neg e, jrt_0, decide_eq_false (fun z => e (List.cons.inj z).1)]
      rfl
theorem slice_get {l : List Int32} {s n k : Nat} (hk : k < n) : ((l.drop s).take n).getD k 0 = l.getD (s + k) 0 := by
  simp [List.getD_eq_getElem?_getD, List.getElem?_take, hk]
/-- a part of a row -/
def slc {α : Type} (l : List α) (s t : Nat) : List α := (l.drop s).take (t - s)
theorem slc_len {α : Type} {l : List α} {s t : Nat} (h : s ≤ t) (ht : t ≤ l.length) : (slc l s t).length = t - s := by
  unfold slc
  rw [List.length_take, List.length_drop]
  omega
theorem s_P_isSame {σ : Hp} {p pr r : Nat} {ps : List (List Int32)} {u : List Int32} (h : PieV σ p pr r ps u) {q rq : Nat} {l : List Int32} (hq : RowV σ q rq l) {i s t : Nat} (hi : i < ps.length) (hst : s ≤ t) (ht : t ≤ l.length) : J_X1_isSame p (nI i) q (nI s) (nI t) σ = some (.inl (some (.int (bI (decide (ps.getD i [] = slc l s t))))), σ) := by
  have hh := h
  have hb := h.b
  have hs := sz_succ ps i
  have hs' := sz_le ps (i + 1)
  have hqr := hq.2.2.2.2.2.1
  have hql := hq.2.2.2.2.1
  have hsl := slc_len hst ht
  obtain ⟨k0, k1, k2, k3, e, k4, k5, k6⟩ := h
  unfold J_X1_isSame
  rw [jcv_ok k0 (s_P_startOf hh (Nat.le_of_lt hi)), jvI_ok, jgR_ok k0, k2, jdr_ok, jcv_ok k4.1 (s_get' k4 (by omega)), jvI_ok, k6 i hi, pk_sub (by omega), pk_sub hst]
  by_cases e : sz ps (i + 1) - sz ps i = t - s
  · rw [if_pos (by rw [e])]
    exact s_P_isSame_L hh hq (A := ps.getD i []) (B := slc l s t) (n := t - s) (by omega) (by omega) hsl (fun k hk => pc_get ps hi (by omega) u) (fun k hk => (slice_get hk).symm) (by omega) (by omega) (t - s) jN 0 rfl (Nat.zero_le _) (by unfold jN; omega)
  · rw [if_neg (fun z => e ((nI_eq (by omega) (by omega)).mp z)), jrt_0]
    have : ps.getD i [] ≠ slc l s t := fun z => by
      rw [← z] at hsl
      omega
    rw [decide_eq_false this]
    rfl
theorem fl_slc (ps : List (List Int32)) {i : Nat} (h : i < ps.length) (u : List Int32) : slc (ps.flatten ++ u) (sz ps i) (sz ps (i + 1)) = ps.getD i [] := by
  have h1 := sz_succ ps i
  have h2 := sz_le ps (i + 1)
  unfold slc
  rw [show sz ps (i + 1) - sz ps i = (ps.getD i []).length by omega, List.drop_append_of_le_length (by omega), List.take_append_of_le_length (by rw [List.length_drop]; omega)]
  exact pc_slice ps h
/-- both have an i-th piece, and these are the same -/
def shr (ps qs : List (List Int32)) (i : Nat) : Bool := decide (i < ps.length ∧ i < qs.length ∧ ps.getD i [] = qs.getD i [])
theorem s_P_shares {σ : Hp} {p pr r q pr' r' : Nat} {ps qs : List (List Int32)} {u v : List Int32} (h : PieV σ p pr r ps u) (h' : PieV σ q pr' r' qs v) {i : Nat} (hi : i < 2 ^ 31) : J_X1_shares p (nI i) q σ = some (.inl (some (.int (bI (shr ps qs i)))), σ) := by
  have hb := h.b
  have hb' := h'.b
  unfold J_X1_shares shr
  rw [jcv_ok h.1 (s_P_count h), jvI_ok]
  by_cases h1 : i < ps.length
  · rw [if_neg (nI_ge h1 (by omega)), jcv_ok h'.1 (s_P_count h'), jvI_ok]
    by_cases h2 : i < qs.length
    · have hs := sz_le qs (i + 1)
      have hm := sz_succ qs i
      rw [if_neg (nI_ge h2 (by omega)), jgR_ok h'.1, h'.2.1, jdr_ok, jcv_ok h'.1 (s_P_startOf h' (Nat.le_of_lt h2)), jvI_ok, jcv_ok h'.1 (s_P_endOf h' h2), jvI_ok, jcv_ok h.1 (s_P_isSame h h'.2.2.2.1 h1 (by omega) (by rw [List.length_append]; omega)), jvI_ok, fl_slc qs h2 v]
      by_cases e : ps.getD i [] = qs.getD i []
      · rw [decide_eq_true e, decide_eq_true ⟨h1, h2, e⟩, if_neg (by decide), jrt_1]
        rfl
      · rw [decide_eq_false e, decide_eq_false (fun z => e z.2.2), if_pos (by decide), jrt_0]
        rfl
    · rw [if_pos (nI_le (by omega) (by omega)), jrt_0, decide_eq_false (fun z => h2 z.2.1)]
      rfl
  · rw [if_pos (nI_le (by omega) (by omega)), jrt_0, decide_eq_false (fun z => h1 z.1)]
    rfl
theorem del_flat (ps : List (List Int32)) {i : Nat} (h : i < ps.length) (u : List Int32) : (del ps i).flatten ++ u = (ps.flatten ++ u).take (sz ps i) ++ (ps.flatten ++ u).drop (sz ps (i + 1)) := by
  have h1 := sz_le ps i
  have h2 := sz_le ps (i + 1)
  unfold del
  rw [List.flatten_append, List.take_append_of_le_length h1, List.drop_append_of_le_length h2, List.append_assoc]
  congr 1
  · rw [sz_split ps i]
    unfold sz
    rw [List.take_left]
  · congr 1
    rw [sz_split ps (i + 1)]
    unfold sz
    rw [List.drop_left]
theorem sz_del (ps : List (List Int32)) {i : Nat} (h : i < ps.length) (j : Nat) : sz (del ps i) j = if j ≤ i then sz ps j else sz ps (j + 1) - (ps.getD i []).length := by
  have ht : (ps.take i).length = i := by rw [List.length_take]; omega
  by_cases hj : j ≤ i
  · rw [if_pos hj]
    unfold del
    rw [sz_app _ _ (by omega)]
    unfold sz
    rw [List.take_take, Nat.min_eq_left hj]
  · rw [if_neg hj]
    obtain ⟨d, rfl⟩ : ∃ d, j = i + d := ⟨j - i, by omega⟩
    have e1 : (del ps i).take (i + d) = ps.take i ++ (ps.drop (i + 1)).take d := by
      unfold del
      rw [List.take_append, ht, Nat.add_sub_cancel_left, List.take_of_length_le (by omega)]
    have e2 : ps.take (i + d + 1) = ps.take i ++ (ps.getD i [] :: (ps.drop (i + 1)).take d) := by
      rw [show i + d + 1 = i + (d + 1) by omega, List.take_add, List.drop_eq_getElem_cons h, List.take_succ_cons]
      simp [List.getD_eq_getElem?_getD, h]
    unfold sz
    rw [e1, e2]
    simp only [List.flatten_append, List.flatten_cons, List.length_append]
    omega
theorem s_P_drop_L2 {p pr : Nat} {w : Nat} (hw : w < 2 ^ 30) : ∀ (d m k : Nat) (σ : Hp) (e : List Int32), kdH σ p = (1, 1) → rfH σ p 1 = some (p + 3) → RowV σ (p + 3) pr e → e.length - k = d → k ≤ e.length → d < m → ∃ τ e', J_X1_drop_L46 m p (nI w) (nI k) σ = some (.inl none, τ) ∧ RowV τ (p + 3) pr e' ∧ e'.length = e.length ∧ (∀ j, j < e.length → e'.getD j 0 = if k ≤ j then e.getD j 0 - nI w else e.getD j 0) ∧ ag (rw2 (p + 3)) σ τ := by
  intro d
  induction d with
  | zero =>
    intro m k σ e k0 k2 k4 hk hk' hm
    obtain ⟨m, rfl⟩ : ∃ z, m = z + 1 := ⟨m - 1, by omega⟩
    have hr := k4.2.2.2.2.2.1
    have h4 := k4.2.2.2.2.1
    refine ⟨σ, e, ?_, k4, rfl, fun j hj => by rw [if_neg (by omega)], ag.rf⟩
    show J_X1_drop_L46b (J_X1_drop_L46 m) p (nI w) (nI k) σ = _
    unfold J_X1_drop_L46b
    rw [jgR_ok k0, k2, jdr_ok, jcv_ok k4.1 (s_count k4), jvI_ok, if_pos (nI_le (by omega) (by omega))]
  | succ d ih =>
    intro m k σ e k0 k2 k4 hk hk' hm
    obtain ⟨m, rfl⟩ : ∃ z, m = z + 1 := ⟨m - 1, by omega⟩
    have hr := k4.2.2.2.2.2.1
    have h4 := k4.2.2.2.2.1
    obtain ⟨τ, j1, j2, j3⟩ := s_set k4 (j := k) (by omega) (e.getD k 0 - nI w)
    have hp : ¬ rw2 (p + 3) p := by unfold rw2; omega
    obtain ⟨υ, e', i1, i2, i3, i4, i5⟩ := ih m (k + 1) τ _ (by rw [j3.2.1]; exact k0) (by rw [(j3.2.2.1 p hp).2]; exact k2) j2 (by rw [List.length_set]; omega) (by rw [List.length_set]; omega) (by omega)
    rw [List.length_set] at i3 i4
    refine ⟨υ, e', ?_, i2, i3, fun j hj => ?_, j3.tr i5⟩
    · show J_X1_drop_L46b (J_X1_drop_L46 m) p (nI w) (nI k) σ = _
      unfold J_X1_drop_L46b
      rw [jgR_ok k0, k2, jdr_ok, jcv_ok k4.1 (s_count k4), jvI_ok, if_neg (nI_ge (by omega) (by omega)), jgR_ok k0, jgR_ok k0, k2, jdr_ok, jdr_ok, jcv_ok k4.1 (s_get' k4 (by omega)), jvI_ok, jcv_ok k4.1 j1, jvV_ok, nI_1]
      exact i1
    · rw [i4 j hj, getD_set (by omega)]
      by_cases h1 : j = k
      · subst h1
        rw [if_neg (by omega), if_pos rfl, if_pos (by omega)]
      · rw [if_neg h1]
        by_cases h2 : k ≤ j
        · rw [if_pos (by omega), if_pos h2]
        · rw [if_neg (by omega), if_neg h2]
theorem s_P_drop_L1 {p r i s w : Nat} {l : List Int32} (hl : s + w ≤ l.length) (hwb : w < 2 ^ 30) (Q : Hp → jR) (hQ : ∀ (σ : Hp) (m : Nat), J_X1_drop_L15 (m + 1) p (nI i) (nI s) (nI w) (nI w) σ = Q σ) : ∀ (d m k : Nat) (σ : Hp), kdH σ p = (1, 1) → rfH σ p 0 = some (p + 1) → RowV σ (p + 1) r (l.take s ++ l.drop (s + k)) → w - k = d → k ≤ w → d < m → ∃ τ, J_X1_drop_L15 m p (nI i) (nI s) (nI w) (nI k) σ = Q τ ∧ RowV τ (p + 1) r (l.take s ++ l.drop (s + w)) ∧ ag (rw2 (p + 1)) σ τ := by
  intro d
  induction d with
  | zero =>
    intro m k σ k0 k1 k3 hk hk' hm
    obtain ⟨m, rfl⟩ : ∃ z, m = z + 1 := ⟨m - 1, by omega⟩
    have e : k = w := by omega
    subst e
    exact ⟨σ, hQ σ m, k3, ag.rf⟩
  | succ d ih =>
    intro m k σ k0 k1 k3 hk hk' hm
    obtain ⟨m, rfl⟩ : ∃ z, m = z + 1 := ⟨m - 1, by omega⟩
    have hr := k3.2.2.2.2.2.1
    have h4 := k3.2.2.2.2.1
    have hlen : (l.take s ++ l.drop (s + k)).length = l.length - k := by
      rw [List.length_append, List.length_take, List.length_drop]; omega
    obtain ⟨τ, j1, j2, j3⟩ := s_remove k3 (j := s) (by omega)
    have hp : ¬ rw2 (p + 1) p := by unfold rw2; omega
    have e : del (l.take s ++ l.drop (s + k)) s = l.take s ++ l.drop (s + (k + 1)) := by
      have ht : (l.take s).length = s := by rw [List.length_take]; omega
      unfold del
      rw [List.take_append_of_le_length (by omega), List.take_take, Nat.min_self, List.drop_append, ht, List.drop_of_length_le (by omega), List.nil_append, List.drop_drop, show s + k + (s + 1 - s) = s + (k + 1) by omega]
    rw [e] at j2
    obtain ⟨υ, i1, i2, i3⟩ := ih m (k + 1) τ (by rw [j3.2.1]; exact k0) (by rw [(j3.2.2.1 p hp).2]; exact k1) j2 (by omega) (by omega) (by omega)
    refine ⟨υ, ?_, i2, j3.tr i3⟩
    show J_X1_drop_L15b (J_X1_drop_L15 m) p (nI i) (nI s) (nI w) (nI k) σ = _
    unfold J_X1_drop_L15b
    rw [if_neg (nI_ge (by omega) (by omega)), jgR_ok k0, k1, jdr_ok, jcv_ok k3.1 j1, jvV_ok, nI_1]
    exact i1
theorem s_P_drop {σ : Hp} {p pr r : Nat} {ps : List (List Int32)} {u : List Int32} (h : PieV σ p pr r ps u) {i : Nat} (hi : i < ps.length) : ∃ τ, J_X1_drop p (nI i) σ = some (.inl none, τ) ∧ PieV τ p pr r (del ps i) u ∧ ag (rg p 5) σ τ := by
  have hh := h
  have hb := h.b
  have hs := sz_succ ps i
  have hs' := sz_le ps (i + 1)
  have hst := s_P_startOf h (Nat.le_of_lt hi)
  have hsz := s_P_sizeOf h hi
  obtain ⟨k0, k1, k2, k3, e, k4, k5, k6⟩ := h
  have hp1 : ¬ rw2 (p + 1) p := by unfold rw2; omega
  have hp3 : ¬ rw2 (p + 3) p := by unfold rw2; omega
  obtain ⟨τ, j1, j2, j3⟩ := s_P_drop_L1 (p := p) (r := r) (i := i) (s := sz ps i) (w := (ps.getD i []).length) (l := ps.flatten ++ u) (by rw [List.length_append]; omega) (by omega) (fun τ => J_X1_drop_L15b (fun _ _ _ _ _ _ => none) p (nI i) (nI (sz ps i)) (nI (ps.getD i []).length) (nI (ps.getD i []).length) τ)
    (fun σ m => by
      show J_X1_drop_L15b (J_X1_drop_L15 m) p (nI i) (nI (sz ps i)) (nI (ps.getD i []).length) (nI (ps.getD i []).length) σ = _
      unfold J_X1_drop_L15b
      rw [if_pos (nI_le (Nat.le_refl _) (by omega)), if_pos (nI_le (Nat.le_refl _) (by omega))])
    (ps.getD i []).length jN 0 σ k0 k1 (by rw [Nat.add_zero (sz ps i), List.take_append_drop]; exact k3) rfl (Nat.zero_le _) (by unfold jN; omega)
  have t0 : kdH τ p = (1, 1) := by rw [j3.2.1]; exact k0
  have t2 : rfH τ p 1 = some (p + 3) := by rw [(j3.2.2.1 p hp1).2]; exact k2
  have t4 := k4.keep j3 (by unfold rw2; omega) (by unfold rw2; omega)
  obtain ⟨υ, i1, i2, i3⟩ := s_remove t4 (j := i) (by omega)
  have u0 : kdH υ p = (1, 1) := by rw [i3.2.1]; exact t0
  have u2 : rfH υ p 1 = some (p + 3) := by rw [(i3.2.2.1 p hp3).2]; exact t2
  have hdl : (del e i).length = ps.length - 1 := by rw [del_len (by omega), k5]
  obtain ⟨φ, e', f1, f2, f3, f4, f5⟩ := s_P_drop_L2 (p := p) (pr := pr) (w := (ps.getD i []).length) (by omega) ((del e i).length - i) jN i υ (del e i) u0 u2 i2 rfl (by omega) (by unfold jN; omega)
  refine ⟨φ, ?_, ⟨by rw [f5.2.1]; exact u0, by rw [(f5.2.2.1 p hp3).2, (i3.2.2.1 p hp3).2, (j3.2.2.1 p hp1).2]; exact k1, by rw [(f5.2.2.1 p hp3).2]; exact u2, ?_, e', f2, by rw [f3, hdl, del_len hi], fun j hj => ?_⟩, ((j3.up (rw2_rg (by omega) (by omega))).tr (i3.up (rw2_rg (by omega) (by omega)))).tr (f5.up (rw2_rg (by omega) (by omega)))⟩
  · unfold J_X1_drop
    rw [jcv_ok k0 hst, jvI_ok, jcv_ok k0 hsz, jvI_ok]
    refine Eq.trans j1 ?_
    show J_X1_drop_L15b (fun _ _ _ _ _ _ => none) p (nI i) (nI (sz ps i)) (nI (ps.getD i []).length) (nI (ps.getD i []).length) τ = _
    unfold J_X1_drop_L15b
    rw [if_pos (nI_le (Nat.le_refl _) (by omega)), jgR_ok t0, t2, jdr_ok, jcv_ok t4.1 i1, jvV_ok]
    exact f1
  · rw [del_flat ps hi u]
    rw [← hs] at j2
    exact (j2.keep i3 (by unfold rw2; omega) (by unfold rw2; omega)).keep f5 (by unfold rw2; omega) (by unfold rw2; omega)
  · rw [del_len hi] at hj
    rw [f4 j (by omega), del_get (by omega), sz_del ps hi]
    by_cases h1 : j < i
    · rw [if_neg (by omega), if_pos h1, if_pos (by omega), k6 j (by omega)]
    · have := sz_mono ps (show i + 1 ≤ j + 1 + 1 by omega)
      rw [if_pos (by omega), if_neg h1, if_neg (by omega), k6 (j + 1) (by omega), pk_sub (by omega)]
