/-! THE PURE PART. Heap values: reads of writes, what stays, and rows of numbers (the class's Row). -/
theorem kd_inS (σ : Hp) (a k : Nat) (v : Int32) : kdH (inS σ a k v) = kdH σ := rfl
theorem kd_rfS (σ : Hp) (a k : Nat) (v : Option Nat) : kdH (rfS σ a k v) = kdH σ := rfl
theorem kd_lgS (σ : Hp) (a k : Nat) (v : Int64) : kdH (lgS σ a k v) = kdH σ := rfl
theorem kd_dbS (σ : Hp) (a k : Nat) (v : UInt64) : kdH (dbS σ a k v) = kdH σ := rfl
theorem kd_cpS (σ : Hp) (a i j k : Nat) : kdH (cpS σ a i j k) = kdH σ := rfl
theorem rf_inS (σ : Hp) (a k : Nat) (v : Int32) : rfH (inS σ a k v) = rfH σ := rfl
theorem rf_cpS (σ : Hp) (a i j k : Nat) : rfH (cpS σ a i j k) = rfH σ := rfl
theorem in_rfS (σ : Hp) (a k : Nat) (v : Option Nat) : inH (rfS σ a k v) = inH σ := rfl
theorem in_inS (σ : Hp) (a k : Nat) (v : Int32) (x y : Nat) : inH (inS σ a k v) x y = if x = a ∧ y = k then v else inH σ x y := rfl
theorem rf_rfS (σ : Hp) (a k : Nat) (v : Option Nat) (x y : Nat) : rfH (rfS σ a k v) x y = if x = a ∧ y = k then v else rfH σ x y := rfl
theorem in_cpS (σ : Hp) (a i j k : Nat) (x : Nat) : inH (cpS σ a i j k) x = if x = a then va_cpy (inH σ a) (inH σ a) i j k else inH σ x := rfl
theorem jgI_ok {σ : Hp} {a ci f : Nat} {K : Int32 → jR} (h : kdH σ a = (1, ci)) : jgI σ a ci f K = K (inH σ a f) := if_pos h
theorem jgR_ok {σ : Hp} {a ci f : Nat} {K : Option Nat → jR} (h : kdH σ a = (1, ci)) : jgR σ a ci f K = K (rfH σ a f) := if_pos h
theorem jpI_ok {σ : Hp} {a ci f : Nat} {v : Int32} {K : Hp → jR} (h : kdH σ a = (1, ci)) : jpI σ a ci f v K = K (inS σ a f v) := if_pos h
theorem jpR_ok {σ : Hp} {a ci f : Nat} {v : Option Nat} {K : Hp → jR} (h : kdH σ a = (1, ci)) : jpR σ a ci f v K = K (rfS σ a f v) := if_pos h
theorem jdr_ok {a : Nat} {K : Nat → jR} : jdr (some a) K = K a := rfl
theorem jal_ok {σ : Hp} {a t r : Nat} {K : Int32 → jR} (h : kdH σ a = (t, r)) : jal σ a t K = K (nI r) := by unfold jal; rw [h]; exact if_pos rfl
theorem ix_ok {j r : Nat} (h : j < r) (hr : r < 100000) : ¬ (nI j < 0 ∨ r ≤ (nI j).toNatClampNeg) := nI_in h (by omega)
theorem jaI_ok {σ : Hp} {a r j : Nat} {K : Int32 → jR} (h : kdH σ a = (2, r)) (hj : j < r) (hr : r < 100000) : jaI σ a (nI j) K = K (inH σ a j) := by
  unfold jaI
  rw [h, if_pos ⟨rfl, ix_ok hj hr⟩, nI_clamp (by omega)]
theorem jsI_ok {σ : Hp} {a r j : Nat} {v : Int32} {K : Hp → jR} (h : kdH σ a = (2, r)) (hj : j < r) (hr : r < 100000) : jsI σ a (nI j) v K = K (inS σ a j v) := by
  unfold jsI
  rw [h, if_pos ⟨rfl, ix_ok hj hr⟩, nI_clamp (by omega)]
theorem jcv_ok {σ τ : Hp} {a ci : Nat} {J : jR} {v : Option Value} {K : Option Value → Hp → jR} {KX : String → Hp → jR} (h : kdH σ a = (1, ci)) (hJ : J = some (.inl v, τ)) : jcv σ a ci J K KX = K v τ := by
  unfold jcv
  rw [if_pos h, hJ]
theorem jcs_ok {τ : Hp} {J : jR} {v : Option Value} {K : Option Value → Hp → jR} {KX : String → Hp → jR} (hJ : J = some (.inl v, τ)) : jcs J K KX = K v τ := by
  unfold jcs
  rw [hJ]
theorem jcv_x {σ τ : Hp} {a ci : Nat} {J : jR} {E : String} {K : Option Value → Hp → jR} {KX : String → Hp → jR} (h : kdH σ a = (1, ci)) (hJ : J = some (.inr E, τ)) : jcv σ a ci J K KX = KX E τ := by
  unfold jcv
  rw [if_pos h, hJ]
theorem jcs_x {τ : Hp} {J : jR} {E : String} {K : Option Value → Hp → jR} {KX : String → Hp → jR} (hJ : J = some (.inr E, τ)) : jcs J K KX = KX E τ := by
  unfold jcs
  rw [hJ]
theorem jvI_ok {r : Int32} {K : Int32 → jR} : jvI (some (.int r)) K = K r := rfl
theorem jvV_ok {K : jR} : jvV none K = K := rfl
theorem jvA_ok {a : Nat} {K : Nat → jR} : jvA (some (.ref a)) K = K a := rfl
theorem jrt_0 {σ : Hp} : jrt .boolean 0 σ = some (.inl (some (.int 0)), σ) := rfl
theorem jrt_1 {σ : Hp} : jrt .boolean 1 σ = some (.inl (some (.int 1)), σ) := rfl
/-- a truth as an int -/
def bI (c : Bool) : Int32 := if c = true then 1 else 0
/-- what a step leaves as it was: all cells but those of P -/
def ag (P : Nat → Prop) (σ τ : Hp) : Prop := tpH σ ≤ tpH τ ∧ kdH τ = kdH σ ∧ (∀ q, ¬ P q → inH τ q = inH σ q ∧ rfH τ q = rfH σ q) ∧ lgH τ = lgH σ ∧ dbH τ = dbH σ
theorem ag.rf {P : Nat → Prop} {σ : Hp} : ag P σ σ := ⟨Nat.le_refl _, rfl, fun _ _ => ⟨rfl, rfl⟩, rfl, rfl⟩
theorem ag.tr {P : Nat → Prop} {σ τ υ : Hp} (h : ag P σ τ) (h' : ag P τ υ) : ag P σ υ :=
  ⟨Nat.le_trans h.1 h'.1, h'.2.1.trans h.2.1, fun q hq => ⟨(h'.2.2.1 q hq).1.trans (h.2.2.1 q hq).1, (h'.2.2.1 q hq).2.trans (h.2.2.1 q hq).2⟩, h'.2.2.2.1.trans h.2.2.2.1, h'.2.2.2.2.trans h.2.2.2.2⟩
theorem ag.up {P P' : Nat → Prop} {σ τ : Hp} (h : ag P σ τ) (hP : ∀ q, P q → P' q) : ag P' σ τ := ⟨h.1, h.2.1, fun q hq => h.2.2.1 q (fun z => hq (hP q z)), h.2.2.2⟩
theorem ag_inS {P : Nat → Prop} (σ : Hp) {a : Nat} (k : Nat) (v : Int32) (ha : P a) : ag P σ (inS σ a k v) := by
  refine ⟨Nat.le_refl _, rfl, fun q hq => ⟨?_, rfl⟩, rfl, rfl⟩
  have : q ≠ a := fun e => hq (e ▸ ha)
  funext y
  rw [in_inS, if_neg (fun z => this z.1)]
theorem ag_rfS {P : Nat → Prop} (σ : Hp) {a : Nat} (k : Nat) (v : Option Nat) (ha : P a) : ag P σ (rfS σ a k v) := by
  refine ⟨Nat.le_refl _, rfl, fun q hq => ⟨rfl, ?_⟩, rfl, rfl⟩
  have : q ≠ a := fun e => hq (e ▸ ha)
  funext y
  rw [rf_rfS, if_neg (fun z => this z.1)]
theorem ag_cpS {P : Nat → Prop} (σ : Hp) {a : Nat} (i j k : Nat) (ha : P a) : ag P σ (cpS σ a i j k) := by
  refine ⟨Nat.le_refl _, rfl, fun q hq => ⟨?_, rfl⟩, rfl, rfl⟩
  have : q ≠ a := fun e => hq (e ▸ ha)
  rw [in_cpS, if_neg this]
/-- two cells from a on -/
def rw2 (a : Nat) : Nat → Prop := fun q => q = a ∨ q = a + 1
/-- a Row at a, its numbers at a + 1: of r places, l of them in use -/
def RowV (σ : Hp) (a r : Nat) (l : List Int32) : Prop := kdH σ a = (1, 2) ∧ rfH σ a 0 = some (a + 1) ∧ inH σ a 1 = nI l.length ∧ kdH σ (a + 1) = (2, r) ∧ l.length ≤ r ∧ r < 100000 ∧ ∀ i, i < l.length → inH σ (a + 1) i = l.getD i 0
theorem RowV.keep {P : Nat → Prop} {σ τ : Hp} {a r : Nat} {l : List Int32} (h : RowV σ a r l) (hg : ag P σ τ) (h0 : ¬ P a) (h1 : ¬ P (a + 1)) : RowV τ a r l := by
  obtain ⟨k0, k1, k2, k3, k4, k5, k6⟩ := h
  refine ⟨by rw [hg.2.1]; exact k0, by rw [(hg.2.2.1 a h0).2]; exact k1, by rw [(hg.2.2.1 a h0).1]; exact k2, by rw [hg.2.1]; exact k3, k4, k5, fun i hi => ?_⟩
  rw [(hg.2.2.1 (a + 1) h1).1]
  exact k6 i hi
theorem getD_app_l {l m : List Int32} {i : Nat} (h : i < l.length) : (l ++ m).getD i 0 = l.getD i 0 := by
  simp [List.getD_eq_getElem?_getD, List.getElem?_append_left h]
theorem s_count {σ : Hp} {a r : Nat} {l : List Int32} (h : RowV σ a r l) : J_X2_count a σ = some (.inl (some (.int (nI l.length))), σ) := by
  unfold J_X2_count
  rw [jgI_ok h.1, h.2.2.1]
theorem s_isFull {σ : Hp} {a r : Nat} {l : List Int32} (h : RowV σ a r l) : J_X2_isFull a σ = some (.inl (some (.int (bI (decide (r ≤ l.length))))), σ) := by
  obtain ⟨k0, k1, k2, k3, k4, k5, k6⟩ := h
  unfold J_X2_isFull
  rw [jgI_ok k0, jgR_ok k0, k1, jdr_ok, jal_ok k3, k2]
  by_cases hl : l.length < r
  · rw [if_pos (nI_lt hl (by omega)), jrt_0]
    simp [bI, Nat.not_le.mpr hl]
  · rw [if_neg (nI_nlt (by omega) (by omega)), jrt_1]
    simp [bI, Nat.not_lt.mp hl]
theorem s_add {σ : Hp} {a r : Nat} {l : List Int32} (h : RowV σ a r l) (hl : l.length < r) (x : Int32) : ∃ τ, J_X2_add a x σ = some (.inl none, τ) ∧ RowV τ a r (l ++ [x]) ∧ ag (rw2 a) σ τ := by
  obtain ⟨k0, k1, k2, k3, k4, k5, k6⟩ := h
  refine ⟨inS (inS σ (a + 1) l.length x) a 1 (nI l.length + 1), ?_, ?_, (ag_inS _ _ _ (Or.inr rfl)).tr (ag_inS _ _ _ (Or.inl rfl))⟩
  · unfold J_X2_add
    rw [jgI_ok k0, jgR_ok k0, k1, jdr_ok, jal_ok k3, k2, if_neg (nI_ge hl (by omega)), jgR_ok k0, jgI_ok k0, k1, jdr_ok, k2, jsI_ok k3 hl k5, jgI_ok (by rw [kd_inS]; exact k0), in_inS, if_neg (by omega), k2, jpI_ok (by rw [kd_inS]; exact k0)]
  · refine ⟨k0, k1, ?_, k3, by simp; omega, k5, fun i hi => ?_⟩
    · rw [in_inS, if_pos ⟨rfl, rfl⟩, nI_1]
      simp
    · rw [in_inS, if_neg (by omega), in_inS]
      by_cases e : i = l.length
      · subst e
        rw [if_pos ⟨rfl, rfl⟩]
        simp [List.getD_eq_getElem?_getD]
      · simp only [List.length_append, List.length_cons, List.length_nil] at hi
        rw [if_neg (fun z => e z.2), k6 i (by omega), getD_app_l (by omega)]
/-- the number at a place, beside the row 0 -/
def rget (l : List Int32) (i : Int32) : Int32 := if i < 0 then 0 else l.getD i.toNatClampNeg 0
theorem rget_nI {l : List Int32} {j : Nat} (h : j < 2 ^ 31) : rget l (nI j) = l.getD j 0 := by
  unfold rget
  rw [if_neg (nI_pos h), nI_clamp h]
theorem s_get {σ : Hp} {a r : Nat} {l : List Int32} (h : RowV σ a r l) (i : Int32) : J_X2_get a i σ = some (.inl (some (.int (rget l i))), σ) := by
  obtain ⟨k0, k1, k2, k3, k4, k5, k6⟩ := h
  unfold J_X2_get rget
  by_cases hi : i < 0
  · rw [if_pos hi, if_pos hi]
  · rw [if_neg hi, if_neg hi]
    obtain ⟨j, hj, rfl⟩ := nI_of hi
    rw [jgI_ok k0, k2]
    by_cases hl : j < l.length
    · rw [if_pos (nI_lt hl (by omega)), jgR_ok k0, k1, jdr_ok, jaI_ok k3 (by omega) k5, k6 j hl, nI_clamp hj]
    · rw [if_neg (nI_nlt (by omega) hj), nI_clamp hj]
      simp [List.getD_eq_getElem?_getD, List.getElem?_eq_none (Nat.not_lt.mp hl)]
theorem s_get' {σ : Hp} {a r : Nat} {l : List Int32} (h : RowV σ a r l) {j : Nat} (hj : j < 2 ^ 31) : J_X2_get a (nI j) σ = some (.inl (some (.int (l.getD j 0))), σ) := by
  rw [s_get h, rget_nI hj]
theorem getD_set {l : List Int32} {i j : Nat} {x : Int32} (hj : j < l.length) : (l.set j x).getD i 0 = if i = j then x else l.getD i 0 := by
  simp only [List.getD_eq_getElem?_getD, List.getElem?_set]
  by_cases e : i = j
  · subst e
    simp [hj]
  · simp [e, Ne.symm e]
theorem s_set {σ : Hp} {a r : Nat} {l : List Int32} (h : RowV σ a r l) {j : Nat} (hj : j < l.length) (x : Int32) : ∃ τ, J_X2_set a (nI j) x σ = some (.inl none, τ) ∧ RowV τ a r (l.set j x) ∧ ag (rw2 a) σ τ := by
  obtain ⟨k0, k1, k2, k3, k4, k5, k6⟩ := h
  refine ⟨inS σ (a + 1) j x, ?_, ?_, ag_inS _ _ _ (Or.inr rfl)⟩
  · unfold J_X2_set
    rw [if_neg (nI_pos (by omega)), jgI_ok k0, k2, if_neg (nI_ge hj (by omega)), jgR_ok k0, k1, jdr_ok, jsI_ok k3 (by omega) k5]
  · refine ⟨k0, k1, ?_, k3, by simp; omega, k5, fun i hi => ?_⟩
    · rw [in_inS, if_neg (by omega), k2]
      simp
    · rw [in_inS, getD_set hj]
      simp only [List.length_set] at hi
      by_cases e : i = j
      · rw [if_pos ⟨rfl, e⟩, if_pos e]
      · rw [if_neg (fun z => e z.2), if_neg e, k6 i hi]
theorem s_empty {σ : Hp} {a r : Nat} {l : List Int32} (h : RowV σ a r l) : ∃ τ, J_X2_empty a σ = some (.inl none, τ) ∧ RowV τ a r [] ∧ ag (rw2 a) σ τ := by
  obtain ⟨k0, k1, k2, k3, k4, k5, k6⟩ := h
  refine ⟨inS σ a 1 0, ?_, ⟨k0, k1, ?_, k3, Nat.zero_le _, k5, fun i hi => (Nat.not_lt_zero i hi).elim⟩, ag_inS _ _ _ (Or.inl rfl)⟩
  · unfold J_X2_empty
    rw [jpI_ok k0]
  · rw [in_inS, if_pos ⟨rfl, rfl⟩]
    rfl
/-- the first place of a number, counted from k, or -1 -/
def plc (x : Int32) : List Int32 → Nat → Int32
  | [], _ => -1
  | y :: ys, k => if y = x then nI k else plc x ys (k + 1)
theorem drop_cons {l : List Int32} {k : Nat} (h : k < l.length) : l.drop k = l.getD k 0 :: l.drop (k + 1) := by
  rw [List.drop_eq_getElem_cons h]
  simp [List.getD_eq_getElem?_getD, h]
theorem s_placeOf_L {σ : Hp} {a r : Nat} {l : List Int32} (h : RowV σ a r l) (x : Int32) : ∀ (d n k : Nat), l.length - k = d → k ≤ l.length → d < n → J_X2_placeOf_L2 n a x (nI k) σ = some (.inl (some (.int (plc x (l.drop k) k))), σ) := by
  intro d
  induction d with
  | zero =>
    intro n k hd hk hn
    obtain ⟨n, rfl⟩ : ∃ z, n = z + 1 := ⟨n - 1, by omega⟩
    have e : k = l.length := by omega
    show J_X2_placeOf_L2b (J_X2_placeOf_L2 n) a x (nI k) σ = _
    unfold J_X2_placeOf_L2b
    have hr := h.2.2.2.2.2.1
    have h4 := h.2.2.2.2.1
    rw [jgI_ok h.1, h.2.2.1, if_pos (nI_le (by omega) (by omega)), e]
    simp [plc]
  | succ d ih =>
    intro n k hd hk hn
    obtain ⟨n, rfl⟩ : ∃ z, n = z + 1 := ⟨n - 1, by omega⟩
    have hr := h.2.2.2.2.2.1
    have h4 := h.2.2.2.2.1
    show J_X2_placeOf_L2b (J_X2_placeOf_L2 n) a x (nI k) σ = _
    unfold J_X2_placeOf_L2b
    rw [jgI_ok h.1, h.2.2.1, if_neg (nI_ge (by omega) (by omega)), jcv_ok h.1 (s_get' h (by omega)), jvI_ok, drop_cons (by omega)]
    simp only [plc]
    by_cases e : l.getD k 0 = x
    · rw [if_pos e, if_pos e]
    · rw [if_neg e, if_neg e, nI_1]
      exact ih n (k + 1) (by omega) (by omega) (by omega)
theorem s_placeOf {σ : Hp} {a r : Nat} {l : List Int32} (h : RowV σ a r l) (x : Int32) : J_X2_placeOf a x σ = some (.inl (some (.int (plc x l 0))), σ) := by
  have hr := h.2.2.2.2.2.1
  have h4 := h.2.2.2.2.1
  exact s_placeOf_L h x l.length jN 0 rfl (Nat.zero_le _) (by unfold jN; omega)
theorem s_takeOver_L {a r b r' : Nat} {l' : List Int32} (hlr : l'.length ≤ r) (hab : ¬ rw2 a b) (hab' : ¬ rw2 a (b + 1)) : ∀ (d n k : Nat) (σ : Hp), RowV σ a r (l'.take k) → RowV σ b r' l' → l'.length - k = d → k ≤ l'.length → d < n → ∃ τ, J_X2_takeOver_L6 n a b (nI k) σ = some (.inl none, τ) ∧ RowV τ a r l' ∧ ag (rw2 a) σ τ := by
  intro d
  induction d with
  | zero =>
    intro n k σ ha hb hd hk hn
    obtain ⟨n, rfl⟩ : ∃ z, n = z + 1 := ⟨n - 1, by omega⟩
    have hr := hb.2.2.2.2.2.1
    have h4 := hb.2.2.2.2.1
    have e : k = l'.length := by omega
    refine ⟨σ, ?_, by rw [e, List.take_length] at ha; exact ha, ag.rf⟩
    show J_X2_takeOver_L6b (J_X2_takeOver_L6 n) a b (nI k) σ = _
    unfold J_X2_takeOver_L6b
    rw [jcv_ok hb.1 (s_count hb), jvI_ok, if_pos (nI_le (by omega) (by omega))]
  | succ d ih =>
    intro n k σ ha hb hd hk hn
    obtain ⟨n, rfl⟩ : ∃ z, n = z + 1 := ⟨n - 1, by omega⟩
    have hr := hb.2.2.2.2.2.1
    have h4 := hb.2.2.2.2.1
    obtain ⟨τ, j1, j2, j3⟩ := s_add ha (by rw [List.length_take]; omega) (l'.getD k 0)
    have e : l'.take k ++ [l'.getD k 0] = l'.take (k + 1) := by
      rw [List.take_add_one]
      simp [List.getD_eq_getElem?_getD, show k < l'.length by omega]
    rw [e] at j2
    obtain ⟨υ, u1, u2, u3⟩ := ih n (k + 1) τ j2 (hb.keep j3 hab hab') (by omega) (by omega) (by omega)
    refine ⟨υ, ?_, u2, j3.tr u3⟩
    show J_X2_takeOver_L6b (J_X2_takeOver_L6 n) a b (nI k) σ = _
    unfold J_X2_takeOver_L6b
    rw [jcv_ok hb.1 (s_count hb), jvI_ok, if_neg (nI_ge (by omega) (by omega)), jcv_ok hb.1 (s_get' hb (by omega)), jvI_ok, jcv_ok ha.1 j1, jvV_ok, nI_1]
    exact u1
theorem s_takeOver {σ : Hp} {a r b r' : Nat} {l l' : List Int32} (ha : RowV σ a r l) (hb : RowV σ b r' l') (hlr : l'.length ≤ r) (hab : ¬ rw2 a b) (hab' : ¬ rw2 a (b + 1)) : ∃ τ, J_X2_takeOver a b σ = some (.inl none, τ) ∧ RowV τ a r l' ∧ ag (rw2 a) σ τ := by
  have hr := hb.2.2.2.2.2.1
  have h4 := hb.2.2.2.2.1
  obtain ⟨τ, j1, j2, j3⟩ := s_empty ha
  obtain ⟨υ, u1, u2, u3⟩ := s_takeOver_L (l' := l') hlr hab hab' l'.length jN 0 τ (by rw [List.take_zero]; exact j2) (hb.keep j3 hab hab') rfl (Nat.zero_le _) (by unfold jN; omega)
  refine ⟨υ, ?_, u2, j3.tr u3⟩
  unfold J_X2_takeOver
  rw [jcv_ok ha.1 j1, jvV_ok]
  exact u1
theorem jcp_ok {σ : Hp} {a r sp dp z : Nat} {K : Hp → jR} (h : kdH σ a = (2, r)) (h1 : sp + z ≤ r) (h2 : dp + z ≤ r) (hr : r < 100000) : jcp σ a a (nI sp) (nI dp) (nI z) K = K (cpS σ a sp dp z) := by
  unfold jcp
  rw [h, nI_clamp (by omega), nI_clamp (by omega), nI_clamp (by omega)]
  exact if_pos ⟨rfl, rfl, nI_pos (by omega), nI_pos (by omega), nI_pos (by omega), h1, h2⟩
/-- a number put in at a place -/
def ins {α : Type} (l : List α) (j : Nat) (x : α) : List α := l.take j ++ x :: l.drop j
theorem ins_len {α : Type} {l : List α} {j : Nat} {x : α} (h : j ≤ l.length) : (ins l j x).length = l.length + 1 := by
  simp [ins]; omega
theorem ins_get {l : List Int32} {j i : Nat} {x : Int32} (h : j ≤ l.length) : (ins l j x).getD i 0 = if i < j then l.getD i 0 else if i = j then x else l.getD (i - 1) 0 := by
  unfold ins
  simp only [List.getD_eq_getElem?_getD]
  by_cases h1 : i < j
  · rw [if_pos h1, List.getElem?_append_left (by rw [List.length_take]; omega), List.getElem?_take_of_lt h1]
  · rw [if_neg h1, List.getElem?_append_right (by rw [List.length_take]; omega), List.length_take, Nat.min_eq_left h]
    by_cases h2 : i = j
    · subst h2
      simp
    · rw [if_neg h2]
      obtain ⟨d, rfl⟩ : ∃ d, i = j + (d + 1) := ⟨i - j - 1, by omega⟩
      rw [show j + (d + 1) - j = d + 1 by omega, List.getElem?_cons_succ, List.getElem?_drop, show j + (d + 1) - 1 = j + d by omega]
theorem s_insert {σ : Hp} {a r : Nat} {l : List Int32} (h : RowV σ a r l) {j : Nat} (hj : j ≤ l.length) (hl : l.length < r) (x : Int32) : ∃ τ, J_X2_insert a (nI j) x σ = some (.inl none, τ) ∧ RowV τ a r (ins l j x) ∧ ag (rw2 a) σ τ := by
  obtain ⟨k0, k1, k2, k3, k4, k5, k6⟩ := h
  refine ⟨inS (inS (cpS σ (a + 1) j (j + 1) (l.length - j)) (a + 1) j x) a 1 (nI l.length + 1), ?_, ?_, ((ag_cpS _ _ _ _ (Or.inr rfl)).tr (ag_inS _ _ _ (Or.inr rfl))).tr (ag_inS _ _ _ (Or.inl rfl))⟩
  · unfold J_X2_insert
    rw [if_neg (nI_pos (by omega)), jgI_ok k0, k2, if_neg (nI_nlt hj (by omega)), jgI_ok k0, jgR_ok k0, k1, jdr_ok, jal_ok k3, k2, if_neg (nI_ge hl (by omega)), jgR_ok k0, jgR_ok k0, jgI_ok k0, k1, jdr_ok, jdr_ok, k2, nI_1, pk_sub hj, jcp_ok k3 (by omega) (by omega) k5,
      jgR_ok (by rw [kd_cpS]; exact k0), rf_cpS, k1, jdr_ok, jsI_ok (by rw [kd_cpS]; exact k3) (by omega) k5, jgI_ok (by rw [kd_inS, kd_cpS]; exact k0), in_inS, if_neg (by omega), in_cpS, if_neg (by omega), k2, jpI_ok (by rw [kd_inS, kd_cpS]; exact k0)]
  · refine ⟨k0, k1, ?_, k3, by rw [ins_len hj]; omega, k5, fun i hi => ?_⟩
    · rw [in_inS, if_pos ⟨rfl, rfl⟩, nI_1, ins_len hj]
    · rw [ins_len hj] at hi
      rw [in_inS, if_neg (by omega), in_inS, ins_get hj]
      by_cases h2 : i = j
      · rw [if_pos ⟨rfl, h2⟩, if_neg (by omega), if_pos h2]
      · rw [if_neg (fun z => h2 z.2), in_cpS, if_pos rfl]
        by_cases h1 : i < j
        · rw [if_pos h1, pk_cpy_out (Or.inl (by omega)), k6 i (by omega)]
        · rw [if_neg h1, if_neg h2, pk_cpy_in (by omega) (by omega), show j + (i - (j + 1)) = i - 1 by omega, k6 (i - 1) (by omega)]
/-- a number taken out of a place -/
def del {α : Type} (l : List α) (j : Nat) : List α := l.take j ++ l.drop (j + 1)
theorem del_len {α : Type} {l : List α} {j : Nat} (h : j < l.length) : (del l j).length = l.length - 1 := by
  simp [del]; omega
theorem del_get {l : List Int32} {j i : Nat} (h : j < l.length) : (del l j).getD i 0 = if i < j then l.getD i 0 else l.getD (i + 1) 0 := by
  unfold del
  simp only [List.getD_eq_getElem?_getD]
  by_cases h1 : i < j
  · rw [if_pos h1, List.getElem?_append_left (by rw [List.length_take]; omega), List.getElem?_take_of_lt h1]
  · rw [if_neg h1, List.getElem?_append_right (by rw [List.length_take]; omega), List.length_take, Nat.min_eq_left (by omega), List.getElem?_drop, show j + 1 + (i - j) = i + 1 by omega]
theorem s_remove {σ : Hp} {a r : Nat} {l : List Int32} (h : RowV σ a r l) {j : Nat} (hj : j < l.length) : ∃ τ, J_X2_remove a (nI j) σ = some (.inl none, τ) ∧ RowV τ a r (del l j) ∧ ag (rw2 a) σ τ := by
  obtain ⟨k0, k1, k2, k3, k4, k5, k6⟩ := h
  obtain ⟨z, hz⟩ : ∃ z, l.length = z + 1 := ⟨l.length - 1, by omega⟩
  refine ⟨cpS (inS σ a 1 (nI z)) (a + 1) (j + 1) j (z - j), ?_, ?_, (ag_inS _ _ _ (Or.inl rfl)).tr (ag_cpS _ _ _ _ (Or.inr rfl))⟩
  · unfold J_X2_remove
    rw [if_neg (nI_pos (by omega)), jgI_ok k0, k2, if_neg (nI_ge hj (by omega)), jgI_ok k0, k2, hz, nI_pred, jpI_ok k0, jgR_ok (by rw [kd_inS]; exact k0), jgR_ok (by rw [kd_inS]; exact k0), jgI_ok (by rw [kd_inS]; exact k0), rf_inS, k1, jdr_ok, jdr_ok, in_inS, if_pos ⟨rfl, rfl⟩, nI_1, pk_sub (by omega), jcp_ok (by rw [kd_inS]; exact k3) (by omega) (by omega) k5]
  · refine ⟨k0, k1, ?_, k3, by rw [del_len hj]; omega, k5, fun i hi => ?_⟩
    · rw [in_cpS, if_neg (by omega), in_inS, if_pos ⟨rfl, rfl⟩, del_len hj, hz]
      rfl
    · rw [del_len hj] at hi
      have e : inH (inS σ a 1 (nI z)) (a + 1) = inH σ (a + 1) := by
        funext y
        rw [in_inS, if_neg (by omega)]
      rw [in_cpS, if_pos rfl, e, del_get hj]
      by_cases h1 : i < j
      · rw [if_pos h1, pk_cpy_out (Or.inl h1), k6 i (by omega)]
      · rw [if_neg h1, pk_cpy_in (by omega) (by omega), show j + 1 + (i - j) = i + 1 by omega, k6 (i + 1) (by omega)]
