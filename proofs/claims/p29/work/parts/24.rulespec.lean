/-! The rules and exceptions. -/
/-- the model's key of some letters: base 27, four letters -/
def k27 (w : List Nat) : Nat := ((w.getD 0 0 * 27 + w.getD 1 0) * 27 + w.getD 2 0) * 27 + w.getD 3 0
/-- the class's key of some letters: five bits each -/
def k32 (w : List Nat) : Nat := ((w.getD 0 0 * 32 + w.getD 1 0) * 32 + w.getD 2 0) * 32 + w.getD 3 0
/-- the class's key, of the model's -/
def c5 (k : Nat) : Nat := ((k / 19683 * 32 + k / 729 % 27) * 32 + k / 27 % 27) * 32 + k % 27
def kc (k : Nat) : Int32 := nI (c5 k)
def lts (w : List Nat) : Prop := ∀ c, c ∈ w → 1 ≤ c ∧ c ≤ 26
theorem lts.g {w : List Nat} (h : lts w) (i : Nat) : w.getD i 0 ≤ 26 := by
  by_cases hi : i < w.length
  · have := h (w.getD i 0) (by simp [List.getD_eq_getElem?_getD, hi])
    omega
  · simp [List.getD_eq_getElem?_getD, hi]
theorem lts.p {w : List Nat} (h : lts w) {i : Nat} (hi : i < w.length) : 1 ≤ w.getD i 0 ∧ w.getD i 0 ≤ 26 :=
  h (w.getD i 0) (by simp [List.getD_eq_getElem?_getD, hi])
theorem lts.take {w : List Nat} (h : lts w) (n : Nat) : lts (w.take n) := fun c hc => h c (List.mem_of_mem_take hc)
theorem lts.drop {w : List Nat} (h : lts w) (n : Nat) : lts (w.drop n) := fun c hc => h c (List.mem_of_mem_drop hc)
theorem k27_b {w : List Nat} (h : lts w) : k27 w < 531441 := by
  have h0 := h.g 0
  have h1 := h.g 1
  have h2 := h.g 2
  have h3 := h.g 3
  unfold k27
  omega
theorem c5_k27 {w : List Nat} (h : lts w) : c5 (k27 w) = k32 w := by
  have h0 := h.g 0
  have h1 := h.g 1
  have h2 := h.g 2
  have h3 := h.g 3
  unfold k27 k32 c5
  generalize w.getD 0 0 = a at *
  generalize w.getD 1 0 = b at *
  generalize w.getD 2 0 = c at *
  generalize w.getD 3 0 = d at *
  have e3 : (((a * 27 + b) * 27 + c) * 27 + d) % 27 = d := by omega
  have e2 : (((a * 27 + b) * 27 + c) * 27 + d) / 27 = (a * 27 + b) * 27 + c := by omega
  have e1 : (((a * 27 + b) * 27 + c) * 27 + d) / 729 = a * 27 + b := by omega
  have e0 : (((a * 27 + b) * 27 + c) * 27 + d) / 19683 = a := by omega
  rw [e3, e2, e1, e0]
  omega
theorem c5_lt {k m : Nat} : k < m ↔ c5 k < c5 m := by
  have a0 : k = ((k / 19683 * 27 + k / 729 % 27) * 27 + k / 27 % 27) * 27 + k % 27 := by omega
  have b0 : m = ((m / 19683 * 27 + m / 729 % 27) * 27 + m / 27 % 27) * 27 + m % 27 := by omega
  unfold c5
  have a1 : k / 729 % 27 < 27 := Nat.mod_lt _ (by omega)
  have a2 : k / 27 % 27 < 27 := Nat.mod_lt _ (by omega)
  have a3 : k % 27 < 27 := Nat.mod_lt _ (by omega)
  have b1 : m / 729 % 27 < 27 := Nat.mod_lt _ (by omega)
  have b2 : m / 27 % 27 < 27 := Nat.mod_lt _ (by omega)
  have b3 : m % 27 < 27 := Nat.mod_lt _ (by omega)
  generalize k / 19683 = x0 at *
  generalize k / 729 % 27 = x1 at *
  generalize k / 27 % 27 = x2 at *
  generalize k % 27 = x3 at *
  generalize m / 19683 = y0 at *
  generalize m / 729 % 27 = y1 at *
  generalize m / 27 % 27 = y2 at *
  generalize m % 27 = y3 at *
  rcases Nat.lt_trichotomy x0 y0 with h0 | h0 | h0 <;> rcases Nat.lt_trichotomy x1 y1 with h1 | h1 | h1 <;> rcases Nat.lt_trichotomy x2 y2 with h2 | h2 | h2 <;> omega
theorem c5_inj {k m : Nat} (h : c5 k = c5 m) : k = m := by
  have h1 := @c5_lt k m
  have h2 := @c5_lt m k
  omega
theorem c5_b {k : Nat} (h : k < 531441) : c5 k < 1048576 := by
  unfold c5
  have a1 : k / 729 % 27 < 27 := Nat.mod_lt _ (by omega)
  have a2 : k / 27 % 27 < 27 := Nat.mod_lt _ (by omega)
  have a3 : k % 27 < 27 := Nat.mod_lt _ (by omega)
  have a0 : k / 19683 < 27 := by omega
  omega
theorem kc_eq {k m : Nat} (hk : k < 531441) (hm : m < 531441) : kc k = kc m ↔ k = m := by
  have h1 := c5_b hk
  have h2 := c5_b hm
  unfold kc
  rw [nI_eq (by omega) (by omega)]
  exact ⟨c5_inj, fun e => by rw [e]⟩
/-- a letter as the class has it -/
def ch (c : Nat) : Int32 := nI (c + 96)
theorem ch_inj {a b : Nat} (ha : a ≤ 26) (hb : b ≤ 26) : ch a = ch b ↔ a = b := by
  unfold ch
  rw [nI_eq (by omega) (by omega)]
  omega
theorem mch_inj : ∀ {v w : List Nat}, lts v → lts w → v.map ch = w.map ch → v = w := by
  intro v
  induction v with
  | nil => intro w _ _ h; cases w with
    | nil => rfl
    | cons _ _ => cases h
  | cons a v ih => intro w hv hw h; cases w with
    | nil => cases h
    | cons b w =>
      rw [List.map_cons, List.map_cons] at h
      obtain ⟨h1, h2⟩ := List.cons.inj h
      have ha := hv a (List.mem_cons_self ..)
      have hb := hw b (List.mem_cons_self ..)
      rw [(ch_inj ha.2 hb.2).mp h1, ih (fun c hc => hv c (List.mem_cons_of_mem _ hc)) (fun c hc => hw c (List.mem_cons_of_mem _ hc)) h2]
theorem plc_in {x : Int32} : ∀ (l : List Int32) (k j : Nat), j < l.length → l.getD j 0 = x → (∀ i, i < j → l.getD i 0 ≠ x) → plc x l k = nI (k + j)
  | [], _, _, h, _, _ => (Nat.not_lt_zero _ h).elim
  | y :: l, k, 0, _, h, _ => by
    have e : y = x := h
    unfold plc
    rw [if_pos e]
    rfl
  | y :: l, k, j + 1, hj, h, hn => by
    have e : y ≠ x := hn 0 (by omega)
    unfold plc
    rw [if_neg e, plc_in l (k + 1) j (by simpa using hj) (by simpa using h) (fun i hi => by simpa using hn (i + 1) (by omega))]
    congr 1
    omega
theorem plc_no {x : Int32} : ∀ (l : List Int32) (k : Nat), (∀ i, i < l.length → l.getD i 0 ≠ x) → plc x l k = -1
  | [], _, _ => rfl
  | y :: l, k, hn => by
    have e : y ≠ x := hn 0 (by simp)
    unfold plc
    rw [if_neg e, plc_no l (k + 1) (fun i hi => by simpa using hn (i + 1) (by simpa using hi))]
theorem getD_map {α : Type} {f : α → Int32} {l : List α} {i : Nat} (d : α) (h : i < l.length) : (l.map f).getD i 0 = f (l.getD i d) := by
  simp [List.getD_eq_getElem?_getD, h]
theorem getD_mem {α : Type} {l : List α} {i : Nat} (d : α) (h : i < l.length) : l.getD i d ∈ l := by
  simp [List.getD_eq_getElem?_getD, h]
theorem idx_get {l : List Nat} {x : Nat} (h : x ∈ l) : l.getD (l.idxOf x) 0 = x := by
  have := List.idxOf_lt_length_of_mem h
  simp [List.getD_eq_getElem?_getD, this]
theorem idx_min {x : Nat} : ∀ (l : List Nat) (i : Nat), i < l.idxOf x → l.getD i 0 ≠ x
  | [], i, h => by simp at h
  | y :: l, i, h => by
    rw [List.idxOf_cons] at h
    by_cases e : y = x
    · subst e
      simp at h
    · have hb : (y == x) = false := by simpa using e
      rw [hb] at h
      cases i with
      | zero => exact e
      | succ i => exact idx_min l i (by simpa using h)
/-- the place of a key -/
theorem plc_kc {ks : List Nat} {k : Nat} (hk : k < 531441) (hs : ∀ x ∈ ks, x < 531441) : plc (kc k) (ks.map kc) 0 = if k ∈ ks then nI (ks.idxOf k) else -1 := by
  by_cases h : k ∈ ks
  · have hl := List.idxOf_lt_length_of_mem h
    rw [if_pos h, plc_in _ 0 (ks.idxOf k) (by rw [List.length_map]; exact hl) (by rw [getD_map 0 hl, idx_get h]) (fun i hi => by
      rw [getD_map 0 (by omega)]
      intro z
      exact idx_min ks i hi ((kc_eq (hs _ (getD_mem 0 (by omega))) hk).mp z)), Nat.zero_add]
  · rw [if_neg h, plc_no _ 0 (fun i hi => by
      rw [List.length_map] at hi
      rw [getD_map 0 hi]
      intro z
      have := (kc_eq (hs _ (getD_mem 0 hi)) hk).mp z
      exact h (this ▸ getD_mem 0 hi))]
/-- the class's rules at b -/
def RubV (σ : Hp) (b : Nat) (ks : List Nat) (gs fs ss : List Int32) (E : List (List Nat)) : Prop := kdH σ b = (1, 3) ∧ (rfH σ b 0 = some (b + 1) ∧ rfH σ b 1 = some (b + 3) ∧ rfH σ b 2 = some (b + 5) ∧ rfH σ b 3 = some (b + 7) ∧ rfH σ b 4 = some (b + 9)) ∧ RowV σ (b + 1) 40 (ks.map kc) ∧ RowV σ (b + 3) 40 gs ∧ RowV σ (b + 5) 40 fs ∧ RowV σ (b + 7) 40 ss ∧ PieV σ (b + 9) 20 1600 (E.map (List.map ch)) []
/-- what holds of the rules -/
def RubI (ks : List Nat) (gs fs ss : List Int32) (E : List (List Nat)) : Prop := gs.length = ks.length ∧ fs.length = ks.length ∧ ss.length = ks.length ∧ (∀ x ∈ ks, ∃ w, lts w ∧ 1 ≤ w.length ∧ w.length ≤ 4 ∧ x = k27 w) ∧ (∀ i j, i < j → j < ks.length → ks.getD i 0 < ks.getD j 0) ∧ (∀ x ∈ fs, x ≠ 0) ∧ (∀ w ∈ E, lts w ∧ 1 ≤ w.length ∧ w.length ≤ 80) ∧ E.Nodup
theorem RubI.kb {ks : List Nat} {gs fs ss : List Int32} {E : List (List Nat)} (h : RubI ks gs fs ss E) : ∀ x ∈ ks, x < 531441 := fun x hx => by
  obtain ⟨w, h1, _, _, h2⟩ := h.2.2.2.1 x hx
  rw [h2]
  exact k27_b h1
theorem RubV.keep {P : Nat → Prop} {σ τ : Hp} {b : Nat} {ks : List Nat} {gs fs ss : List Int32} {E : List (List Nat)} (h : RubV σ b ks gs fs ss E) (hg : ag P σ τ) (h0 : ∀ q, P q → ¬ rg b 14 q) : RubV τ b ks gs fs ss E := by
  obtain ⟨k0, k1, k2, k3, k4, k5, k6⟩ := h
  have hn : ∀ i, i < 14 → ¬ P (b + i) := fun i hi z => h0 _ z ⟨by omega, by omega⟩
  refine ⟨by rw [hg.2.1]; exact k0, by rw [(hg.2.2.1 b (hn 0 (by omega))).2]; exact k1, k2.keep hg (hn 1 (by omega)) (hn 2 (by omega)), k3.keep hg (hn 3 (by omega)) (hn 4 (by omega)), k4.keep hg (hn 5 (by omega)) (hn 6 (by omega)), k5.keep hg (hn 7 (by omega)) (hn 8 (by omega)), k6.keep hg (fun q hq z => h0 q hq ?_)⟩
  unfold rg at z ⊢
  omega
theorem or32 (a x : Nat) (h : x < 32) : (nI a <<< (5 &&& 31 : Int32)) ||| nI x = nI (a * 32 + x) := by
  have e : nI a <<< (5 &&& 31 : Int32) = nI (a * 32) := by
    apply Int32.toBitVec_inj.mp
    apply BitVec.eq_of_toNat_eq
    rw [pk_shl (nI a) (5 &&& 31) 5 (by decide)]
    show a % 2 ^ 32 * 2 ^ 5 % 2 ^ 32 = a * 32 % 2 ^ 32
    omega
  rw [e]
  have : a * 32 + x = a * 32 ||| x := by
    have := Nat.two_pow_add_eq_or_of_lt (i := 5) (b := x) h a
    rw [show 2 ^ 5 * a = a * 32 by omega] at this
    exact this
  rw [this]
  apply Int32.toBitVec_inj.mp
  apply BitVec.eq_of_toNat_eq
  show (BitVec.ofNat 32 (a * 32) ||| BitVec.ofNat 32 x).toNat = (BitVec.ofNat 32 (a * 32 ||| x)).toNat
  rw [BitVec.toNat_or, BitVec.toNat_ofNat, BitVec.toNat_ofNat, BitVec.toNat_ofNat, Nat.or_mod_two_pow]
theorem s_R_keyOf_step {σ : Hp} {q r : Nat} {l : List Int32} (hq : RowV σ q r l) {s : Nat} {w : List Nat} (hw : lts w) (hs : s + w.length < 2 ^ 30) (hl : ∀ k, k < w.length → l.getD (s + k) 0 = ch (w.getD k 0)) (n K k : Nat) (hk : k < 4) : J_X3_keyOf_L17 (n + 1) q (nI s) (nI w.length) (nI K) (nI k) σ = J_X3_keyOf_L17 n q (nI s) (nI w.length) (nI (K * 32 + w.getD k 0)) (nI (k + 1)) σ := by
  show J_X3_keyOf_L17b (J_X3_keyOf_L17 n) q (nI s) (nI w.length) (nI K) (nI k) σ = _
  unfold J_X3_keyOf_L17b jj
  dsimp only
  rw [if_neg (show ¬ (4 : Int32) ≤ nI k from nI_ge (b := 4) hk (by omega))]
  by_cases h : k < w.length
  · obtain ⟨c1, c2⟩ := hw.p h
    rw [if_neg (nI_ge h (by omega)), nI_add, jcv_ok hq.1 (s_get' hq (by omega)), jvI_ok, hl k h, nI_1]
    have e : ch (w.getD k 0) - 97 + 1 = nI (w.getD k 0) := by
      obtain ⟨z, hz⟩ : ∃ z, w.getD k 0 = z + 1 := ⟨w.getD k 0 - 1, by omega⟩
      rw [hz]
      show nI (z + 1 + 96) - nI 97 + 1 = _
      rw [pk_sub (by omega), nI_1]
      congr 1 <;> omega
    rw [e, or32 _ _ (by omega)]
  · rw [if_pos (nI_le (by omega) (by omega)), nI_1]
    have e : w.getD k 0 = 0 := by simp [List.getD_eq_getElem?_getD, Nat.not_lt.mp h]
    have := or32 K 0 (by omega)
    rw [e]
    exact congrArg (fun z => J_X3_keyOf_L17 n q (nI s) (nI w.length) z (nI (k + 1)) σ) this
theorem s_R_keyOf {σ : Hp} {q r : Nat} {l : List Int32} (hq : RowV σ q r l) {s : Nat} {w : List Nat} (hw : lts w) (h1 : 1 ≤ w.length) (h4 : w.length ≤ 4) (hs : s < 2 ^ 29) (hl : ∀ k, k < w.length → l.getD (s + k) 0 = ch (w.getD k 0)) : J_X3_keyOf q (nI s) (nI w.length) σ = some (.inl (some (.int (kc (k27 w)))), σ) := by
  have st := s_R_keyOf_step hq hw (by omega) hl
  unfold J_X3_keyOf
  rw [if_neg (show ¬ nI w.length < 1 from nI_nlt (b := 1) h1 (by omega)), if_pos (show nI w.length ≤ 4 from nI_le (b := 4) h4 (by omega))]
  show J_X3_keyOf_L17 (99995 + 1 + 1 + 1 + 1 + 1) q (nI s) (nI w.length) (nI 0) (nI 0) σ = _
  rw [st _ _ _ (by omega), st _ _ _ (by omega), st _ _ _ (by omega), st _ _ _ (by omega)]
  show J_X3_keyOf_L17b (J_X3_keyOf_L17 99995) q (nI s) (nI w.length) _ (nI 4) σ = _
  unfold J_X3_keyOf_L17b
  rw [if_pos (show (4 : Int32) ≤ nI 4 from nI_le (a := 4) (Nat.le_refl _) (by omega)), kc, c5_k27 hw, k32, Nat.zero_mul, Nat.zero_add]
theorem s_R_keyOf_0 {σ : Hp} {q : Nat} {s z : Nat} (h : z = 0 ∨ 4 < z) (hz : z < 2 ^ 31) : J_X3_keyOf q (nI s) (nI z) σ = some (.inl (some (.int 0)), σ) := by
  unfold J_X3_keyOf
  by_cases h0 : z = 0
  · subst h0
    rw [if_pos (show nI 0 < 1 from nI_lt (b := 1) (by omega) (by omega))]
  · rw [if_neg (show ¬ nI z < 1 from nI_nlt (b := 1) (by omega) hz), if_neg (show ¬ nI z ≤ 4 from nI_ge (a := 4) (by omega) hz)]
