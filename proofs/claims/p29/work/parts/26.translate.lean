/-! Exceptions, and the translation of a word. -/
theorem s_R_isInOrder_L {σ : Hp} {b : Nat} {ks : List Nat} {gs fs ss : List Int32} {E : List (List Nat)} (h : RubV σ b ks gs fs ss E) (hI : RubI ks gs fs ss E) : ∀ (d m i : Nat), ks.length - i = d → 1 ≤ i → i ≤ ks.length + 1 → d < m → J_X3_isInOrder_L2 m b (nI i) σ = some (.inl (some (.int 1)), σ) := by
  have hl := h.l40
  obtain ⟨k0, ⟨r0, r1, r2, r3, r4⟩, k1, k2, k3, k4, k5⟩ := h
  intro d
  induction d with
  | zero =>
    intro m i hd hi hi' hm
    obtain ⟨m, rfl⟩ : ∃ z, m = z + 1 := ⟨m - 1, by omega⟩
    show J_X3_isInOrder_L2b (J_X3_isInOrder_L2 m) b (nI i) σ = _
    unfold J_X3_isInOrder_L2b
    rw [jgR_ok k0, r0, jdr_ok, jcv_ok k1.1 (s_count k1), jvI_ok, List.length_map, if_pos (nI_le (by omega) (by omega)), jrt_1]
  | succ d ih =>
    intro m i hd hi hi' hm
    obtain ⟨m, rfl⟩ : ∃ z, m = z + 1 := ⟨m - 1, by omega⟩
    obtain ⟨j, rfl⟩ : ∃ j, i = j + 1 := ⟨i - 1, by omega⟩
    show J_X3_isInOrder_L2b (J_X3_isInOrder_L2 m) b (nI (j + 1)) σ = _
    unfold J_X3_isInOrder_L2b
    rw [jgR_ok k0, r0, jdr_ok, jcv_ok k1.1 (s_count k1), jvI_ok, List.length_map, if_neg (nI_ge (by omega) (by omega)), jgR_ok k0, r0, jdr_ok, nI_pred, jcv_ok k1.1 (s_get' k1 (by omega)), jvI_ok, jgR_ok k0, r0, jdr_ok, jcv_ok k1.1 (s_get' k1 (by omega)), jvI_ok, getD_map 0 (by omega), getD_map 0 (by omega), if_pos ((kc_lt (hI.kb _ (getD_mem 0 (by omega))) (hI.kb _ (getD_mem 0 (by omega)))).mpr (hI.2.2.2.2.1 j (j + 1) (by omega) (by omega))), nI_1]
    exact ih m (j + 1 + 1) (by omega) (by omega) (by omega) (by omega)
theorem s_R_isInOrder {σ : Hp} {b : Nat} {ks : List Nat} {gs fs ss : List Int32} {E : List (List Nat)} (h : RubV σ b ks gs fs ss E) (hI : RubI ks gs fs ss E) : J_X3_isInOrder b σ = some (.inl (some (.int 1)), σ) := by
  have hl := h.l40
  exact s_R_isInOrder_L h hI (ks.length - 1) jN 1 rfl (Nat.le_refl _) (by omega) (by unfold jN; omega)
theorem idxl_get {l : List (List Nat)} {x : List Nat} (h : x ∈ l) : l.getD (l.idxOf x) [] = x := by
  have := List.idxOf_lt_length_of_mem h
  simp [List.getD_eq_getElem?_getD, this]
theorem idxl_eq {x : List Nat} : ∀ (l : List (List Nat)) (i : Nat), i < l.length → l.getD i [] = x → (∀ j, j < i → l.getD j [] ≠ x) → x ∈ l ∧ l.idxOf x = i
  | [], _, h, _, _ => (Nat.not_lt_zero _ h).elim
  | y :: l, 0, _, h, _ => by
    have e : y = x := h
    subst e
    exact ⟨List.mem_cons_self .., by simp⟩
  | y :: l, i + 1, hi, h, hn => by
    have e : y ≠ x := hn 0 (by omega)
    obtain ⟨h1, h2⟩ := idxl_eq l i (by simpa using hi) (by simpa using h) (fun j hj => by simpa using hn (j + 1) (by omega))
    refine ⟨List.mem_cons_of_mem _ h1, ?_⟩
    have hb : (y == x) = false := by simpa using e
    rw [List.idxOf_cons, hb, h2]
    rfl
theorem mem_idx {l : List (List Nat)} {x : List Nat} (h : x ∈ l) : ∃ i, i < l.length ∧ l.getD i [] = x := ⟨l.idxOf x, List.idxOf_lt_length_of_mem h, idxl_get h⟩
theorem getD_mapl {l : List (List Nat)} {i : Nat} (h : i < l.length) : (l.map (List.map ch)).getD i [] = (l.getD i []).map ch := by
  simp [List.getD_eq_getElem?_getD, h]
theorem getl_mem {l : List (List Nat)} {i : Nat} (h : i < l.length) : l.getD i [] ∈ l := by
  simp [List.getD_eq_getElem?_getD, h]
theorem s_R_exc_L {σ : Hp} {b : Nat} {ks : List Nat} {gs fs ss : List Int32} {E : List (List Nat)} (h : RubV σ b ks gs fs ss E) (hI : RubI ks gs fs ss E) {q r : Nat} {l : List Int32} (hq : RowV σ q r l) {s t : Nat} (hst : s ≤ t) (ht : t ≤ l.length) {w : List Nat} (hw : lts w) (hs : slc l s t = w.map ch) : ∀ (d m i : Nat), E.length - i = d → i ≤ E.length → (∀ j, j < i → E.getD j [] ≠ w) → d < m → J_X3_placeOfException_L3 m b q (nI s) (nI t) (nI i) σ = some (.inl (some (.int (if w ∈ E then nI (E.idxOf w) else -1))), σ) := by
  obtain ⟨k0, ⟨r0, r1, r2, r3, r4⟩, k1, k2, k3, k4, k5⟩ := h
  have hb := k5.b
  rw [List.length_map] at hb
  intro d
  induction d with
  | zero =>
    intro m i hd hi hn hm
    obtain ⟨m, rfl⟩ : ∃ z, m = z + 1 := ⟨m - 1, by omega⟩
    have he : w ∉ E := fun z => by
      obtain ⟨j, j1, j2⟩ := mem_idx z
      exact hn j (by omega) j2
    show J_X3_placeOfException_L3b (J_X3_placeOfException_L3 m) b q (nI s) (nI t) (nI i) σ = _
    unfold J_X3_placeOfException_L3b
    rw [jgR_ok k0, r4, jdr_ok, jcv_ok k5.1 (s_P_count k5), jvI_ok, List.length_map, if_pos (nI_le (by omega) (by omega)), if_neg he]
  | succ d ih =>
    intro m i hd hi hn hm
    obtain ⟨m, rfl⟩ : ∃ z, m = z + 1 := ⟨m - 1, by omega⟩
    show J_X3_placeOfException_L3b (J_X3_placeOfException_L3 m) b q (nI s) (nI t) (nI i) σ = _
    unfold J_X3_placeOfException_L3b
    rw [jgR_ok k0, r4, jdr_ok, jcv_ok k5.1 (s_P_count k5), jvI_ok, List.length_map, if_neg (nI_ge (by omega) (by omega)), jgR_ok k0, r4, jdr_ok, jcv_ok k5.1 (s_P_isSame k5 hq (by rw [List.length_map]; omega) hst ht), jvI_ok, hs, getD_mapl (by omega)]
    by_cases e : E.getD i [] = w
    · obtain ⟨e1, e2⟩ := idxl_eq E i (by omega) e hn
      rw [e, decide_eq_true rfl, if_neg (by decide), if_pos e1, e2]
    · have e' : (E.getD i []).map ch ≠ w.map ch := fun z => e (mch_inj (hI.2.2.2.2.2.2.1 _ (getl_mem (by omega))).1 hw z)
      rw [decide_eq_false e', if_pos (by decide), nI_1]
      exact ih m (i + 1) (by omega) (by omega) (fun j hj => by
        by_cases z : j = i
        · rw [z]; exact e
        · exact hn j (by omega)) (by omega)
theorem s_R_exc {σ : Hp} {b : Nat} {ks : List Nat} {gs fs ss : List Int32} {E : List (List Nat)} (h : RubV σ b ks gs fs ss E) (hI : RubI ks gs fs ss E) {q r : Nat} {l : List Int32} (hq : RowV σ q r l) {s t : Nat} (hst : s ≤ t) (ht : t ≤ l.length) {w : List Nat} (hw : lts w) (hs : slc l s t = w.map ch) : J_X3_placeOfException b q (nI s) (nI t) σ = some (.inl (some (.int (if w ∈ E then nI (E.idxOf w) else -1))), σ) := by
  have hb := h.2.2.2.2.2.2.b
  rw [List.length_map] at hb
  exact s_R_exc_L h hI hq hst ht hw hs E.length jN 0 rfl (Nat.zero_le _) (fun j hj => (Nat.not_lt_zero _ hj).elim) (by unfold jN; omega)
theorem s_R_isFullOfExceptions {σ : Hp} {b : Nat} {ks : List Nat} {gs fs ss : List Int32} {E : List (List Nat)} (h : RubV σ b ks gs fs ss E) : J_X3_isFullOfExceptions b σ = some (.inl (some (.int (bI (decide (20 ≤ E.length))))), σ) := by
  obtain ⟨k0, ⟨r0, r1, r2, r3, r4⟩, k1, k2, k3, k4, k5⟩ := h
  have hb := k5.b
  rw [List.length_map] at hb
  unfold J_X3_isFullOfExceptions
  rw [jgR_ok k0, r4, jdr_ok, jcv_ok k5.1 (s_P_count k5), jvI_ok, List.length_map]
  by_cases e : E.length < 20
  · rw [if_pos (show nI E.length < 20 from nI_lt (b := 20) e (by omega)), jrt_0, decide_eq_false (by omega)]
    rfl
  · rw [if_neg (show ¬ nI E.length < 20 from nI_nlt (b := 20) (by omega) (by omega)), jrt_1, decide_eq_true (by omega)]
    rfl
theorem s_R_dropException {σ : Hp} {b : Nat} {ks : List Nat} {gs fs ss : List Int32} {E : List (List Nat)} (h : RubV σ b ks gs fs ss E) {p : Nat} (hp : p < E.length) : ∃ τ, J_X3_dropException b (nI p) σ = some (.inl none, τ) ∧ RubV τ b ks gs fs ss (del E p) ∧ ag (rg b 14) σ τ := by
  obtain ⟨k0, ⟨r0, r1, r2, r3, r4⟩, k1, k2, k3, k4, k5⟩ := h
  obtain ⟨τ, a1, a2, a3⟩ := s_P_drop k5 (i := p) (by rw [List.length_map]; exact hp)
  have hn : ∀ i, i < 9 → ¬ rg (b + 9) 5 (b + i) := fun i hi z => by unfold rg at z; omega
  refine ⟨τ, ?_, ⟨by rw [a3.2.1]; exact k0, by rw [(a3.2.2.1 b (hn 0 (by omega))).2]; exact ⟨r0, r1, r2, r3, r4⟩, k1.keep a3 (hn 1 (by omega)) (hn 2 (by omega)), k2.keep a3 (hn 3 (by omega)) (hn 4 (by omega)), k3.keep a3 (hn 5 (by omega)) (hn 6 (by omega)), k4.keep a3 (hn 7 (by omega)) (hn 8 (by omega)), ?_⟩, a3.up (fun q z => by unfold rg at z ⊢; omega)⟩
  · unfold J_X3_dropException
    rw [jgR_ok k0, r4, jdr_ok, jcv_ok k5.1 a1, jvV_ok]
  · rw [del_map]
    exact a2
theorem fl_len : ∀ (E : List (List Nat)) (n : Nat), (∀ w ∈ E, w.length ≤ n) → (E.map (List.map ch)).flatten.length ≤ n * E.length
  | [], _, _ => by simp
  | w :: E, n, h => by
    have h1 := h w (List.mem_cons_self ..)
    have h2 := fl_len E n (fun v hv => h v (List.mem_cons_of_mem _ hv))
    rw [List.map_cons, List.flatten_cons, List.length_append, List.length_map, List.length_cons, Nat.mul_succ]
    omega
theorem s_R_addException_L {b : Nat} {E : List (List Nat)} (hE : E.length < 20) (hE' : ∀ w ∈ E, w.length ≤ 80) {q : Nat} {w : List Nat} (hw1 : 1 ≤ w.length) (hw2 : w.length ≤ 80) (hd1 : ¬ rg (b + 9) 5 q) (hd2 : ¬ rg (b + 9) 5 (q + 1)) : ∀ (d m k : Nat) (σ : Hp), kdH σ b = (1, 3) → rfH σ b 4 = some (b + 9) → RowV σ q 80 (w.map ch) → PieV σ (b + 9) 20 1600 (E.map (List.map ch)) ((w.take k).map ch) → w.length - k = d → k ≤ w.length → d < m → ∃ τ, J_X3_addException_L2 m b q (nI k) σ = some (.inl none, τ) ∧ PieV τ (b + 9) 20 1600 ((E ++ [w]).map (List.map ch)) [] ∧ ag (rg (b + 9) 5) σ τ := by
  have hfl := fl_len E 80 hE'
  intro d
  induction d with
  | zero =>
    intro m k σ k0 r4 hq hp hd hk hm
    obtain ⟨m, rfl⟩ : ∃ z, m = z + 1 := ⟨m - 1, by omega⟩
    obtain ⟨τ, a1, a2, a3⟩ := s_P_cut hp (fun _ => by rw [List.length_map]; exact hE)
    refine ⟨τ, ?_, ?_, a3⟩
    · show J_X3_addException_L2b (J_X3_addException_L2 m) b q (nI k) σ = _
      unfold J_X3_addException_L2b
      rw [jcv_ok hq.1 (s_count hq), jvI_ok, List.length_map, if_pos (nI_le (by omega) (by omega)), jgR_ok k0, r4, jdr_ok, jcv_ok hp.1 a1, jvV_ok]
    · rw [List.take_of_length_le (by omega)] at a2
      unfold cutP at a2
      rw [if_neg (fun z => by
        have := congrArg List.length z
        rw [List.length_map] at this
        simp at this
        rw [this] at hw1
        simp at hw1)] at a2
      rw [List.map_append]
      exact a2
  | succ d ih =>
    intro m k σ k0 r4 hq hp hd hk hm
    obtain ⟨m, rfl⟩ : ∃ z, m = z + 1 := ⟨m - 1, by omega⟩
    obtain ⟨τ, a1, a2, a3⟩ := s_P_add hp (by rw [List.length_map, List.length_take]; omega) (ch (w.getD k 0))
    have e : (w.take k).map ch ++ [ch (w.getD k 0)] = (w.take (k + 1)).map ch := by
      rw [List.take_add_one, List.map_append]
      simp [List.getD_eq_getElem?_getD, show k < w.length by omega]
    rw [e] at a2
    obtain ⟨υ, b1, b2, b3⟩ := ih m (k + 1) τ (by rw [a3.2.1]; exact k0) (by rw [(a3.2.2.1 b (by unfold rg; omega)).2]; exact r4) (hq.keep a3 hd1 hd2) a2 (by omega) (by omega) (by omega)
    refine ⟨υ, ?_, b2, a3.tr b3⟩
    show J_X3_addException_L2b (J_X3_addException_L2 m) b q (nI k) σ = _
    unfold J_X3_addException_L2b
    rw [jcv_ok hq.1 (s_count hq), jvI_ok, List.length_map, if_neg (nI_ge (by omega) (by omega)), jgR_ok k0, r4, jdr_ok, jcv_ok hq.1 (s_get' hq (by omega)), jvI_ok, getD_map 0 (by omega), jcv_ok hp.1 a1, jvV_ok, nI_1]
    exact b1
theorem s_R_addException {σ : Hp} {b : Nat} {ks : List Nat} {gs fs ss : List Int32} {E : List (List Nat)} (h : RubV σ b ks gs fs ss E) (hI : RubI ks gs fs ss E) (hE : E.length < 20) {q : Nat} {w : List Nat} (hq : RowV σ q 80 (w.map ch)) (hw1 : 1 ≤ w.length) (hw2 : w.length ≤ 80) (hd1 : ¬ rg b 14 q) (hd2 : ¬ rg b 14 (q + 1)) : ∃ τ, J_X3_addException b q σ = some (.inl none, τ) ∧ RubV τ b ks gs fs ss (E ++ [w]) ∧ ag (rg b 14) σ τ := by
  obtain ⟨k0, ⟨r0, r1, r2, r3, r4⟩, k1, k2, k3, k4, k5⟩ := h
  obtain ⟨τ, a1, a2, a3⟩ := s_R_addException_L hE (fun v hv => (hI.2.2.2.2.2.2.1 v hv).2.2) hw1 hw2 (fun z => hd1 (by unfold rg at z ⊢; omega)) (fun z => hd2 (by unfold rg at z ⊢; omega)) w.length jN 0 σ k0 r4 hq k5 rfl (Nat.zero_le _) (by unfold jN; omega)
  have hn : ∀ i, i < 9 → ¬ rg (b + 9) 5 (b + i) := fun i hi z => by unfold rg at z; omega
  exact ⟨τ, a1, ⟨by rw [a3.2.1]; exact k0, by rw [(a3.2.2.1 b (hn 0 (by omega))).2]; exact ⟨r0, r1, r2, r3, r4⟩, k1.keep a3 (hn 1 (by omega)) (hn 2 (by omega)), k2.keep a3 (hn 3 (by omega)) (hn 4 (by omega)), k3.keep a3 (hn 5 (by omega)) (hn 6 (by omega)), k4.keep a3 (hn 7 (by omega)) (hn 8 (by omega)), a2⟩, a3.up (fun q z => by unfold rg at z ⊢; omega)⟩
/-- the longest rule of at most n letters that stands at the beginning of w: how long, and its place -/
def pick (ks : List Nat) (gs : List Int32) (g : Int32) (w : List Nat) : Nat → Option (Nat × Nat)
  | 0 => none
  | n + 1 => if k27 (w.take (n + 1)) ∈ ks ∧ gs.getD (ks.idxOf (k27 (w.take (n + 1)))) 0 ≤ g then some (n + 1, ks.idxOf (k27 (w.take (n + 1)))) else pick ks gs g w n
/-- the cells of a choice -/
def emt (fs ss : List Int32) : Option (Nat × Nat) → List Int32
  | none => [63]
  | some (_, p) => if ss.getD p 0 = 0 then [fs.getD p 0] else [fs.getD p 0, ss.getD p 0]
/-- how many letters a choice takes -/
def adv : Option (Nat × Nat) → Nat
  | none => 1
  | some (n, _) => n
theorem pick_b (ks : List Nat) (gs : List Int32) (g : Int32) (w : List Nat) : ∀ n, 1 ≤ adv (pick ks gs g w n) ∧ (1 ≤ n → adv (pick ks gs g w n) ≤ n)
  | 0 => ⟨by simp [pick, adv], fun h => by omega⟩
  | n + 1 => by
    have ih := pick_b ks gs g w n
    unfold pick
    split
    · exact ⟨by simp [adv], fun _ => by simp [adv]⟩
    · refine ⟨ih.1, fun _ => ?_⟩
      by_cases h : 1 ≤ n
      · have := ih.2 h
        omega
      · have : n = 0 := by omega
        subst this
        simp [pick, adv]
theorem emt_b (fs ss : List Int32) (o : Option (Nat × Nat)) : 1 ≤ (emt fs ss o).length ∧ (emt fs ss o).length ≤ 2 := by
  unfold emt
  split
  · simp
  · split <;> simp
/-- the cells of a word, of rules of at most m letters -/
def trW (ks : List Nat) (gs fs ss : List Int32) (g : Int32) (m : Nat) : Nat → List Nat → List Int32
  | 0, _ => []
  | n + 1, w => if w = [] then [] else emt fs ss (pick ks gs g w (min m w.length)) ++ trW ks gs fs ss g m n (w.drop (adv (pick ks gs g w (min m w.length))))
theorem trW_f (ks : List Nat) (gs fs ss : List Int32) (g : Int32) (m : Nat) : ∀ (n n' : Nat) (w : List Nat), w.length ≤ n → w.length ≤ n' → trW ks gs fs ss g m n w = trW ks gs fs ss g m n' w := by
  intro n
  induction n with
  | zero =>
    intro n' w h h'
    have : w = [] := List.length_eq_zero_iff.mp (by omega)
    subst this
    cases n' <;> simp [trW]
  | succ n ih =>
    intro n' w h h'
    cases n' with
    | zero =>
      have : w = [] := List.length_eq_zero_iff.mp (by omega)
      subst this
      simp [trW]
    | succ n' =>
      unfold trW
      by_cases e : w = []
      · rw [if_pos e, if_pos e]
      · have hl : 0 < w.length := List.length_pos_iff.mpr e
        have := (pick_b ks gs g w (min m w.length)).1
        rw [if_neg e, if_neg e, ih n' _ (by rw [List.length_drop]; omega) (by rw [List.length_drop]; omega)]
theorem s_R_addCells_L {b : Nat} {ks : List Nat} {gs fs ss : List Int32} {E : List (List Nat)} (hI : RubI ks gs fs ss E) {q rq : Nat} {l : List Int32} {at_ : Nat} {w : List Nat} (hw : lts w) (hl : ∀ k, k < w.length → l.getD (at_ + k) 0 = ch (w.getD k 0)) (ha : at_ < 2 ^ 29) (g : Int32) {z pr r : Nat} {ps : List (List Int32)} {u : List Int32} (hr : ps.flatten.length + u.length + 2 ≤ r) (hd : ∀ x, rg z 5 x → ¬ rg b 14 x) {σ : Hp} (h : RubV σ b ks gs fs ss E) (hq : RowV σ q rq l) (hz : PieV σ z pr r ps u) : ∀ (n m : Nat), n ≤ 4 → n ≤ w.length → n < m → ∃ τ, J_X3_addCells_L3 m b q (nI at_) g z (nI n) σ = some (.inl (some (.int (nI (adv (pick ks gs g w n))))), τ) ∧ PieV τ z pr r ps (u ++ emt fs ss (pick ks gs g w n)) ∧ ag (rg z 5) σ τ := by
  have hlen := h.l40
  have hh := h
  obtain ⟨k0, ⟨r0, r1, r2, r3, r4⟩, k1, k2, k3, k4, k5⟩ := h
  intro n
  induction n with
  | zero =>
    intro m h4 hn hm
    obtain ⟨m, rfl⟩ : ∃ z, m = z + 1 := ⟨m - 1, by omega⟩
    obtain ⟨τ, a1, a2, a3⟩ := s_P_add hz (by omega) 63
    refine ⟨τ, ?_, a2, a3⟩
    show J_X3_addCells_L3b (J_X3_addCells_L3 m) b q (nI at_) g z (nI 0) σ = _
    unfold J_X3_addCells_L3b
    rw [if_pos (show nI 0 < 1 from nI_lt (b := 1) (by omega) (by omega)), jcv_ok hz.1 a1, jvV_ok]
    rfl
  | succ n ih =>
    intro m h4 hn hm
    obtain ⟨m, rfl⟩ : ∃ z, m = z + 1 := ⟨m - 1, by omega⟩
    have hwl : (w.take (n + 1)).length = n + 1 := by rw [List.length_take]; omega
    have hwt := hw.take (n + 1)
    have hkb := k27_b hwt
    have key := s_R_keyOf hq hwt (by omega) (by omega) ha (fun k hk => by
      rw [hl k (by omega)]
      simp [List.getD_eq_getElem?_getD, List.getElem?_take, show k < n + 1 by omega])
    rw [hwl] at key
    have pl := s_placeOf k1 (kc (k27 (w.take (n + 1))))
    rw [plc_kc hkb hI.kb] at pl
    obtain ⟨υ, i1, i2, i3⟩ := ih m (by omega) (by omega) (by omega)
    have hgo : ∀ (X : jR), X = J_X3_addCells_L3 m b q (nI at_) g z (nI (n + 1) + -1) σ → X = some (.inl (some (.int (nI (adv (pick ks gs g w n))))), υ) := fun X hX => by rw [hX, pk_m1]; exact i1
    show ∃ τ, J_X3_addCells_L3b (J_X3_addCells_L3 m) b q (nI at_) g z (nI (n + 1)) σ = _ ∧ _
    unfold J_X3_addCells_L3b jj pick
    dsimp only
    rw [if_neg (show ¬ nI (n + 1) < 1 from nI_nlt (b := 1) (by omega) (by omega)), jgR_ok k0, r0, jdr_ok, jcs_ok key, jvI_ok, jcv_ok k1.1 pl, jvI_ok]
    by_cases hm1 : k27 (w.take (n + 1)) ∈ ks
    · have hix := List.idxOf_lt_length_of_mem hm1
      rw [if_pos hm1]
      generalize hp : ks.idxOf (k27 (w.take (n + 1))) = p at *
      have hne : ¬ nI p = -1 := fun e => by
        have e1 := congrArg Int32.toInt e
        rw [nI_toInt (by omega)] at e1
        have : (-1 : Int32).toInt = -1 := by decide
        omega
      rw [if_neg hne, jgR_ok k0, r1, jdr_ok, jcv_ok k2.1 (s_get' k2 (by omega)), jvI_ok]
      by_cases hg : gs.getD p 0 ≤ g
      · have hng : ¬ g < gs.getD p 0 := fun e => by
          rw [Int32.lt_iff_toInt_lt] at e
          rw [Int32.le_iff_toInt_le] at hg
          omega
        rw [if_neg hng, if_pos ⟨hm1, hg⟩, jgR_ok k0, r2, jdr_ok, jcv_ok k3.1 (s_get' k3 (by omega)), jvI_ok]
        obtain ⟨τ, a1, a2, a3⟩ := s_P_add hz (by omega) (fs.getD p 0)
        have hb : ¬ rg z 5 b := fun e => hd _ e ⟨by omega, by omega⟩
        have t0 : kdH τ b = (1, 3) := by rw [a3.2.1]; exact k0
        have t3 : rfH τ b 3 = some (b + 7) := by rw [(a3.2.2.1 b hb).2]; exact r3
        have t4 := k4.keep a3 (fun e => hd _ e ⟨by omega, by omega⟩) (fun e => hd _ e ⟨by omega, by omega⟩)
        rw [jcv_ok hz.1 a1, jvV_ok, jgR_ok t0, t3, jdr_ok, jcv_ok t4.1 (s_get' t4 (by omega)), jvI_ok]
        unfold emt adv
        dsimp only
        by_cases hs : ss.getD p 0 = 0
        · rw [if_pos hs, if_pos hs]
          exact ⟨τ, rfl, a2, a3⟩
        · obtain ⟨φ, c1, c2, c3⟩ := s_P_add a2 (by simp only [List.length_append, List.length_cons, List.length_nil]; omega) (ss.getD p 0)
          rw [if_neg hs, if_neg hs, jgR_ok t0, t3, jdr_ok, jcv_ok t4.1 (s_get' t4 (by omega)), jvI_ok, jcv_ok a2.1 c1, jvV_ok]
          rw [List.append_assoc] at c2
          exact ⟨φ, rfl, c2, a3.tr c3⟩
      · have hng : g < gs.getD p 0 := by
          rw [Int32.lt_iff_toInt_lt]
          rw [Int32.le_iff_toInt_le] at hg
          omega
        rw [if_pos hng, if_neg (fun e => hg e.2)]
        exact ⟨υ, hgo _ rfl, i2, i3⟩
    · rw [if_neg hm1, if_pos rfl, if_neg (fun e => hm1 e.1)]
      exact ⟨υ, hgo _ rfl, i2, i3⟩
/-- the cells of a word -/
def trC (ks : List Nat) (gs fs ss : List Int32) (E : List (List Nat)) (g : Int32) (w : List Nat) : List Int32 := trW ks gs fs ss g (if w ∈ E then 1 else 4) w.length w
theorem getD_drop {l : List Nat} {i k : Nat} : (l.drop i).getD k 0 = l.getD (i + k) 0 := by simp [List.getD_eq_getElem?_getD, List.getElem?_drop]
theorem s_R_translate_L {b : Nat} {ks : List Nat} {gs fs ss : List Int32} {E : List (List Nat)} (hI : RubI ks gs fs ss E) {q rq : Nat} {l : List Int32} {s : Nat} {w : List Nat} (hw : lts w) (hwl : w.length < 2 ^ 28) (hl : ∀ k, k < w.length → l.getD (s + k) 0 = ch (w.getD k 0)) (ha : s < 2 ^ 28) (g : Int32) {M : Nat} (hM : 1 ≤ M) (hM4 : M ≤ 4) {z pr r : Nat} {ps : List (List Int32)} (hd : ∀ x, rg z 5 x → ¬ rg b 14 x) (hd1 : ¬ rg z 5 q) (hd2 : ¬ rg z 5 (q + 1)) : ∀ (d m i j : Nat) (σ : Hp) (u : List Int32), RubV σ b ks gs fs ss E → RowV σ q rq l → PieV σ z pr r ps u → w.length - i = d → i ≤ j → j ≤ w.length → ps.flatten.length + u.length + 2 * (w.length - j) ≤ r → d < m → ∃ τ, J_X3_translate_L36 m b q (nI (s + w.length)) g z (nI M) (nI (s + j)) (nI (s + i)) σ = some (.inl none, τ) ∧ PieV τ z pr r ps (u ++ trW ks gs fs ss g M (w.length - j) (w.drop j)) ∧ ag (rg z 5) σ τ := by
  intro d
  induction d with
  | zero =>
    intro m i j σ u h hq hz hk hij hj hr hm
    obtain ⟨m, rfl⟩ : ∃ z, m = z + 1 := ⟨m - 1, by omega⟩
    refine ⟨σ, ?_, by rw [show w.length - j = 0 by omega]; unfold trW; rw [List.append_nil]; exact hz, ag.rf⟩
    show J_X3_translate_L36b (J_X3_translate_L36 m) b q (nI (s + w.length)) g z (nI M) (nI (s + j)) (nI (s + i)) σ = _
    unfold J_X3_translate_L36b
    rw [if_pos (nI_le (by omega) (by omega))]
  | succ d ih =>
    intro m i j σ u h hq hz hk hij hj hr hm
    obtain ⟨m, rfl⟩ : ∃ z, m = z + 1 := ⟨m - 1, by omega⟩
    show ∃ τ, J_X3_translate_L36b (J_X3_translate_L36 m) b q (nI (s + w.length)) g z (nI M) (nI (s + j)) (nI (s + i)) σ = _ ∧ _
    unfold J_X3_translate_L36b jj
    dsimp only
    rw [if_neg (nI_ge (by omega) (by omega))]
    by_cases e : i = j
    · subst e
      have hwd := hw.drop i
      have hld : (w.drop i).length = w.length - i := List.length_drop ..
      have hb := pick_b ks gs g (w.drop i) (min M (w.length - i))
      have hb2 := hb.2 (by omega)
      have he := emt_b fs ss (pick ks gs g (w.drop i) (min M (w.length - i)))
      obtain ⟨τ, a1, a2, a3⟩ := s_R_addCells_L hI hwd (l := l) (at_ := s + i) (fun k hk => by rw [getD_drop, ← hl (i + k) (by omega), Nat.add_assoc]) (by omega) g (by omega) hd h hq hz (min M (w.length - i)) jN (by omega) (by omega) (by unfold jN; omega)
      have emin : (if nI (s + w.length) - nI (s + i) < nI M then nI (s + w.length) - nI (s + i) else nI M) = nI (min M (w.length - i)) := by
        rw [pk_sub (by omega), show s + w.length - (s + i) = w.length - i by omega]
        by_cases hc : w.length - i < M
        · rw [if_pos (nI_lt hc (by omega)), Nat.min_eq_right (by omega)]
        · rw [if_neg (nI_nlt (by omega) (by omega)), Nat.min_eq_left (by omega)]
      obtain ⟨υ, b1, b2, b3⟩ := ih m (i + 1) (i + adv (pick ks gs g (w.drop i) (min M (w.length - i)))) τ _ (h.keep a3 hd) (hq.keep a3 hd1 hd2) a2 (by omega) (by omega) (by omega) (by rw [List.length_append]; omega) (by omega)
      refine ⟨υ, ?_, ?_, a3.tr b3⟩
      · rw [if_pos rfl, emin, jcv_ok h.1 (J := J_X3_addCells b q (nI (s + i)) (nI (min M (w.length - i))) g z σ) a1, jvI_ok, nI_add, nI_1, Nat.add_assoc, Nat.add_assoc]
        exact b1
      · have e2 : trW ks gs fs ss g M (w.length - i) (w.drop i) = emt fs ss (pick ks gs g (w.drop i) (min M (w.length - i))) ++ trW ks gs fs ss g M (w.length - (i + adv (pick ks gs g (w.drop i) (min M (w.length - i))))) (w.drop (i + adv (pick ks gs g (w.drop i) (min M (w.length - i))))) := by
          obtain ⟨n, hn⟩ : ∃ n, w.length - i = n + 1 := ⟨w.length - i - 1, by omega⟩
          conv => lhs; rw [hn]; unfold trW
          rw [if_neg (fun z => by rw [z] at hld; simp at hld; omega), hld, List.drop_drop, hn, trW_f _ _ _ _ _ _ n (w.length - (i + adv (pick ks gs g (w.drop i) (min M (n + 1))))) _ (by rw [List.length_drop]; rw [hn] at hb; omega) (by rw [List.length_drop]; omega)]
        rw [e2, ← List.append_assoc]
        exact b2
    · obtain ⟨υ, b1, b2, b3⟩ := ih m (i + 1) j σ u h hq hz (by omega) (by omega) hj hr (by omega)
      refine ⟨υ, ?_, b2, b3⟩
      rw [if_neg (fun z => e (by have := (nI_eq (by omega) (by omega)).mp z; omega)), nI_1, Nat.add_assoc]
      exact b1
theorem s_R_translate {σ : Hp} {b : Nat} {ks : List Nat} {gs fs ss : List Int32} {E : List (List Nat)} (h : RubV σ b ks gs fs ss E) (hI : RubI ks gs fs ss E) {q rq : Nat} {l : List Int32} (hq : RowV σ q rq l) {s t : Nat} (hst : s ≤ t) (ht : t ≤ l.length) {w : List Nat} (hw : lts w) (hs : slc l s t = w.map ch) (g : Int32) {z pr r : Nat} {ps : List (List Int32)} {u : List Int32} (hz : PieV σ z pr r ps u) (hr : ps.flatten.length + u.length + 2 * w.length ≤ r) (hd : ∀ x, rg z 5 x → ¬ rg b 14 x) (hd1 : ¬ rg z 5 q) (hd2 : ¬ rg z 5 (q + 1)) : ∃ τ, J_X3_translate b q (nI s) (nI t) g z σ = some (.inl none, τ) ∧ PieV τ z pr r ps (u ++ trC ks gs fs ss E g w) ∧ ag (rg z 5) σ τ := by
  have hql := hq.2.2.2.2.1
  have hqr := hq.2.2.2.2.2.1
  have hsl := slc_len hst ht
  rw [hs, List.length_map] at hsl
  have hl : ∀ k, k < w.length → l.getD (s + k) 0 = ch (w.getD k 0) := fun k hk => by
    rw [← getD_map (f := ch) 0 hk, ← hs]
    unfold slc
    exact (slice_get (by omega)).symm
  have hx := s_R_exc h hI hq hst ht hw hs
  have hEb := h.2.2.2.2.2.2.b
  rw [List.length_map] at hEb
  obtain rfl : t = s + w.length := by omega
  unfold J_X3_translate jj trC
  dsimp only
  rw [jcv_ok h.1 hx, jvI_ok]
  by_cases e : w ∈ E
  · have hix := List.idxOf_lt_length_of_mem e
    have hne : ¬ nI (E.idxOf w) = -1 := fun z => by
      have e1 := congrArg Int32.toInt z
      rw [nI_toInt (by omega)] at e1
      have : (-1 : Int32).toInt = -1 := by decide
      omega
    rw [if_pos e, if_pos e, if_neg hne, if_neg (by decide)]
    obtain ⟨τ, a1, a2, a3⟩ := s_R_translate_L hI hw (by omega) hl (by omega) g (M := 1) (by omega) (by omega) hd hd1 hd2 w.length jN 0 0 σ u h hq hz rfl (Nat.le_refl _) (Nat.zero_le _) (by omega) (by unfold jN; omega)
    exact ⟨τ, a1, a2, a3⟩
  · rw [if_neg e, if_neg e, if_pos rfl, if_pos rfl]
    obtain ⟨τ, a1, a2, a3⟩ := s_R_translate_L hI hw (by omega) hl (by omega) g (M := 4) (by omega) (by omega) hd hd1 hd2 w.length jN 0 0 σ u h hq hz rfl (Nat.le_refl _) (Nat.zero_le _) (by omega) (by unfold jN; omega)
    exact ⟨τ, a1, a2, a3⟩
