/-! The class's calls on letters, rules and exceptions. -/
theorem ins_getN {l : List Nat} {j i : Nat} {x : Nat} (h : j ≤ l.length) : (ins l j x).getD i 0 = if i < j then l.getD i 0 else if i = j then x else l.getD (i - 1) 0 := by
  unfold ins
  simp only [List.getD_eq_getElem?_getD]
  by_cases h1 : i < j
  · rw [if_pos h1, List.getElem?_append_left (by rw [List.length_take]; omega), List.getElem?_take_of_lt h1]
  · rw [if_neg h1, List.getElem?_append_right (by rw [List.length_take]; omega), List.length_take, Nat.min_eq_left h]
    by_cases h2 : i = j
    · subst h2
      simp
    · rw [if_neg h2]
      obtain ⟨d, rfl⟩ : ∃ d, i = j + (d + 1) := ⟨i - j - 1, by omega⟩
      rw [show j + (d + 1) - j = d + 1 by omega, List.getElem?_cons_succ, List.getElem?_drop, show j + (d + 1) - 1 = j + d by omega]
theorem del_getN {l : List Nat} {j i : Nat} (h : j < l.length) : (del l j).getD i 0 = if i < j then l.getD i 0 else l.getD (i + 1) 0 := by
  unfold del
  simp only [List.getD_eq_getElem?_getD]
  by_cases h1 : i < j
  · rw [if_pos h1, List.getElem?_append_left (by rw [List.length_take]; omega), List.getElem?_take_of_lt h1]
  · rw [if_neg h1, List.getElem?_append_right (by rw [List.length_take]; omega), List.length_take, Nat.min_eq_left (by omega), List.getElem?_drop, show j + 1 + (i - j) = i + 1 by omega]
theorem ins_mem {α : Type} {l : List α} {j : Nat} {x y : α} (h : y ∈ ins l j x) : y = x ∨ y ∈ l := by
  unfold ins at h
  rcases List.mem_append.mp h with z | z
  · exact Or.inr (List.mem_of_mem_take z)
  · rcases List.mem_cons.mp z with z | z
    · exact Or.inl z
    · exact Or.inr (List.mem_of_mem_drop z)
theorem del_mem {α : Type} {l : List α} {j : Nat} {y : α} (h : y ∈ del l j) : y ∈ l := by
  unfold del at h
  rcases List.mem_append.mp h with z | z
  · exact List.mem_of_mem_take z
  · exact List.mem_of_mem_drop z
theorem set_memx {α : Type} {l : List α} {j : Nat} {x y : α} (h : y ∈ l.set j x) : y = x ∨ y ∈ l := by
  rcases List.mem_or_eq_of_mem_set h with z | z
  · exact Or.inr z
  · exact Or.inl z
/-- where a new key goes -/
theorem key_place {ks : List Nat} (hs : ∀ i j, i < j → j < ks.length → ks.getD i 0 < ks.getD j 0) {k : Nat} (hk : k ∉ ks) : ∃ p, p ≤ ks.length ∧ (∀ i, i < p → ks.getD i 0 < k) ∧ ∀ i, p ≤ i → i < ks.length → k < ks.getD i 0 := by
  obtain ⟨p, h1, h2⟩ := pk_least (fun p => p = ks.length ∨ (p < ks.length ∧ k < ks.getD p 0)) ⟨ks.length, Or.inl rfl⟩
  have hp : p ≤ ks.length := by
    rcases h1 with h | h
    · omega
    · omega
  refine ⟨p, hp, fun i hi => ?_, fun i hi hil => ?_⟩
  · have := h2 i hi
    have hne : ks.getD i 0 ≠ k := fun e => hk (e ▸ getD_mem 0 (by omega))
    apply Classical.byContradiction
    intro z
    exact this (Or.inr ⟨by omega, by omega⟩)
  · rcases h1 with h | h
    · omega
    · by_cases e : i = p
      · rw [e]; exact h.2
      · have := hs p i (by omega) hil
        omega
theorem RubI.tIns {ks : List Nat} {gs fs ss : List Int32} {E : List (List Nat)} (h : RubI ks gs fs ss E) {w : List Nat} (hw : lts w) (hw1 : 1 ≤ w.length) (hw4 : w.length ≤ 4) {p : Nat} (hp : p ≤ ks.length) (h1 : ∀ i, i < p → ks.getD i 0 < k27 w) (h2 : ∀ i, p ≤ i → i < ks.length → k27 w < ks.getD i 0) (g y : Int32) {x : Int32} (hx : x ≠ 0) : RubI (ins ks p (k27 w)) (ins gs p g) (ins fs p x) (ins ss p y) E := by
  obtain ⟨a, b, c, d, e, f, i⟩ := h
  refine ⟨by rw [ins_len (by omega), ins_len hp, a], by rw [ins_len (by omega), ins_len hp, b], by rw [ins_len (by omega), ins_len hp, c], fun z hz => ?_, fun m n hmn hn => ?_, fun z hz => ?_, i⟩
  · rcases ins_mem hz with z1 | z1
    · exact ⟨w, hw, hw1, hw4, z1⟩
    · exact d z z1
  · rw [ins_len hp] at hn
    rw [ins_getN hp, ins_getN hp]
    by_cases c1 : m < p
    · rw [if_pos c1]
      by_cases c2 : n < p
      · rw [if_pos c2]; exact e m n hmn (by omega)
      · rw [if_neg c2]
        by_cases c3 : n = p
        · rw [if_pos c3]; exact h1 m c1
        · rw [if_neg c3]
          by_cases c4 : m = n - 1
          · omega
          · exact e m (n - 1) (by omega) (by omega)
    · rw [if_neg c1, if_neg (show ¬ n < p by omega), if_neg (show ¬ n = p by omega)]
      by_cases c3 : m = p
      · rw [if_pos c3]; exact h2 (n - 1) (by omega) (by omega)
      · rw [if_neg c3]; exact e (m - 1) (n - 1) (by omega) (by omega)
  · rcases ins_mem hz with z1 | z1
    · rw [z1]; exact hx
    · exact f z z1
theorem RubI.tSet {ks : List Nat} {gs fs ss : List Int32} {E : List (List Nat)} (h : RubI ks gs fs ss E) (p : Nat) (g y : Int32) {x : Int32} (hx : x ≠ 0) : RubI ks (gs.set p g) (fs.set p x) (ss.set p y) E := by
  obtain ⟨a, b, c, d, e, f, i⟩ := h
  refine ⟨by rw [List.length_set, a], by rw [List.length_set, b], by rw [List.length_set, c], d, e, fun z hz => ?_, i⟩
  rcases set_memx hz with z1 | z1
  · rw [z1]; exact hx
  · exact f z z1
theorem RubI.tDel {ks : List Nat} {gs fs ss : List Int32} {E : List (List Nat)} (h : RubI ks gs fs ss E) {p : Nat} (hp : p < ks.length) : RubI (del ks p) (del gs p) (del fs p) (del ss p) E := by
  obtain ⟨a, b, c, d, e, f, i⟩ := h
  refine ⟨by rw [del_len (by omega), del_len hp, a], by rw [del_len (by omega), del_len hp, b], by rw [del_len (by omega), del_len hp, c], fun z hz => d z (del_mem hz), fun m n hmn hn => ?_, fun z hz => f z (del_mem hz), i⟩
  rw [del_len hp] at hn
  rw [del_getN hp, del_getN hp]
  by_cases c1 : m < p
  · rw [if_pos c1]
    by_cases c2 : n < p
    · rw [if_pos c2]; exact e m n hmn (by omega)
    · rw [if_neg c2]; exact e m (n + 1) (by omega) (by omega)
  · rw [if_neg c1, if_neg (show ¬ n < p by omega)]
    exact e (m + 1) (n + 1) (by omega) (by omega)
theorem RubI.excA {ks : List Nat} {gs fs ss : List Int32} {E : List (List Nat)} (h : RubI ks gs fs ss E) {w : List Nat} (hw : lts w) (hw1 : 1 ≤ w.length) (hw2 : w.length ≤ 80) (hn : w ∉ E) : RubI ks gs fs ss (E ++ [w]) := by
  obtain ⟨a, b, c, d, e, f, i, j⟩ := h
  refine ⟨a, b, c, d, e, f, fun z hz => ?_, ?_⟩
  · rcases List.mem_append.mp hz with y | y
    · exact i z y
    · rw [List.mem_singleton.mp y]; exact ⟨hw, hw1, hw2⟩
  · rw [List.nodup_append]
    refine ⟨j, by simp, fun x hx y hy e => hn ?_⟩
    rw [List.mem_singleton] at hy
    rw [← hy, ← e]
    exact hx
theorem RubI.excD {ks : List Nat} {gs fs ss : List Int32} {E : List (List Nat)} (h : RubI ks gs fs ss E) (p : Nat) : RubI ks gs fs ss (del E p) := by
  obtain ⟨a, b, c, d, e, f, i, j⟩ := h
  refine ⟨a, b, c, d, e, f, fun z hz => i z (del_mem hz), ?_⟩
  have : del E p = E.eraseIdx p := (List.eraseIdx_eq_take_drop_succ ..).symm
  rw [this]
  exact List.Sublist.nodup (List.eraseIdx_sublist ..) j
/-- what the class's texts are before their cells are made anew -/
theorem old_ok {buf ks : List Nat} {gs fs ss : List Int32} {E : List (List Nat)} {n : Nat} {T : Nat → Tx} {W : Nat} (h : ClsI buf ks gs fs ss E n T W) : ∀ j, j < n → (clO ks gs fs ss E (T j)).length = (wd (tX (T j))).length ∧ WdI (wd (tX (T j))) ∧ (tM (T j)).length = 2 * (wd (tX (T j))).length := fun j hj => by
  obtain ⟨⟨a, b⟩, c, _⟩ := h.2.2.2.2 j hj
  exact ⟨by unfold clO; rw [List.length_map], wd_I a b, c⟩
theorem TR.clsI {buf buf' ks ks' : List Nat} {gs fs ss gs' fs' ss' : List Int32} {E E' : List (List Nat)} {n : Nat} {T T' : Nat → Tx} {W : Nat} (h : ClsI buf ks gs fs ss E n T W) {new old : Nat → List (List Int32)} (hT : TR n 0 T T' new old) (hb : (∀ c ∈ buf', c ≤ 26) ∧ buf'.length ≤ 80) (hI : RubI ks' gs' fs' ss' E') : ClsI buf' ks' gs' fs' ss' E' n T' W := by
  refine ⟨hb, hI, h.2.2.1, h.2.2.2.1, fun j hj => ?_⟩
  obtain ⟨v1, v2, v3, v4, v5, v6⟩ := hT j hj
  obtain ⟨a, b, c⟩ := h.2.2.2.2 j hj
  rw [v2, v5]
  refine ⟨a, b, fun x hx => ?_⟩
  obtain ⟨k, hk, e⟩ := List.mem_iff_getElem.mp hx
  have e2 : (tM (T' j)).getD k 0 = x := by simp [List.getD_eq_getElem?_getD, hk, e]
  have hk2 : k < (tM (T j)).length := by rw [← v5]; exact hk
  rw [v6 k hk2] at e2
  by_cases q : 0 ≤ j ∧ shr (new j) (old j) (k / 2) = false
  · rw [if_pos q] at e2
    rw [← e2]
    exact Or.inl rfl
  · rw [if_neg q] at e2
    rw [← e2]
    exact c _ (getD_mem 0 hk2)
theorem jrtS {x : Int32} {σ : Hp} (h : (x.toUInt32 % 65536).toInt32 = x) : jrt .char ((x.toUInt32 % 65536).toInt32) σ = some (.inl (some (.int x)), σ) := by
  unfold jrt
  rw [if_pos (pk_vc _), h]
theorem char_nI {k : Nat} (h : k < 65536) : ((nI k).toUInt32 % 65536).toInt32 = nI k := by
  rw [pk_char, pk_tn (by omega), Nat.mod_eq_of_lt h]
/-- a letter or a blank -/
def isT (v : Int32) : Prop := v = 32 ∨ inR v 97 122
theorem isT_code {v : Int32} (h : isT v) : ∃ c, c ≤ 26 ∧ v = bc c := by
  rcases h with h | ⟨h1, h2⟩
  · exact ⟨0, by omega, by rw [h]; rfl⟩
  · rw [Int32.lt_iff_toInt_lt] at h1 h2
    have e1 : (97 : Int32).toInt = 97 := by decide
    have e2 : (122 : Int32).toInt = 122 := by decide
    obtain ⟨k, hk, rfl⟩ := nI_of (x := v) (fun z => by
      rw [Int32.lt_iff_toInt_lt] at z
      have : (0 : Int32).toInt = 0 := by decide
      omega)
    rw [nI_toInt hk] at h1 h2
    refine ⟨k - 96, by omega, ?_⟩
    unfold bc
    rw [if_neg (by omega)]
    congr 1
    omega
theorem s_D_type {σ : Hp} {d : Nat} {buf ks : List Nat} {gs fs ss : List Int32} {E : List (List Nat)} {n : Nat} {T : Nat → Tx} {W : Nat} {wr : List Int32} {be : Int32} (h : ClsV σ d buf ks gs fs ss E n T W wr be) (hI : ClsI buf ks gs fs ss E n T W) (v : Int32) : (¬ isT v ∧ J_X5_type d v σ = some (.inr "java/lang/IllegalArgumentException", thS σ)) ∨ (isT v ∧ buf.length = 80 ∧ J_X5_type d v σ = some (.inr "java/lang/IllegalStateException", thS σ)) ∨ (isT v ∧ buf.length < 80 ∧ ∃ c τ, c ≤ 26 ∧ v = bc c ∧ J_X5_type d v σ = some (.inl (some (.int (nI (buf.length + 1)))), τ) ∧ ClsV τ d (buf ++ [c]) ks gs fs ss E n T W wr be ∧ ClsI (buf ++ [c]) ks gs fs ss E n T W ∧ ag (rw2 (d + 1)) σ τ) := by
  have hh := h
  obtain ⟨⟨k0, r0, r1, r2, r3, r4, i5, i6⟩, k1, k2, k3, k4, k5, k6, k7⟩ := h
  have hl := hI.1.2
  have full := s_isFull k1
  rw [List.length_map] at full
  have go : isT v → (buf.length = 80 ∧ J_X5_type d v σ = some (.inr "java/lang/IllegalStateException", thS σ)) ∨ (buf.length < 80 ∧ ∃ c τ, c ≤ 26 ∧ v = bc c ∧ J_X5_type d v σ = some (.inl (some (.int (nI (buf.length + 1)))), τ) ∧ ClsV τ d (buf ++ [c]) ks gs fs ss E n T W wr be ∧ ClsI (buf ++ [c]) ks gs fs ss E n T W ∧ ag (rw2 (d + 1)) σ τ) := by
    intro hv
    obtain ⟨c, hc, e⟩ := isT_code hv
    have hJ : J_X5_type d v σ = jgR σ d 5 0 (fun r2 => jdr r2 (fun b3 => jcv σ b3 2 (J_X2_isFull b3 σ) (fun w5 t4 => jvI w5 (fun x6 => (if x6 = 0 then jgR t4 d 5 0 (fun r7 => jdr r7 (fun b8 => jcv t4 b8 2 (J_X2_add b8 v t4) (fun w10 t9 => jvV w10 (jgR t9 d 5 0 (fun r11 => jdr r11 (fun b12 => jcv t9 b12 2 (J_X2_count b12 t9) (fun w14 t13 => jvI w14 (fun x15 => some (.inl (some (.int x15)), t13))) (fun E t => some (.inr E, t)))))) (fun E t => some (.inr E, t)))) else some (.inr "java/lang/IllegalStateException", thS t4)))) (fun E t => some (.inr E, t)))) := by
      unfold J_X5_type jj
      dsimp only
      rcases hv with z | ⟨z1, z2⟩
      · rw [if_pos z]
      · by_cases z0 : v = 32
        · rw [if_pos z0]
        · rw [if_neg z0, if_neg z1, if_pos (by
            rw [Int32.lt_iff_toInt_lt] at z2
            rw [Int32.le_iff_toInt_le]
            omega)]
    rw [hJ, jgR_ok k0, r0, jdr_ok, jcv_ok k1.1 full, jvI_ok]
    by_cases c80 : buf.length < 80
    · right
      obtain ⟨τ, a1, a2, a3⟩ := s_add k1 (by rw [List.length_map]; exact c80) v
      have t0 : kdH τ d = (1, 5) := by rw [a3.2.1]; exact k0
      have tr : rfH τ d 0 = some (d + 1) := by rw [(a3.2.2.1 d (by unfold rw2; omega)).2]; exact r0
      rw [decide_eq_false (by omega), if_pos (show bI false = 0 by decide), jgR_ok k0, r0, jdr_ok, jcv_ok k1.1 a1, jvV_ok, jgR_ok t0, tr, jdr_ok, jcv_ok a2.1 (s_count a2), jvI_ok]
      rw [e] at a2
      refine ⟨c80, c, τ, hc, e, by rw [List.length_append, List.length_map]; rfl, hh.sBuf a3 (by rw [List.map_append]; exact a2), ⟨⟨fun x hx => ?_, by rw [List.length_append]; simp; omega⟩, hI.2⟩, a3⟩
      rcases List.mem_append.mp hx with y | y
      · exact hI.1.1 x y
      · rw [List.mem_singleton.mp y]; exact hc
    · left
      rw [decide_eq_true (by omega), if_neg (by decide)]
      exact ⟨by omega, rfl⟩
  by_cases hv : isT v
  · rcases go hv with z | z
    · exact Or.inr (Or.inl ⟨hv, z⟩)
    · exact Or.inr (Or.inr ⟨hv, z⟩)
  · refine Or.inl ⟨hv, ?_⟩
    unfold J_X5_type jj
    dsimp only
    rw [if_neg (fun z => hv (Or.inl z))]
    by_cases z1 : v < 97
    · rw [if_pos z1]
    · rw [if_neg z1, if_neg (fun z2 => hv (Or.inr ⟨z1, by
        rw [Int32.lt_iff_toInt_lt]
        rw [Int32.le_iff_toInt_le] at z2
        omega⟩))]
theorem ClsI.emp {buf ks : List Nat} {gs fs ss : List Int32} {E : List (List Nat)} {n : Nat} {T : Nat → Tx} {W : Nat} (h : ClsI buf ks gs fs ss E n T W) : ClsI [] ks gs fs ss E n T W := ⟨⟨fun c hc => by simp at hc, by simp⟩, h.2⟩
theorem s_D_clear {σ : Hp} {d : Nat} {buf ks : List Nat} {gs fs ss : List Int32} {E : List (List Nat)} {n : Nat} {T : Nat → Tx} {W : Nat} {wr : List Int32} {be : Int32} (h : ClsV σ d buf ks gs fs ss E n T W wr be) : ∃ τ, J_X5_clear d σ = some (.inl (some (.int (nI buf.length))), τ) ∧ ClsV τ d [] ks gs fs ss E n T W wr be ∧ ag (rw2 (d + 1)) σ τ := by
  have hh := h
  obtain ⟨⟨k0, r0, r1, r2, r3, r4, i5, i6⟩, k1, k2, k3, k4, k5, k6, k7⟩ := h
  obtain ⟨τ, a1, a2, a3⟩ := s_empty k1
  refine ⟨τ, ?_, hh.sBuf a3 a2, a3⟩
  unfold J_X5_clear
  rw [jgR_ok k0, r0, jdr_ok, jcv_ok k1.1 (s_count k1), jvI_ok, jgR_ok k0, r0, jdr_ok, jcv_ok k1.1 a1, jvV_ok, List.length_map]
