/-! What the class answers of texts, and marks. -/
theorem ClsV.t {σ : Hp} {d : Nat} {buf ks : List Nat} {gs fs ss : List Int32} {E : List (List Nat)} {n : Nat} {T : Nat → Tx} {W : Nat} {wr : List Int32} {be : Int32} (h : ClsV σ d buf ks gs fs ss E n T W wr be) {i : Nat} (hi : i < n) : TxtV σ (tA (T i)) (tG (T i)) (wd (tX (T i))) (clO ks gs fs ss E (T i)) (tM (T i)) (lay W (clO ks gs fs ss E (T i))) (flS W ([], []) (clO ks gs fs ss E (T i))) (tE (T i)) := h.2.2.2.2.2.2.1 i hi
theorem clO_len (ks : List Nat) (gs fs ss : List Int32) (E : List (List Nat)) (x : Tx) : (clO ks gs fs ss E x).length = (wd (tX x)).length := List.length_map ..
theorem s_D_words {σ : Hp} {d : Nat} {buf ks : List Nat} {gs fs ss : List Int32} {E : List (List Nat)} {n : Nat} {T : Nat → Tx} {W : Nat} {wr : List Int32} {be : Int32} (h : ClsV σ d buf ks gs fs ss E n T W wr be) (hn : n ≤ 6) (x : Int32) : (∃ i, i < n ∧ x = nI i ∧ J_X5_words d x σ = some (.inl (some (.int (nI (wd (tX (T i))).length))), σ)) ∨ (¬ inN x n ∧ J_X5_words d x σ = some (.inr "java/lang/IndexOutOfBoundsException", thS σ)) := by
  unfold J_X5_words
  rcases s_D_textNumbered h hn x with ⟨i, hi, hx, e⟩ | ⟨hx, e⟩
  · exact Or.inl ⟨i, hi, hx, by rw [jcv_ok h.1.1 e, jvA_ok, jcv_ok (h.t hi).1.1 (s_T_wordCount (h.t hi)), jvI_ok]⟩
  · exact Or.inr ⟨hx, by rw [jcv_x h.1.1 e]⟩
theorem s_D_length {σ : Hp} {d : Nat} {buf ks : List Nat} {gs fs ss : List Int32} {E : List (List Nat)} {n : Nat} {T : Nat → Tx} {W : Nat} {wr : List Int32} {be : Int32} (h : ClsV σ d buf ks gs fs ss E n T W wr be) (hn : n ≤ 6) (x y : Int32) : (∃ i j, i < n ∧ j < (wd (tX (T i))).length ∧ x = nI i ∧ y = nI j ∧ J_X5_length d x y σ = some (.inl (some (.int (nI ((clO ks gs fs ss E (T i)).getD j []).length))), σ)) ∨ (¬ inW x y n T ∧ J_X5_length d x y σ = some (.inr "java/lang/IndexOutOfBoundsException", thS σ)) := by
  unfold J_X5_length
  rcases s_D_textWithWord h hn x y with ⟨i, j, hi, hj, hx, hy, e⟩ | ⟨hx, e⟩
  · refine Or.inl ⟨i, j, hi, hj, hx, hy, ?_⟩
    rw [jcv_ok h.1.1 e, jvA_ok, hy, jcv_ok (h.t hi).1.1 (s_T_cellCount (h.t hi) (by rw [clO_len]; exact hj)), jvI_ok]
  · exact Or.inr ⟨hx, by rw [jcv_x h.1.1 e]⟩
theorem s_D_cellOf {σ : Hp} {d : Nat} {buf ks : List Nat} {gs fs ss : List Int32} {E : List (List Nat)} {n : Nat} {T : Nat → Tx} {W : Nat} {wr : List Int32} {be : Int32} (h : ClsV σ d buf ks gs fs ss E n T W wr be) (hn : n ≤ 6) (x y z : Int32) : (∃ i j, i < n ∧ j < (wd (tX (T i))).length ∧ x = nI i ∧ y = nI j ∧ ((∃ k, k < ((clO ks gs fs ss E (T i)).getD j []).length ∧ z = nI k ∧ J_X5_cellOf d x y z σ = some (.inl (some (.int (((clO ks gs fs ss E (T i)).getD j []).getD k 0))), σ)) ∨ (¬ inN z ((clO ks gs fs ss E (T i)).getD j []).length ∧ J_X5_cellOf d x y z σ = some (.inr "java/util/NoSuchElementException", thS σ)))) ∨ (¬ inW x y n T ∧ J_X5_cellOf d x y z σ = some (.inr "java/lang/IndexOutOfBoundsException", thS σ)) := by
  unfold J_X5_cellOf jj
  dsimp only
  rcases s_D_textWithWord h hn x y with ⟨i, j, hi, hj, hx, hy, e⟩ | ⟨hx, e⟩
  · refine Or.inl ⟨i, j, hi, hj, hx, hy, ?_⟩
    have hjl : j < (clO ks gs fs ss E (T i)).length := by rw [clO_len]; exact hj
    have hb := (h.t hi).2.2.1.b
    have h1 := sz_succ (clO ks gs fs ss E (T i)) j
    have h2 := sz_le (clO ks gs fs ss E (T i)) (j + 1)
    rw [jcv_ok h.1.1 e, jvA_ok, hy]
    rcases pk_ix z (n := ((clO ks gs fs ss E (T i)).getD j []).length) (by omega) with c | c | ⟨k, hk, rfl⟩
    · exact Or.inr ⟨fun ⟨k, k1, k2⟩ => by rw [k2] at c; exact nI_pos (by omega) c, by rw [if_pos c]⟩
    · refine Or.inr ⟨fun ⟨k, k1, k2⟩ => by rw [k2] at c; exact nI_ge k1 (by omega) c, ?_⟩
      by_cases c0 : z < 0
      · rw [if_pos c0]
      · have : ¬ z < nI ((clO ks gs fs ss E (T i)).getD j []).length := fun q => by
          rw [Int32.lt_iff_toInt_lt] at q
          rw [Int32.le_iff_toInt_le] at c
          omega
        rw [if_neg c0, jcv_ok (h.t hi).1.1 (s_T_cellCount (h.t hi) hjl), jvI_ok, if_neg this]
    · refine Or.inl ⟨k, hk, rfl, ?_⟩
      rw [if_neg (nI_pos (by omega)), jcv_ok (h.t hi).1.1 (s_T_cellCount (h.t hi) hjl), jvI_ok, if_pos (nI_lt hk (by omega)), jcv_ok (h.t hi).1.1 (s_T_cellAt (h.t hi) hjl hk), jvI_ok]
  · exact Or.inr ⟨hx, by rw [jcv_x h.1.1 e]⟩
theorem s_D_lines {σ : Hp} {d : Nat} {buf ks : List Nat} {gs fs ss : List Int32} {E : List (List Nat)} {n : Nat} {T : Nat → Tx} {W : Nat} {wr : List Int32} {be : Int32} (h : ClsV σ d buf ks gs fs ss E n T W wr be) (hn : n ≤ 6) (x : Int32) : (∃ i, i < n ∧ x = nI i ∧ J_X5_lines d x σ = some (.inl (some (.int (nI (lay W (clO ks gs fs ss E (T i))).length))), σ)) ∨ (¬ inN x n ∧ J_X5_lines d x σ = some (.inr "java/lang/IndexOutOfBoundsException", thS σ)) := by
  unfold J_X5_lines
  rcases s_D_textNumbered h hn x with ⟨i, hi, hx, e⟩ | ⟨hx, e⟩
  · exact Or.inl ⟨i, hi, hx, by rw [jcv_ok h.1.1 e, jvA_ok, jcv_ok (h.t hi).1.1 (s_T_lineCount (h.t hi)), jvI_ok]⟩
  · exact Or.inr ⟨hx, by rw [jcv_x h.1.1 e]⟩
theorem s_D_lineAt {σ : Hp} {d : Nat} {buf ks : List Nat} {gs fs ss : List Int32} {E : List (List Nat)} {n : Nat} {T : Nat → Tx} {W : Nat} {wr : List Int32} {be : Int32} (h : ClsV σ d buf ks gs fs ss E n T W wr be) (hn : n ≤ 6) (x y z : Int32) : (∃ i, i < n ∧ x = nI i ∧ ((¬ inN y (lay W (clO ks gs fs ss E (T i))).length ∧ J_X5_lineAt d x y z σ = some (.inr "java/lang/IndexOutOfBoundsException", thS σ)) ∨ ∃ j, j < (lay W (clO ks gs fs ss E (T i))).length ∧ y = nI j ∧ ((∃ k, k < ((lay W (clO ks gs fs ss E (T i))).getD j []).length ∧ z = nI k ∧ J_X5_lineAt d x y z σ = some (.inl (some (.int (((lay W (clO ks gs fs ss E (T i))).getD j []).getD k 0))), σ)) ∨ (¬ inN z ((lay W (clO ks gs fs ss E (T i))).getD j []).length ∧ J_X5_lineAt d x y z σ = some (.inr "java/util/NoSuchElementException", thS σ))))) ∨ (¬ inN x n ∧ J_X5_lineAt d x y z σ = some (.inr "java/lang/IndexOutOfBoundsException", thS σ)) := by
  unfold J_X5_lineAt jj
  dsimp only
  rcases s_D_textNumbered h hn x with ⟨i, hi, hx, e⟩ | ⟨hx, e⟩
  · refine Or.inl ⟨i, hi, hx, ?_⟩
    have hV := h.t hi
    generalize lay W (clO ks gs fs ss E (T i)) = L at hV ⊢
    have hb := hV.2.2.2.2.1.b
    rw [jcv_ok h.1.1 e, jvA_ok]
    rcases pk_ix y (n := L.length) (by omega) with c | c | ⟨j, hj, rfl⟩
    · exact Or.inl ⟨fun ⟨k, k1, k2⟩ => by rw [k2] at c; exact nI_pos (by omega) c, by rw [if_pos c]⟩
    · refine Or.inl ⟨fun ⟨k, k1, k2⟩ => by rw [k2] at c; exact nI_ge k1 (by omega) c, ?_⟩
      by_cases c0 : y < 0
      · rw [if_pos c0]
      · have : ¬ y < nI L.length := fun q => by
          rw [Int32.lt_iff_toInt_lt] at q
          rw [Int32.le_iff_toInt_le] at c
          omega
        rw [if_neg c0, jcv_ok hV.1.1 (s_T_lineCount hV), jvI_ok, if_neg this]
    · refine Or.inr ⟨j, hj, rfl, ?_⟩
      have h1 := sz_succ L j
      have h2 := sz_le L (j + 1)
      rw [if_neg (nI_pos (by omega)), jcv_ok hV.1.1 (s_T_lineCount hV), jvI_ok, if_pos (nI_lt hj (by omega))]
      rcases pk_ix z (n := (L.getD j []).length) (by omega) with c | c | ⟨k, hk, rfl⟩
      · exact Or.inr ⟨fun ⟨k, k1, k2⟩ => by rw [k2] at c; exact nI_pos (by omega) c, by rw [if_pos c]⟩
      · refine Or.inr ⟨fun ⟨k, k1, k2⟩ => by rw [k2] at c; exact nI_ge k1 (by omega) c, ?_⟩
        by_cases c0 : z < 0
        · rw [if_pos c0]
        · have : ¬ z < nI (L.getD j []).length := fun q => by
            rw [Int32.lt_iff_toInt_lt] at q
            rw [Int32.le_iff_toInt_le] at c
            omega
          rw [if_neg c0, jcv_ok hV.1.1 (s_T_lineSize hV hj), jvI_ok, if_neg this]
      · refine Or.inl ⟨k, hk, rfl, ?_⟩
        rw [if_neg (nI_pos (by omega)), jcv_ok hV.1.1 (s_T_lineSize hV hj), jvI_ok, if_pos (nI_lt hk (by omega)), jcv_ok hV.1.1 (s_T_laidCellAt hV hj hk), jvI_ok]
  · exact Or.inr ⟨hx, by rw [jcv_x h.1.1 e]⟩
theorem s_D_lineOf {σ : Hp} {d : Nat} {buf ks : List Nat} {gs fs ss : List Int32} {E : List (List Nat)} {n : Nat} {T : Nat → Tx} {W : Nat} {wr : List Int32} {be : Int32} (h : ClsV σ d buf ks gs fs ss E n T W wr be) (hn : n ≤ 6) (x y : Int32) : (∃ i j, i < n ∧ j < (wd (tX (T i))).length ∧ x = nI i ∧ y = nI j ∧ J_X5_lineOf d x y σ = some (.inl (some (.int ((flS W ([], []) (clO ks gs fs ss E (T i))).getD j 0))), σ)) ∨ (¬ inW x y n T ∧ J_X5_lineOf d x y σ = some (.inr "java/lang/IndexOutOfBoundsException", thS σ)) := by
  unfold J_X5_lineOf
  rcases s_D_textWithWord h hn x y with ⟨i, j, hi, hj, hx, hy, e⟩ | ⟨hx, e⟩
  · refine Or.inl ⟨i, j, hi, hj, hx, hy, ?_⟩
    have hb := (h.t hi).2.1.b
    rw [List.length_map] at hb
    rw [jcv_ok h.1.1 e, jvA_ok, hy, jcv_ok (h.t hi).1.1 (s_T_firstLineOf (h.t hi) (by omega)), jvI_ok]
  · exact Or.inr ⟨hx, by rw [jcv_x h.1.1 e]⟩
theorem s_D_changed {σ : Hp} {d : Nat} {buf ks : List Nat} {gs fs ss : List Int32} {E : List (List Nat)} {n : Nat} {T : Nat → Tx} {W : Nat} {wr : List Int32} {be : Int32} (h : ClsV σ d buf ks gs fs ss E n T W wr be) (hn : n ≤ 6) (x : Int32) : (∃ i, i < n ∧ x = nI i ∧ J_X5_changed d x σ = some (.inl (some (.int (nI (cntD (fun j => !shr (lay W (clO ks gs fs ss E (T i))) (tE (T i)) j) (max (lay W (clO ks gs fs ss E (T i))).length (tE (T i)).length) 0)))), σ)) ∨ (¬ inN x n ∧ J_X5_changed d x σ = some (.inr "java/lang/IndexOutOfBoundsException", thS σ)) := by
  unfold J_X5_changed
  rcases s_D_textNumbered h hn x with ⟨i, hi, hx, e⟩ | ⟨hx, e⟩
  · exact Or.inl ⟨i, hi, hx, by rw [jcv_ok h.1.1 e, jvA_ok, jcv_ok (h.t hi).1.1 (s_T_otherLineCount (h.t hi)), jvI_ok]⟩
  · exact Or.inr ⟨hx, by rw [jcv_x h.1.1 e]⟩
theorem s_D_setBearing {σ : Hp} {d : Nat} {buf ks : List Nat} {gs fs ss : List Int32} {E : List (List Nat)} {n : Nat} {T : Nat → Tx} {W : Nat} {wr : List Int32} {be : Int32} (h : ClsV σ d buf ks gs fs ss E n T W wr be) (x : Int32) : (¬ inR x 10 9999 ∧ J_X5_setBearing d x σ = some (.inr "java/lang/IllegalArgumentException", thS σ)) ∨ (inR x 10 9999 ∧ ∃ τ, J_X5_setBearing d x σ = some (.inl (some (.int be)), τ) ∧ ClsV τ d buf ks gs fs ss E n T W wr x ∧ ag (clP d n T) σ τ) := by
  have hh := h
  obtain ⟨⟨k0, r0, r1, r2, _⟩, k1, k2, ⟨pl, k3⟩, _⟩ := h
  unfold J_X5_setBearing jj
  dsimp only
  by_cases c : x < 10
  · exact Or.inl ⟨fun z => z.1 c, by rw [if_pos c]⟩
  · by_cases c2 : x ≤ 9999
    · obtain ⟨τ, a1, a2, a3⟩ := s_E_changeBearing k3 x
      refine Or.inr ⟨⟨c, fun z => ?_⟩, τ, ?_, hh.sEmb a3 a2, a3.up (clP_1 (by omega) (by omega))⟩
      · rw [Int32.lt_iff_toInt_lt] at z
        rw [Int32.le_iff_toInt_le] at c2
        omega
      · rw [if_neg c, if_pos c2, jgR_ok k0, r2, jdr_ok, jcv_ok k3.1 a1, jvI_ok]
    · refine Or.inl ⟨fun z => z.2 ?_, by rw [if_neg c, if_neg c2]⟩
      rw [Int32.lt_iff_toInt_lt]
      rw [Int32.le_iff_toInt_le] at c2
      omega
/-- a pin's number -/
theorem pin_of {x : Int32} (h1 : ¬ x < 1) (h2 : x ≤ 6) : ∃ j, j < 6 ∧ x = nI (j + 1) := by
  rw [Int32.lt_iff_toInt_lt] at h1
  rw [Int32.le_iff_toInt_le] at h2
  have e1 : (1 : Int32).toInt = 1 := by decide
  have e2 : (6 : Int32).toInt = 6 := by decide
  obtain ⟨k, hk, rfl⟩ := nI_of (x := x) (fun z => by
    rw [Int32.lt_iff_toInt_lt] at z
    have : (0 : Int32).toInt = 0 := by decide
    omega)
  rw [nI_toInt hk] at h1 h2
  exact ⟨k - 1, by omega, by rw [show k - 1 + 1 = k by omega]⟩
def pinR (x : Int32) : Prop := ∃ j, j < 6 ∧ x = nI (j + 1)
theorem pin_no {x : Int32} (h : x < 1 ∨ ¬ x ≤ 6) : ¬ pinR x := fun ⟨j, hj, e⟩ => by
  rw [e] at h
  rcases h with h | h
  · exact nI_nlt (a := j + 1) (b := 1) (by omega) (by omega) h
  · exact h (nI_le (b := 6) (by omega) (by omega))
theorem s_D_replace {σ : Hp} {d : Nat} {buf ks : List Nat} {gs fs ss : List Int32} {E : List (List Nat)} {n : Nat} {T : Nat → Tx} {W : Nat} {wr : List Int32} {be : Int32} (h : ClsV σ d buf ks gs fs ss E n T W wr be) (x : Int32) : (¬ pinR x ∧ J_X5_replace d x σ = some (.inr "java/lang/IndexOutOfBoundsException", thS σ)) ∨ (∃ j τ, j < 6 ∧ x = nI (j + 1) ∧ J_X5_replace d x σ = some (.inl (some (.int (wr.getD j 0))), τ) ∧ ClsV τ d buf ks gs fs ss E n T W (wr.set j 0) be ∧ ag (clP d n T) σ τ) := by
  have hh := h
  obtain ⟨⟨k0, r0, r1, r2, _⟩, k1, k2, ⟨pl, k3⟩, _⟩ := h
  unfold J_X5_replace jj
  dsimp only
  by_cases c : x < 1
  · exact Or.inl ⟨pin_no (Or.inl c), by rw [if_pos c]⟩
  · by_cases c2 : x ≤ 6
    · obtain ⟨j, hj, e⟩ := pin_of c c2
      obtain ⟨τ, a1, a2, a3⟩ := s_E_renewPin k3 hj
      refine Or.inr ⟨j, τ, hj, e, ?_, hh.sEmb a3 a2, a3.up (clP_1 (by omega) (by omega))⟩
      rw [if_neg c, if_pos c2, jgR_ok k0, r2, jdr_ok, e, jcv_ok k3.1 a1, jvI_ok]
    · exact Or.inl ⟨pin_no (Or.inr c2), by rw [if_neg c, if_neg c2]⟩
theorem s_D_strikes {σ : Hp} {d : Nat} {buf ks : List Nat} {gs fs ss : List Int32} {E : List (List Nat)} {n : Nat} {T : Nat → Tx} {W : Nat} {wr : List Int32} {be : Int32} (h : ClsV σ d buf ks gs fs ss E n T W wr be) (x : Int32) : (¬ pinR x ∧ J_X5_strikes d x σ = some (.inr "java/lang/IndexOutOfBoundsException", thS σ)) ∨ (∃ j, j < 6 ∧ x = nI (j + 1) ∧ J_X5_strikes d x σ = some (.inl (some (.int (wr.getD j 0))), σ)) := by
  obtain ⟨⟨k0, r0, r1, r2, _⟩, k1, k2, ⟨pl, k3⟩, _⟩ := h
  unfold J_X5_strikes jj
  dsimp only
  by_cases c : x < 1
  · exact Or.inl ⟨pin_no (Or.inl c), by rw [if_pos c]⟩
  · by_cases c2 : x ≤ 6
    · obtain ⟨j, hj, e⟩ := pin_of c c2
      refine Or.inr ⟨j, hj, e, ?_⟩
      rw [if_neg c, if_pos c2, jgR_ok k0, r2, jdr_ok, e, jcv_ok k3.1 (s_E_wearOf k3 hj), jvI_ok]
    · exact Or.inl ⟨pin_no (Or.inr c2), by rw [if_neg c, if_neg c2]⟩
theorem s_D_isReader (x : Int32) (σ : Hp) : (inN x 2 ∧ J_X5_isReader x σ = some (.inl (some (.int 1)), σ)) ∨ (¬ inN x 2 ∧ J_X5_isReader x σ = some (.inl (some (.int 0)), σ)) := by
  unfold J_X5_isReader
  rcases pk_ix x (n := 2) (by omega) with c | c | ⟨j, hj, rfl⟩
  · exact Or.inr ⟨fun ⟨k, k1, k2⟩ => by rw [k2] at c; exact nI_pos (by omega) c, by rw [if_pos c, jrt_0]⟩
  · refine Or.inr ⟨fun ⟨k, k1, k2⟩ => by rw [k2] at c; exact nI_ge k1 (by omega) c, ?_⟩
    by_cases c0 : x < 0
    · rw [if_pos c0, jrt_0]
    · rw [if_neg c0, if_pos (show (2 : Int32) ≤ x from c), jrt_0]
  · exact Or.inl ⟨⟨j, hj, rfl⟩, by rw [if_neg (nI_pos (by omega)), if_neg (show ¬ (2 : Int32) ≤ nI j from nI_ge (b := 2) hj (by omega)), jrt_1]⟩
theorem s_D_markOf {σ : Hp} {d : Nat} {buf ks : List Nat} {gs fs ss : List Int32} {E : List (List Nat)} {n : Nat} {T : Nat → Tx} {W : Nat} {wr : List Int32} {be : Int32} (h : ClsV σ d buf ks gs fs ss E n T W wr be) (hI : ClsI buf ks gs fs ss E n T W) (r x y : Int32) : (∃ e i j, e < 2 ∧ i < n ∧ j < (wd (tX (T i))).length ∧ r = nI e ∧ x = nI i ∧ y = nI j ∧ mkc ((tM (T i)).getD (2 * j + e) 0) ∧ J_X5_markOf d r x y σ = some (.inl (some (.int ((tM (T i)).getD (2 * j + e) 0))), σ)) ∨ (¬ (inN r 2 ∧ inW x y n T) ∧ J_X5_markOf d r x y σ = some (.inr "java/lang/IndexOutOfBoundsException", thS σ)) := by
  unfold J_X5_markOf
  rcases s_D_isReader r σ with ⟨⟨e, he, hr⟩, er⟩ | ⟨hr, er⟩
  · rw [jcs_ok er, jvI_ok, if_neg (show ¬ (1 : Int32) = 0 by decide)]
    rcases s_D_textWithWord h hI.2.2.1 x y with ⟨i, j, hi, hj, hx, hy, e2⟩ | ⟨hx, e2⟩
    · obtain ⟨_, m1, m2⟩ := hI.2.2.2.2 i hi
      have hm := m2 _ (getD_mem 0 (show 2 * j + e < (tM (T i)).length by omega))
      refine Or.inl ⟨e, i, j, he, hi, hj, hr, hx, hy, hm, ?_⟩
      have hb := s_T_markBy (h.t hi) (i := j) (e := e) (by omega) hm
      rw [jcv_ok h.1.1 e2, jvA_ok, hr, hy, jcv_ok (h.t hi).1.1 hb, jvI_ok]
      have := jrtS (σ := σ) (mkc_nar hm)
      rwa [mkc_nar hm] at this
    · exact Or.inr ⟨fun z => hx z.2, by rw [jcv_x h.1.1 e2]⟩
  · exact Or.inr ⟨fun z => hr z.1, by rw [jcs_ok er, jvI_ok, if_pos rfl]⟩
/-- the sign of a mark -/
def sgn (v : Int32) : Int32 := if v = 0 then 119 else 114
theorem sgn_mk (v : Int32) : mkc (sgn v) := by
  unfold sgn mkc
  split
  · exact Or.inr (Or.inr rfl)
  · exact Or.inr (Or.inl rfl)
theorem s_D_mark {σ : Hp} {d : Nat} {buf ks : List Nat} {gs fs ss : List Int32} {E : List (List Nat)} {n : Nat} {T : Nat → Tx} {W : Nat} {wr : List Int32} {be : Int32} (h : ClsV σ d buf ks gs fs ss E n T W wr be) (hI : ClsI buf ks gs fs ss E n T W) (r x y v : Int32) : (∃ e i j τ, e < 2 ∧ i < n ∧ j < (wd (tX (T i))).length ∧ r = nI e ∧ x = nI i ∧ y = nI j ∧ J_X5_mark d r x y v σ = some (.inl (some (.int (bI (decide ((tM (T i)).getD (2 * j + (1 - e)) 0 = sgn v))))), τ) ∧ ClsV τ d buf ks gs fs ss E n (fun k => if k = i then (tA (T i), tX (T i), tG (T i), (tM (T i)).set (2 * j + e) (sgn v), tE (T i)) else T k) W wr be ∧ ClsI buf ks gs fs ss E n (fun k => if k = i then (tA (T i), tX (T i), tG (T i), (tM (T i)).set (2 * j + e) (sgn v), tE (T i)) else T k) W ∧ ag (clP d n T) σ τ) ∨ (¬ (inN r 2 ∧ inW x y n T) ∧ J_X5_mark d r x y v σ = some (.inr "java/lang/IndexOutOfBoundsException", thS σ)) := by
  unfold J_X5_mark jj
  dsimp only
  rcases s_D_isReader r σ with ⟨⟨e, he, hr⟩, er⟩ | ⟨hr, er⟩
  · rw [jcs_ok er, jvI_ok, if_neg (show ¬ (1 : Int32) = 0 by decide)]
    rcases s_D_textWithWord h hI.2.2.1 x y with ⟨i, j, hi, hj, hx, hy, e2⟩ | ⟨hx, e2⟩
    · left
      obtain ⟨m0, m1, m2⟩ := hI.2.2.2.2 i hi
      obtain ⟨τ, a1, a2, a3⟩ := s_T_mark (h.t hi) (i := j) (e := e) (by omega) (sgn v)
      have hset : ∀ z ∈ (tM (T i)).set (2 * j + e) (sgn v), mkc z := fun z hz => by
        rcases set_memx hz with q | q
        · rw [q]; exact sgn_mk v
        · exact m2 z q
      have hb := s_T_markBy a2 (i := j) (e := 1 - e) (by rw [List.length_set]; omega) (hset _ (getD_mem 0 (by rw [List.length_set]; omega)))
      rw [getD_set (by omega), if_neg (by omega)] at hb
      have er1 : (1 : Int32) - nI e = nI (1 - e) := pk_sub (a := 1) (by omega)
      have hA := h.sTxt hi (a3.up (fun q z => Or.inr z)) (by
        obtain ⟨ps, u, k5⟩ := h.2.2.2.2.2.1
        exact ⟨ps, u, k5.keep a3 (fun q y z => by
          have := (h.2.2.2.2.2.2.2.1 i hi).1
          unfold rg at y z
          omega)⟩) (x := (tA (T i), tX (T i), tG (T i), (tM (T i)).set (2 * j + e) (sgn v), tE (T i))) rfl a2
      refine ⟨e, i, j, τ, he, hi, hj, hr, hx, hy, ?_, hA.cs (fun k hk => ?_), ⟨hI.1, hI.2.1, hI.2.2.1, hI.2.2.2.1, fun k hk => ?_⟩, a3.up (fun q z => Or.inr ⟨i, hi, z⟩)⟩
      · have go : ∀ (X : jR), X = jcv σ (tA (T i)) 4 (J_X4_putMark (tA (T i)) (nI e) (nI j) (sgn v) σ) (fun w10 t9 => jvV w10 (jcv t9 (tA (T i)) 4 (J_X4_markBy (tA (T i)) (1 - nI e) (nI j) t9) (fun w12 t11 => jvI w12 (fun x13 => (if x13 = sgn v then jrt .boolean 1 t11 else jrt .boolean 0 t11))) (fun E t => some (.inr E, t)))) (fun E t => some (.inr E, t)) → X = some (.inl (some (.int (bI (decide ((tM (T i)).getD (2 * j + (1 - e)) 0 = sgn v))))), τ) := fun X hX => by
          rw [hX, jcv_ok (h.t hi).1.1 a1, jvV_ok, er1, jcv_ok a2.1.1 hb, jvI_ok]
          by_cases q : (tM (T i)).getD (2 * j + (1 - e)) 0 = sgn v
          · rw [if_pos q, jrt_1, decide_eq_true q]; rfl
          · rw [if_neg q, jrt_0, decide_eq_false q]; rfl
        rw [jcv_ok h.1.1 e2, jvA_ok, hr, hy]
        unfold sgn at go ⊢
        by_cases c : v = 0
        · rw [if_pos c] at go ⊢
          rw [if_pos c]
          exact go _ rfl
        · rw [if_neg c] at go ⊢
          rw [if_neg c]
          exact go _ rfl
      · dsimp only
        by_cases q : k = i
        · rw [if_pos q, if_pos q]; exact clO_same rfl rfl
        · rw [if_neg q, if_neg q]
      · dsimp only
        by_cases q : k = i
        · rw [if_pos q]
          exact ⟨m0, by show ((tM (T i)).set (2 * j + e) (sgn v)).length = _; rw [List.length_set]; exact m1, hset⟩
        · rw [if_neg q]; exact hI.2.2.2.2 k hk
    · exact Or.inr ⟨fun z => hx z.2, by rw [jcv_x h.1.1 e2]⟩
  · exact Or.inr ⟨fun z => hr z.1, by rw [jcs_ok er, jvI_ok, if_pos rfl]⟩
