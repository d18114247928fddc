/-! What the model answers: texts, words, cells, lines. -/
/-- a call of the model: what it throws, what it answers, what holds then -/
def mrs (σ : Hp) (M : Nat) (J : jR) (k b : Int32) (V : Hp → Prop) : Prop := ∃ τ, J = some (.inl (some (.int b)), τ) ∧ inH τ M 0 = k ∧ V τ ∧ ai (qA M) σ τ
theorem inR_N {x : Int32} {n : Nat} (hn : n < 2 ^ 30) : inR x 0 (nI n - 1) ↔ inN x n := by
  have ht : (nI n - 1).toInt = (n : Int) - 1 := pk_sub_toInt (a := n) (b := 1) hn (by omega)
  have h0 : (0 : Int32).toInt = 0 := by decide
  unfold inR
  constructor
  · intro ⟨h1, h2⟩
    obtain ⟨j, hj, rfl⟩ := nI_of h1
    refine ⟨j, ?_, rfl⟩
    rw [Int32.lt_iff_toInt_lt, ht, nI_toInt hj] at h2
    omega
  · intro ⟨j, hj, e⟩
    subst e
    refine ⟨nI_pos (by omega), ?_⟩
    rw [Int32.lt_iff_toInt_lt, ht, nI_toInt (by omega)]
    omega
/-- of what the model's answers are made -/
def MCx (ks : List Nat) (gs fs ss : List Int32) (E : List (List Nat)) (n : Nat) (T : Nat → Tx) (W : Nat) : Prop := RubI ks gs fs ss E ∧ (∀ s ∈ ss, ¬ s < 0) ∧ (∀ i, i < n → WdI (wd (tX (T i)))) ∧ (∀ i, i < n → (tM (T i)).length = 2 * (wd (tX (T i))).length) ∧ 8 ≤ W ∧ W ≤ 40
section MODAK
variable {σ : Hp} {M : Nat} {buf ks : List Nat} {gs fs ss : List Int32} {E : List (List Nat)} {n : Nat} {T : Nat → Tx} {W : Nat} {wr : List Int32} {be : Int32}
theorem ai_0 (σ : Hp) (M : Nat) (v : Int32) : ai (qA M) σ (inS σ M 0 v) := ai_in σ v ⟨Nat.le_refl _, by omega⟩
theorem in_0 (σ : Hp) (M : Nat) (v : Int32) : inH (inS σ M 0 v) M 0 = v := by rw [in_inS, if_pos ⟨rfl, rfl⟩]
theorem m_in_N (x : Int32) {k : Nat} (hk : k < 2 ^ 30) : (inN x k → J_X6_in x 0 (nI k - 1) σ = some (.inl (some (.int 1)), σ)) ∧ (¬ inN x k → J_X6_in x 0 (nI k - 1) σ = some (.inl (some (.int 0)), σ)) := by
  rcases s_M_in x 0 (nI k - 1) σ with ⟨a, b⟩ | ⟨a, b⟩
  · exact ⟨fun _ => b, fun z => (z ((inR_N hk).mp a)).elim⟩
  · exact ⟨fun z => (a ((inR_N hk).mpr z)).elim, fun _ => b⟩
theorem m_in_R (x lo hi : Int32) : (inR x lo hi → J_X6_in x lo hi σ = some (.inl (some (.int 1)), σ)) ∧ (¬ inR x lo hi → J_X6_in x lo hi σ = some (.inl (some (.int 0)), σ)) := by
  rcases s_M_in x lo hi σ with ⟨a, b⟩ | ⟨a, b⟩
  · exact ⟨fun _ => b, fun z => (z a).elim⟩
  · exact ⟨fun z => (a z).elim, fun _ => b⟩
theorem m_text (h : ModA σ M buf ks gs fs ss E n T W wr be) (x : Int32) : (inN x n → J_X6_isText M x σ = some (.inl (some (.int 1)), σ)) ∧ (¬ inN x n → J_X6_isText M x σ = some (.inl (some (.int 0)), σ)) := by
  have hn := h.2.2.2.2.1.1.2
  unfold J_X6_isText
  rw [jgI_ok h.1.1, h.2.2.2.2.1.1.1]
  refine ⟨fun z => ?_, fun z => ?_⟩
  · rw [jcs_ok ((m_in_N x (by omega)).1 z), jvI_ok, jrt_1]
  · rw [jcs_ok ((m_in_N x (by omega)).2 z), jvI_ok, jrt_0]
theorem m_word (h : ModA σ M buf ks gs fs ss E n T W wr be) (hW : ∀ i, i < n → WdI (wd (tX (T i)))) (x y : Int32) : (inW x y n T → J_X6_isWord M x y σ = some (.inl (some (.int 1)), σ)) ∧ (¬ inW x y n T → J_X6_isWord M x y σ = some (.inl (some (.int 0)), σ)) := by
  unfold J_X6_isWord
  by_cases c : inN x n
  · rw [jcv_ok h.1.1 ((m_text h x).1 c), jvI_ok, if_neg (by decide)]
    obtain ⟨i, hi, rfl⟩ := c
    have hw := (hW i hi).2.2.1
    rw [jcv_ok h.1.1 (m_words h hi), jvI_ok]
    refine ⟨fun ⟨i', j, h1, h2, h3, h4⟩ => ?_, fun z => ?_⟩
    · have e := (nI_eq (by have := h.2.2.2.2.1.1.2; omega) (by have := h.2.2.2.2.1.1.2; omega)).mp h3
      subst e
      rw [jcs_ok ((m_in_N y (by omega)).1 ⟨j, h2, h4⟩), jvI_ok, if_neg (by decide), jrt_1]
    · rw [jcs_ok ((m_in_N y (by omega)).2 (fun ⟨j, h2, h4⟩ => z ⟨i, j, hi, h2, rfl, h4⟩)), jvI_ok, if_pos rfl, jrt_0]
  · rw [jcv_ok h.1.1 ((m_text h x).2 c), jvI_ok, if_pos rfl, jrt_0]
    exact ⟨fun ⟨i, j, h1, _, h3, _⟩ => (c ⟨i, h1, h3⟩).elim, fun _ => rfl⟩
theorem m_words_ok (h : ModV σ M buf ks gs fs ss E n T W wr be) {i : Nat} (hi : i < n) : mrs σ M (J_X6_words M (nI i) σ) 0 (nI (wd (tX (T i))).length) (fun τ => ModV τ M buf ks gs fs ss E n T W wr be) := by
  refine ⟨inS σ M 0 0, ?_, in_0 σ M 0, h.th 0, ai_0 σ M 0⟩
  unfold J_X6_words jj
  dsimp only
  rw [jcv_ok h.1.1.1 ((m_text h.1 _).1 ⟨i, hi, rfl⟩), jvI_ok, if_neg (by decide), jcv_ok h.1.1.1 (s_M_goesOn h.1.1 0), jvI_ok, if_neg (by decide), jcv_ok (by exact h.1.1.1) (m_words (h.th 0).1 hi), jvI_ok]
theorem m_words_no (h : ModV σ M buf ks gs fs ss E n T W wr be) {x : Int32} (hx : ¬ inN x n) : mrs σ M (J_X6_words M x σ) 1 0 (fun τ => ModV τ M buf ks gs fs ss E n T W wr be) := by
  refine ⟨inS σ M 0 1, ?_, in_0 σ M 1, h.th 1, ai_0 σ M 1⟩
  unfold J_X6_words jj
  dsimp only
  rw [jcv_ok h.1.1.1 ((m_text h.1 _).2 hx), jvI_ok, if_pos rfl, jcv_ok h.1.1.1 (s_M_goesOn h.1.1 1), jvI_ok, if_pos (by decide)]
theorem qW_0 : ¬ qW M M 0 := fun z => by unfold qW at z; omega
theorem qS_0 : ¬ qS M M 0 := fun z => by unfold qS at z; omega
theorem m_length_ok (h : ModV σ M buf ks gs fs ss E n T W wr be) (C : MCx ks gs fs ss E n T W) {i j : Nat} (hi : i < n) (hj : j < (wd (tX (T i))).length) : mrs σ M (J_X6_length M (nI i) (nI j) σ) 0 (nI ((clO ks gs fs ss E (T i)).getD j []).length) (fun τ => ModV τ M buf ks gs fs ss E n T W wr be) := by
  obtain ⟨τ, a1, a2, a3⟩ := m_tr (h.th 0).1 C.1 C.2.1 hi hj
  refine ⟨τ, ?_, by rw [a3.i qW_0]; exact in_0 σ M 0, (h.th 0).sc (a3.up qW_S), (ai_0 σ M 0).tr (a3.up (fun a k z => qS_A a k (qW_S a k z)))⟩
  unfold J_X6_length jj
  dsimp only
  rw [jcv_ok h.1.1.1 ((m_word h.1 C.2.2.1 _ _).1 ⟨i, j, hi, hj, rfl, rfl⟩), jvI_ok, if_neg (by decide), jcv_ok h.1.1.1 (s_M_goesOn h.1.1 0), jvI_ok, if_neg (by decide), jcv_ok (by exact h.1.1.1) a1, jvV_ok, jgI_ok ((h.th 0).1.1.ai a3).1, a2.1]
theorem m_length_no (h : ModV σ M buf ks gs fs ss E n T W wr be) (C : MCx ks gs fs ss E n T W) {x y : Int32} (hx : ¬ inW x y n T) : mrs σ M (J_X6_length M x y σ) 1 0 (fun τ => ModV τ M buf ks gs fs ss E n T W wr be) := by
  refine ⟨inS σ M 0 1, ?_, in_0 σ M 1, h.th 1, ai_0 σ M 1⟩
  unfold J_X6_length jj
  dsimp only
  rw [jcv_ok h.1.1.1 ((m_word h.1 C.2.2.1 _ _).2 hx), jvI_ok, if_pos rfl, jcv_ok h.1.1.1 (s_M_goesOn h.1.1 1), jvI_ok, if_pos (by decide)]
theorem clO_b {i j : Nat} (hW : WdI (wd (tX (T i)))) : ((clO ks gs fs ss E (T i)).getD j []).length ≤ 160 := by
  have h1 := cl_cap ks gs fs ss E hW
  have h2 := pc_len_le (clO ks gs fs ss E (T i)) j
  by_cases c : (clO ks gs fs ss E (T i)).length = 0
  · have : clO ks gs fs ss E (T i) = [] := List.length_eq_zero_iff.mp c
    rw [this]
    simp
  · omega
theorem m_cellOf_ok (h : ModV σ M buf ks gs fs ss E n T W wr be) (C : MCx ks gs fs ss E n T W) {i j : Nat} (hi : i < n) (hj : j < (wd (tX (T i))).length) (z : Int32) : (∀ k, k < ((clO ks gs fs ss E (T i)).getD j []).length → z = nI k → mrs σ M (J_X6_cellOf M (nI i) (nI j) z σ) 0 (((clO ks gs fs ss E (T i)).getD j []).getD k 0) (fun τ => ModV τ M buf ks gs fs ss E n T W wr be)) ∧ (¬ inN z ((clO ks gs fs ss E (T i)).getD j []).length → mrs σ M (J_X6_cellOf M (nI i) (nI j) z σ) 2 0 (fun τ => ModV τ M buf ks gs fs ss E n T W wr be)) := by
  obtain ⟨τ, a1, a2, a3⟩ := m_tr h.1 C.1 C.2.1 hi hj
  have hb := clO_b (ks := ks) (gs := gs) (fs := fs) (ss := ss) (E := E) (j := j) (C.2.2.1 i hi)
  have hV := h.sc (a3.up qW_S)
  have hg : ai (qA M) σ τ := a3.up (fun a k z => qS_A a k (qW_S a k z))
  refine ⟨fun k hk hz => ⟨inS τ M 0 0, ?_, in_0 τ M 0, hV.th 0, hg.tr (ai_0 τ M 0)⟩, fun hz => ⟨inS τ M 0 2, ?_, in_0 τ M 2, hV.th 2, hg.tr (ai_0 τ M 2)⟩⟩
  · unfold J_X6_cellOf jj
    dsimp only
    rw [jcv_ok h.1.1.1 ((m_word h.1 C.2.2.1 _ _).1 ⟨i, j, hi, hj, rfl, rfl⟩), jvI_ok, if_neg (by decide), jcv_ok h.1.1.1 a1, jvV_ok, if_neg (by decide), jgI_ok hV.1.1.1, a2.1, jcs_ok ((m_in_N z (by omega)).1 ⟨k, hk, hz⟩), jvI_ok, if_neg (by decide), jcv_ok hV.1.1.1 (s_M_goesOn hV.1.1 0), jvI_ok, if_neg (by decide), hz, mrd (hV.th 0).1.1 (f := 22) (c := 16) (r := 160) (by decide) (by omega), in_inS, if_neg (by omega), a2.2 k hk]
  · unfold J_X6_cellOf jj
    dsimp only
    rw [jcv_ok h.1.1.1 ((m_word h.1 C.2.2.1 _ _).1 ⟨i, j, hi, hj, rfl, rfl⟩), jvI_ok, if_neg (by decide), jcv_ok h.1.1.1 a1, jvV_ok, if_neg (by decide), jgI_ok hV.1.1.1, a2.1, jcs_ok ((m_in_N z (by omega)).2 hz), jvI_ok, if_pos rfl, jcv_ok hV.1.1.1 (s_M_goesOn hV.1.1 2), jvI_ok, if_pos (by decide)]
theorem m_cellOf_no (h : ModV σ M buf ks gs fs ss E n T W wr be) (C : MCx ks gs fs ss E n T W) {x y : Int32} (z : Int32) (hx : ¬ inW x y n T) : mrs σ M (J_X6_cellOf M x y z σ) 1 0 (fun τ => ModV τ M buf ks gs fs ss E n T W wr be) := by
  refine ⟨inS σ M 0 1, ?_, in_0 σ M 1, h.th 1, ai_0 σ M 1⟩
  unfold J_X6_cellOf jj
  dsimp only
  rw [jcv_ok h.1.1.1 ((m_word h.1 C.2.2.1 _ _).2 hx), jvI_ok, if_pos rfl, if_pos rfl, jcv_ok h.1.1.1 (s_M_goesOn h.1.1 1), jvI_ok, if_pos (by decide)]
end MODAK
