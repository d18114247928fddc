/-! What the model answers: lines, changed ones. -/
theorem cntD_app (f : Nat → Bool) : ∀ (d e i : Nat), cntD f (d + e) i = cntD f d i + cntD f e (i + d)
  | 0, e, i => by rw [Nat.zero_add, Nat.add_zero]; show _ = 0 + _; rw [Nat.zero_add]
  | d + 1, e, i => by
    rw [show d + 1 + e = (d + e) + 1 by omega]
    unfold cntD
    rw [cntD_app f d e (i + 1), show i + 1 + d = i + (d + 1) by omega]
    conv => rhs; rw [show i + (d + 1) = i + (d + 1) from rfl]
    cases e with
    | zero => simp [cntD]
    | succ e => simp only [cntD]; omega
theorem cntD_all {f : Nat → Bool} : ∀ (d i : Nat), (∀ j, i ≤ j → f j = true) → cntD f d i = d
  | 0, _, _ => rfl
  | d + 1, i, h => by
    unfold cntD
    rw [h i (Nat.le_refl _), if_pos rfl, cntD_all d (i + 1) (fun j hj => h j (by omega))]
    omega
section MODAL
variable {σ : Hp} {M : Nat} {buf ks : List Nat} {gs fs ss : List Int32} {E : List (List Nat)} {n : Nat} {T : Nat → Tx} {W : Nat} {wr : List Int32} {be : Int32}
theorem m_brk (h : ModV σ M buf ks gs fs ss E n T W wr be) (C : MCx ks gs fs ss E n T W) {i : Nat} (hi : i < n) (v : Int32) : ∃ τ, J_X6_breaks M (nI i) v σ = some (.inl (some (.int (fndD W v ([], []) (clO ks gs fs ss E (T i)) 0 (-1)))), τ) ∧ ML τ M (lay W (clO ks gs fs ss E (T i))) ∧ ModV τ M buf ks gs fs ss E n T W wr be ∧ ai (qS M) σ τ := by
  obtain ⟨τ, a1, a2, a3⟩ := m_breaks C.1 C.2.1 C.2.2.2.2.1 C.2.2.2.2.2 hi (C.2.2.1 i hi) h.1 v
  exact ⟨τ, a1, a2, h.sc a3, a3⟩
theorem m_lines_ok (h : ModV σ M buf ks gs fs ss E n T W wr be) (C : MCx ks gs fs ss E n T W) {i : Nat} (hi : i < n) : mrs σ M (J_X6_lines M (nI i) σ) 0 (nI (lay W (clO ks gs fs ss E (T i))).length) (fun τ => ModV τ M buf ks gs fs ss E n T W wr be) := by
  obtain ⟨τ, a1, a2, a3, a4⟩ := m_brk (h.th 0) C hi (-1)
  refine ⟨τ, ?_, by rw [a4.i qS_0]; exact in_0 σ M 0, a3, (ai_0 σ M 0).tr (a4.up qS_A)⟩
  unfold J_X6_lines jj
  dsimp only
  rw [jcv_ok h.1.1.1 ((m_text h.1 _).1 ⟨i, hi, rfl⟩), jvI_ok, if_neg (by decide), jcv_ok h.1.1.1 (s_M_goesOn h.1.1 0), jvI_ok, if_neg (by decide), jcv_ok (by exact h.1.1.1) a1, jvI_ok, jgI_ok a3.1.1.1, a2.2.1]
theorem m_lines_no (h : ModV σ M buf ks gs fs ss E n T W wr be) {x : Int32} (hx : ¬ inN x n) : mrs σ M (J_X6_lines M x σ) 1 0 (fun τ => ModV τ M buf ks gs fs ss E n T W wr be) := by
  refine ⟨inS σ M 0 1, ?_, in_0 σ M 1, h.th 1, ai_0 σ M 1⟩
  unfold J_X6_lines jj
  dsimp only
  rw [jcv_ok h.1.1.1 ((m_text h.1 _).2 hx), jvI_ok, if_pos rfl, jcv_ok h.1.1.1 (s_M_goesOn h.1.1 1), jvI_ok, if_pos (by decide)]
theorem m_lineOf_ok (h : ModV σ M buf ks gs fs ss E n T W wr be) (C : MCx ks gs fs ss E n T W) {i j : Nat} (hi : i < n) (hj : j < (wd (tX (T i))).length) : mrs σ M (J_X6_lineOf M (nI i) (nI j) σ) 0 ((flS W ([], []) (clO ks gs fs ss E (T i))).getD j 0) (fun τ => ModV τ M buf ks gs fs ss E n T W wr be) := by
  obtain ⟨τ, a1, a2, a3, a4⟩ := m_brk (h.th 0) C hi (nI j)
  have hw := (C.2.2.1 i hi).2.2.1
  have hcl := clO_len ks gs fs ss E (T i)
  rw [fndD_at (by omega) _ _ 0 _ (Nat.zero_le _) (by omega) (by omega), Nat.sub_zero] at a1
  refine ⟨τ, ?_, by rw [a4.i qS_0]; exact in_0 σ M 0, a3, (ai_0 σ M 0).tr (a4.up qS_A)⟩
  unfold J_X6_lineOf jj
  dsimp only
  rw [jcv_ok h.1.1.1 ((m_word h.1 C.2.2.1 _ _).1 ⟨i, j, hi, hj, rfl, rfl⟩), jvI_ok, if_neg (by decide), jcv_ok h.1.1.1 (s_M_goesOn h.1.1 0), jvI_ok, if_neg (by decide), jcv_ok (by exact h.1.1.1) a1, jvI_ok]
theorem m_lineOf_no (h : ModV σ M buf ks gs fs ss E n T W wr be) (C : MCx ks gs fs ss E n T W) {x y : Int32} (hx : ¬ inW x y n T) : mrs σ M (J_X6_lineOf M x y σ) 1 0 (fun τ => ModV τ M buf ks gs fs ss E n T W wr be) := by
  refine ⟨inS σ M 0 1, ?_, in_0 σ M 1, h.th 1, ai_0 σ M 1⟩
  unfold J_X6_lineOf jj
  dsimp only
  rw [jcv_ok h.1.1.1 ((m_word h.1 C.2.2.1 _ _).2 hx), jvI_ok, if_pos rfl, jcv_ok h.1.1.1 (s_M_goesOn h.1.1 1), jvI_ok, if_pos (by decide)]
theorem m_lineAt_ok (h : ModV σ M buf ks gs fs ss E n T W wr be) (C : MCx ks gs fs ss E n T W) {i : Nat} (hi : i < n) (y z : Int32) : (∀ j k, j < (lay W (clO ks gs fs ss E (T i))).length → k < ((lay W (clO ks gs fs ss E (T i))).getD j []).length → y = nI j → z = nI k → mrs σ M (J_X6_lineAt M (nI i) y z σ) 0 (((lay W (clO ks gs fs ss E (T i))).getD j []).getD k 0) (fun τ => ModV τ M buf ks gs fs ss E n T W wr be)) ∧ (∀ j, j < (lay W (clO ks gs fs ss E (T i))).length → y = nI j → ¬ inN z ((lay W (clO ks gs fs ss E (T i))).getD j []).length → mrs σ M (J_X6_lineAt M (nI i) y z σ) 2 0 (fun τ => ModV τ M buf ks gs fs ss E n T W wr be)) ∧ (¬ inN y (lay W (clO ks gs fs ss E (T i))).length → mrs σ M (J_X6_lineAt M (nI i) y z σ) 1 0 (fun τ => ModV τ M buf ks gs fs ss E n T W wr be)) := by
  obtain ⟨τ, a1, a2, a3, a4⟩ := m_brk h C hi (-1)
  have hg : ai (qA M) σ τ := a4.up qS_A
  obtain ⟨l1, l2, l3⟩ := a2
  have hk := a3.1.1
  refine ⟨fun j k hj hk1 hy hz => ⟨inS τ M 0 0, ?_, in_0 τ M 0, a3.th 0, hg.tr (ai_0 τ M 0)⟩, fun j hj hy hz => ⟨inS τ M 0 2, ?_, in_0 τ M 2, a3.th 2, hg.tr (ai_0 τ M 2)⟩, fun hy => ⟨inS τ M 0 1, ?_, in_0 τ M 1, a3.th 1, hg.tr (ai_0 τ M 1)⟩⟩
  · obtain ⟨n1, n2, n3⟩ := l3 j hj
    unfold J_X6_lineAt jj
    dsimp only
    rw [jcv_ok h.1.1.1 ((m_text h.1 _).1 ⟨i, hi, rfl⟩), jvI_ok, if_neg (by decide), jcv_ok h.1.1.1 a1, jvI_ok, if_neg (by decide), jgI_ok hk.1, l2, jcs_ok ((m_in_N y (by omega)).1 ⟨j, hj, hy⟩), jvI_ok, if_neg (by decide), if_neg (by decide), hy, mrd hk (f := 26) (c := 19) (r := 100) (by decide) (by omega), n2, jcs_ok ((m_in_N z (by omega)).1 ⟨k, hk1, hz⟩), jvI_ok, if_neg (by decide), jcv_ok hk.1 (s_M_goesOn hk 0), jvI_ok, if_neg (by decide), hz, e40, mrd (a3.th 0).1.1 (f := 25) (c := 18) (r := 4000) (by decide) (by omega), in_inS, if_neg (by omega), n3 k hk1]
  · obtain ⟨n1, n2, n3⟩ := l3 j hj
    unfold J_X6_lineAt jj
    dsimp only
    rw [jcv_ok h.1.1.1 ((m_text h.1 _).1 ⟨i, hi, rfl⟩), jvI_ok, if_neg (by decide), jcv_ok h.1.1.1 a1, jvI_ok, if_neg (by decide), jgI_ok hk.1, l2, jcs_ok ((m_in_N y (by omega)).1 ⟨j, hj, hy⟩), jvI_ok, if_neg (by decide), if_neg (by decide), hy, mrd hk (f := 26) (c := 19) (r := 100) (by decide) (by omega), n2, jcs_ok ((m_in_N z (by omega)).2 hz), jvI_ok, if_pos rfl, jcv_ok hk.1 (s_M_goesOn hk 2), jvI_ok, if_pos (by decide)]
  · unfold J_X6_lineAt jj
    dsimp only
    rw [jcv_ok h.1.1.1 ((m_text h.1 _).1 ⟨i, hi, rfl⟩), jvI_ok, if_neg (by decide), jcv_ok h.1.1.1 a1, jvI_ok, if_neg (by decide), jgI_ok hk.1, l2, jcs_ok ((m_in_N y (by omega)).2 hy), jvI_ok, if_pos rfl, if_pos rfl, jcv_ok hk.1 (s_M_goesOn hk 1), jvI_ok, if_pos (by decide)]
theorem m_lineAt_no (h : ModV σ M buf ks gs fs ss E n T W wr be) {x : Int32} (y z : Int32) (hx : ¬ inN x n) : mrs σ M (J_X6_lineAt M x y z σ) 1 0 (fun τ => ModV τ M buf ks gs fs ss E n T W wr be) := by
  refine ⟨inS σ M 0 1, ?_, in_0 σ M 1, h.th 1, ai_0 σ M 1⟩
  unfold J_X6_lineAt jj
  dsimp only
  rw [jcv_ok h.1.1.1 ((m_text h.1 _).2 hx), jvI_ok, if_pos rfl, if_pos rfl, if_pos rfl, jcv_ok h.1.1.1 (s_M_goesOn h.1.1 1), jvI_ok, if_pos (by decide)]
theorem m_changed_ok (h : ModV σ M buf ks gs fs ss E n T W wr be) (C : MCx ks gs fs ss E n T W) {i : Nat} (hi : i < n) : mrs σ M (J_X6_changed M (nI i) σ) 0 (nI (cntD (fun j => !shr (lay W (clO ks gs fs ss E (T i))) (tE (T i)) j) (max (lay W (clO ks gs fs ss E (T i))).length (tE (T i)).length) 0)) (fun τ => ModV τ M buf ks gs fs ss E n T W wr be) := by
  obtain ⟨τ, a1, a2, a3, a4⟩ := m_brk (h.th 0) C hi (-1)
  refine ⟨τ, ?_, by rw [a4.i qS_0]; exact in_0 σ M 0, a3, (ai_0 σ M 0).tr (a4.up qS_A)⟩
  have hk := a3.1.1
  have hi6 : i < 6 := by have := h.1.2.2.2.2.1.1.2; omega
  have hE := (a3.1.2.2.2.2.1.2.1 i hi).2
  generalize lay W (clO ks gs fs ss E (T i)) = ls at *
  generalize tE (T i) = em at *
  have hl60 := a2.1
  have hm60 := hE.1.1
  have loop : ∀ (d m j c : Nat), ls.length - j = d → j ≤ ls.length → d < m → J_X6_changed_L61 m M (nI i) (nI c) (nI j) τ = some (.inl (some (.int (nI (c + cntD (fun j => !shr ls em j) d j)))), τ) := by
    intro d
    induction d with
    | zero =>
      intro m j c hd hj hm
      obtain ⟨m, rfl⟩ : ∃ z, m = z + 1 := ⟨m - 1, by omega⟩
      show J_X6_changed_L61b (J_X6_changed_L61 m) M (nI i) (nI c) (nI j) τ = _
      unfold J_X6_changed_L61b
      rw [jgI_ok hk.1, a2.2.1, if_pos (nI_le (by omega) (by omega))]
      rfl
    | succ d ih =>
      intro m j c hd hj hm
      obtain ⟨m, rfl⟩ : ∃ z, m = z + 1 := ⟨m - 1, by omega⟩
      show J_X6_changed_L61b (J_X6_changed_L61 m) M (nI i) (nI c) (nI j) τ = _
      unfold J_X6_changed_L61b jj
      dsimp only
      rw [jgI_ok hk.1, a2.2.1, if_neg (nI_ge (by omega) (by omega)), jcv_ok hk.1 (m_isEmb hk hE a2 hi6 (by omega)), jvI_ok, nI_1 j]
      unfold cntD
      cases hs : shr ls em j
      · rw [if_pos (show bI false = 0 by decide), nI_1, ih m (j + 1) (c + 1) (by omega) (by omega) (by omega), Nat.add_assoc]
        rfl
      · rw [if_neg (show ¬ bI true = 0 by decide), show nI c + 0 = nI (c + 0) from nI_add c 0, ih m (j + 1) (c + 0) (by omega) (by omega) (by omega)]
        simp
  have hcnt : cntD (fun j => !shr ls em j) (max ls.length em.length) 0 = (em.length - ls.length) + cntD (fun j => !shr ls em j) ls.length 0 := by
    rw [show max ls.length em.length = ls.length + (em.length - ls.length) by omega, cntD_app, Nat.zero_add, cntD_all (em.length - ls.length) ls.length (fun j hj => ?_)]
    · omega
    · unfold shr
      rw [decide_eq_false (fun z => by omega)]
      rfl
  unfold J_X6_changed jj
  dsimp only
  rw [jcv_ok h.1.1.1 ((m_text h.1 _).1 ⟨i, hi, rfl⟩), jvI_ok, if_neg (by decide), jcv_ok h.1.1.1 (s_M_goesOn h.1.1 0), jvI_ok, if_neg (by decide), jcv_ok (by exact h.1.1.1) a1, jvI_ok, mrd hk (f := 18) (c := 13) (r := 6) (by decide) hi6, hE.2.1, jgI_ok hk.1, a2.2.1]
  by_cases c : em.length ≤ ls.length
  · rw [if_pos (nI_le c (by omega)), hcnt, show em.length - ls.length = 0 by omega]
    exact loop ls.length jN 0 0 rfl (Nat.zero_le _) (by unfold jN; omega)
  · rw [if_neg (nI_ge (by omega) (by omega)), mrd hk (f := 18) (c := 13) (r := 6) (by decide) hi6, hE.2.1, jgI_ok hk.1, a2.2.1, pk_sub (by omega), hcnt]
    exact loop ls.length jN 0 (em.length - ls.length) rfl (Nat.zero_le _) (by unfold jN; omega)
theorem m_changed_no (h : ModV σ M buf ks gs fs ss E n T W wr be) {x : Int32} (hx : ¬ inN x n) : mrs σ M (J_X6_changed M x σ) 1 0 (fun τ => ModV τ M buf ks gs fs ss E n T W wr be) := by
  refine ⟨inS σ M 0 1, ?_, in_0 σ M 1, h.th 1, ai_0 σ M 1⟩
  unfold J_X6_changed jj
  dsimp only
  rw [jcv_ok h.1.1.1 ((m_text h.1 _).2 hx), jvI_ok, if_pos rfl, jcv_ok h.1.1.1 (s_M_goesOn h.1.1 1), jvI_ok, if_pos (by decide)]
/-- text i was embossed -/
def eTx (T : Nat → Tx) (i : Nat) (L : List (List Int32)) : Nat → Tx := fun k => if k = i then (tA (T i), tX (T i), tG (T i), tM (T i), L) else T k
theorem m_emboss_worn (h : ModV σ M buf ks gs fs ss E n T W wr be) (C : MCx ks gs fs ss E n T W) {i : Nat} (hi : i < n) (hw : anyD (ovF wr (fun j => duD (lay W (clO ks gs fs ss E (T i))) (fun j => !shr (lay W (clO ks gs fs ss E (T i))) (tE (T i)) j) j (lay W (clO ks gs fs ss E (T i))).length 0 0) be) 6 0 = true) : mrs σ M (J_X6_emboss M (nI i) σ) 2 0 (fun τ => ModV τ M buf ks gs fs ss E n T W wr be) := by
  obtain ⟨τ, a1, a2, a3, a4⟩ := m_brk h C hi (-1)
  refine ⟨inS τ M 0 2, ?_, in_0 τ M 2, a3.th 2, (a4.up qS_A).tr (ai_0 τ M 2)⟩
  have hk := a3.1.1
  have hi6 : i < 6 := by have := h.1.2.2.2.2.1.1.2; omega
  have hE := (a3.1.2.2.2.2.1.2.1 i hi).2
  have hwn := m_isWorn hk hE a2 a3.1.2.2.2.2.2 hi6
  rw [hw] at hwn
  unfold J_X6_emboss jj
  dsimp only
  rw [jcv_ok h.1.1.1 ((m_text h.1 _).1 ⟨i, hi, rfl⟩), jvI_ok, if_neg (by decide), jcv_ok h.1.1.1 a1, jvI_ok, if_neg (by decide), jcv_ok hk.1 hwn, jvI_ok, if_neg (show ¬ bI true = 0 by decide), jcv_ok hk.1 (s_M_goesOn hk 2), jvI_ok, if_pos (by decide)]
theorem m_emboss_no (h : ModV σ M buf ks gs fs ss E n T W wr be) {x : Int32} (hx : ¬ inN x n) : mrs σ M (J_X6_emboss M x σ) 1 0 (fun τ => ModV τ M buf ks gs fs ss E n T W wr be) := by
  refine ⟨inS σ M 0 1, ?_, in_0 σ M 1, h.th 1, ai_0 σ M 1⟩
  unfold J_X6_emboss jj
  dsimp only
  rw [jcv_ok h.1.1.1 ((m_text h.1 _).2 hx), jvI_ok, if_pos rfl, if_pos rfl, jcv_ok h.1.1.1 (s_M_goesOn h.1.1 1), jvI_ok, if_pos (by decide)]
theorem m_emboss_ok (h : ModV σ M buf ks gs fs ss E n T W wr be) (C : MCx ks gs fs ss E n T W) (hwl : wr.length = 6) {i : Nat} (hi : i < n) (hw : anyD (ovF wr (fun j => duD (lay W (clO ks gs fs ss E (T i))) (fun j => !shr (lay W (clO ks gs fs ss E (T i))) (tE (T i)) j) j (lay W (clO ks gs fs ss E (T i))).length 0 0) be) 6 0 = false) {wr' : List Int32} (hwr : ∀ j, j < 6 → wr'.getD j 0 = wr.getD j 0 + duD (lay W (clO ks gs fs ss E (T i))) (fun j => !shr (lay W (clO ks gs fs ss E (T i))) (tE (T i)) j) j (lay W (clO ks gs fs ss E (T i))).length 0 0) : mrs σ M (J_X6_emboss M (nI i) σ) 0 (nI (100 * pgD (fun j => !shr (lay W (clO ks gs fs ss E (T i))) (tE (T i)) j) (lay W (clO ks gs fs ss E (T i))).length 0 (-1) + cntD (fun j => !shr (lay W (clO ks gs fs ss E (T i))) (tE (T i)) j) (lay W (clO ks gs fs ss E (T i))).length 0)) (fun τ => ModV τ M buf ks gs fs ss E n (eTx T i (lay W (clO ks gs fs ss E (T i)))) W wr' be) := by
  obtain ⟨τ, a1, a2, a3, a4⟩ := m_brk h C hi (-1)
  have hi6 : i < 6 := by have := h.1.2.2.2.2.1.1.2; omega
  have hwn := m_isWorn a3.1.1 (a3.1.2.2.2.2.1.2.1 i hi).2 a2 a3.1.2.2.2.2.2 hi6
  rw [hw] at hwn
  have g0 : ai (qU M) τ (inS τ M 0 0) := ai_in τ _ (Or.inr ⟨rfl, rfl⟩)
  have hV := a3.th 0
  have a2' : ML (inS τ M 0 0) M (lay W (clO ks gs fs ss E (T i))) := a2.ai (ai_in (Q := fun a k => a = M ∧ k = 0) τ 0 ⟨rfl, rfl⟩) (fun z => by omega) (fun k => ⟨fun z => by omega, fun z => by omega⟩)
  generalize lay W (clO ks gs fs ss E (T i)) = ls at *
  have hE := (hV.1.2.2.2.2.1.2.1 i hi).2
  have hl60 := a2.1
  -- the strikes
  obtain ⟨τ1, wr1, b1, b2, b3, b4⟩ := m_emb_L1 hi6 (fun (x18 : Nat) (x19 : Int32) (t20 : Hp) => J_X6_emboss_L96  (fun (x31 : Nat) (x32 : Int32) (x33 : Int32) (x34 : Int32) (t35 : Hp) => J_X6_emboss_L152   jN x31 x32 x33 x34 0 t35) jN x18 x19 0 0 ((-1)) 0 t20) 6 jN 0 (inS τ M 0 0) wr hV.1.1 hE a2' hV.1.2.2.2.2.2 hwl rfl (by omega) (by unfold jN; omega)
  have hPn : ¬ qP M M 27 ∧ ∀ k, ¬ qP M (M + 18) k ∧ ¬ qP M (M + 19) k := ⟨fun z => by unfold qP at z; omega, fun k => ⟨fun z => by unfold qP at z; omega, fun z => by unfold qP at z; omega⟩⟩
  have hPe : ∀ k, ¬ qP M (M + 11) k ∧ ¬ qP M (M + 12) k ∧ ¬ qP M (M + 13) k := fun k => ⟨fun z => by unfold qP at z; omega, fun z => by unfold qP at z; omega, fun z => by unfold qP at z; omega⟩
  have hM1 := hV.1.1.ai b4
  have hE1 := hE.ai b4 hPe
  have hL1 := a2'.ai b4 hPn.1 hPn.2
  -- counting
  have c1 := m_emb_L2 hM1 hE1 hL1 hi6 (fun (x31 : Nat) (x32 : Int32) (x33 : Int32) (x34 : Int32) (t35 : Hp) => J_X6_emboss_L152   jN x31 x32 x33 x34 0 t35) ls.length jN 0 0 0 (-1) rfl (Nat.zero_le _) (by unfold jN; omega)
  rw [Nat.zero_add, Nat.zero_add, nI_0] at c1
  -- keeping
  obtain ⟨τ2, d1, d2, d3⟩ := m_emb_L4 (ls := ls) (M := M) hi6 (cntD (fun j => !shr ls (tE (T i)) j) ls.length 0) (pgD (fun j => !shr ls (tE (T i)) j) ls.length 0 (-1)) ls.length jN 0 τ1 hM1 hL1 (fun j' hj' => (Nat.not_lt_zero j' hj').elim) rfl (Nat.zero_le _) (by unfold jN; omega)
  have nE : ∀ k, ¬ qE M i M k := fun k z => by unfold qE at z; omega
  have nE2 : ∀ c k, c ≤ 10 ∨ 14 ≤ c → ¬ qE M i (M + c) k := fun c k hc z => by unfold qE at z; omega
  have nP : ∀ k, ¬ qP M M k := fun k z => by unfold qP at z; omega
  have nP2 : ∀ c k, c ≠ 15 → ¬ qP M (M + c) k := fun c k hc z => by unfold qP at z; omega
  refine ⟨τ2, ?_, ?_, ⟨⟨(hM1.ai d3), ?_, ?_, ?_, ⟨⟨?_, hV.1.2.2.2.2.1.1.2⟩, fun i' hi' => ?_, fun i' h1 h2 => ?_⟩, ?_⟩, ?_⟩, ?_⟩
  · unfold J_X6_emboss jj
    dsimp only
    rw [jcv_ok h.1.1.1 ((m_text h.1 _).1 ⟨i, hi, rfl⟩), jvI_ok, if_neg (by decide), jcv_ok h.1.1.1 a1, jvI_ok, if_neg (by decide), jcv_ok a3.1.1.1 hwn, jvI_ok, if_pos (show bI false = 0 by decide), jcv_ok a3.1.1.1 (s_M_goesOn a3.1.1 0), jvI_ok, if_neg (by decide)]
    exact b1.trans (c1.trans d1)
  · rw [d3.i (nE 0), b4.i (nP 0)]
    exact in_0 τ M 0
  · exact (hV.1.2.1.ai b4 (nP 2) (fun k => nP2 1 k (by omega))).ai d3 (nE 2) (fun k => nE2 1 k (by omega))
  · exact (hV.1.2.2.1.ai b4 (fun k => ⟨nP2 2 k (by omega), nP2 3 k (by omega), nP2 4 k (by omega), nP2 5 k (by omega)⟩) (nP 7)).ai d3 (fun k => ⟨nE2 2 k (by omega), nE2 3 k (by omega), nE2 4 k (by omega), nE2 5 k (by omega)⟩) (nE 7)
  · exact (hV.1.2.2.2.1.ai b4 (nP 10) (fun k => ⟨nP2 6 k (by omega), nP2 7 k (by omega)⟩)).ai d3 (nE 10) (fun k => ⟨nE2 6 k (by omega), nE2 7 k (by omega)⟩)
  · rw [d3.i (nE 14), b4.i (nP 14)]
    exact hV.1.2.2.2.2.1.1.1
  · obtain ⟨t1, t2⟩ := hV.1.2.2.2.2.1.2.1 i' hi'
    have t1' := (t1.ai b4 (fun k => ⟨nP2 8 k (by omega), nP2 9 k (by omega), nP2 10 k (by omega)⟩)).ai d3 (fun k => ⟨nE2 8 k (by omega), nE2 9 k (by omega), nE2 10 k (by omega)⟩)
    have t2' := t2.ai b4 hPe
    unfold eTx
    by_cases e : i' = i
    · subst e
      rw [if_pos rfl]
      exact ⟨t1', d2⟩
    · rw [if_neg e]
      exact ⟨t1', me_other t2' d3 e⟩
  · rw [d3.i (fun z => by unfold qE at z; omega), b4.i (nP2 13 _ (by omega))]
    exact hV.1.2.2.2.2.1.2.2 i' h1 h2
  · obtain ⟨z1, z2, z3⟩ := b2
    refine ⟨by rw [d3.i (nE 15)]; exact z1, by rw [d3.i (nE 20)]; exact z2, fun j hj => ?_⟩
    rw [d3.i (nE2 15 j (by omega)), z3 j hj, b3 j hj, if_pos (Nat.zero_le _), hwr j hj]
  · have hF : tF (eTx T i ls) = tF T := by
      funext x k
      unfold tF eTx
      by_cases e : x = i
      · rw [if_pos e, e]; rfl
      · rw [if_neg e]
    have hL : tL (eTx T i ls) = tL T := by
      funext x
      unfold tL eTx
      by_cases e : x = i
      · rw [if_pos e, e]; rfl
      · rw [if_neg e]
    rw [hF, hL]
    exact (hV.2.ai b4 (fun k => nP2 14 k (by omega))).ai d3 (fun k => nE2 14 k (by omega))
  · refine (a4.up qS_A).tr ((ai_0 τ M 0).tr ((b4.up (fun a k z => by unfold qP at z; unfold qA; omega)).tr (d3.up (fun a k z => by unfold qE at z; unfold qA; omega))))
end MODAL
