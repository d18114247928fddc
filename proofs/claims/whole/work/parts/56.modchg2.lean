/-! The model tells which texts changed. -/
section MODCH
variable {M : Nat} {buf ks : List Nat} {gs fs ss : List Int32} {E : List (List Nat)} {n : Nat} {T : Nat → Tx} {W : Nat} {wr : List Int32} {be : Int32} {old : Nat → List (List Int32)}
theorem m_chg_L2 (hI : RubI ks gs fs ss E) (hss : ∀ s ∈ ss, ¬ s < 0) (hW : ∀ i, i < n → WdI (wd (tX (T i)))) {i : Nat} (hi : i < n) (ho : (old i).length = (wd (tX (T i))).length) (cnt : Nat) (kk : Nat → Int32 → Int32 → Int32 → Int32 → Hp → jR) : ∀ (d m j : Nat) (f : Bool) (σ : Hp), ModA σ M buf ks gs fs ss E n T W wr be → MF σ M (bft old n) → MG σ M n (fM T (fun j => clO ks gs fs ss E (T j)) old i j) (tL T) → (wd (tX (T i))).length - j = d → j ≤ (wd (tX (T i))).length → d < m → ∃ τ, J_X6_textsChanged_L27 kk m M (nI (bft old i ++ bfr ((old i).take j)).length) (nI cnt) (nI i) (nI (wd (tX (T i))).length) (bI f) (nI j) σ = kk M (nI (bft old (i + 1)).length) (nI cnt) (nI i) (bI (f || anyD (fun j => !shr (clO ks gs fs ss E (T i)) (old i) j) d j)) τ ∧ MF τ M (bft old n) ∧ MG τ M n (fM T (fun j => clO ks gs fs ss E (T j)) old i (wd (tX (T i))).length) (tL T) ∧ ai (qT M) σ τ := by
  obtain ⟨hc1, hc2, hc3⟩ := cl_cap ks gs fs ss E (hW i hi)
  have hw40 : (wd (tX (T i))).length ≤ 40 := by omega
  intro d
  induction d with
  | zero =>
    intro m j f σ h hf hg hd hj hm
    obtain ⟨m, rfl⟩ : ∃ z, m = z + 1 := ⟨m - 1, by omega⟩
    obtain rfl : j = (wd (tX (T i))).length := by omega
    refine ⟨σ, ?_, hf, hg, ai.rf⟩
    show J_X6_textsChanged_L27b kk (J_X6_textsChanged_L27 kk m) M _ (nI cnt) (nI i) (nI _) (bI f) (nI _) σ = _
    unfold J_X6_textsChanged_L27b
    rw [if_pos (nI_le (Nat.le_refl _) (by omega)), List.take_of_length_le (by omega), ← bft_succ, show anyD (fun j => !shr (clO ks gs fs ss E (T i)) (old i) j) 0 (wd (tX (T i))).length = false from rfl, Bool.or_false]
  | succ d ih =>
    intro m j f σ h hf hg hd hj hm
    obtain ⟨m, rfl⟩ : ∃ z, m = z + 1 := ⟨m - 1, by omega⟩
    have hjw : j < (wd (tX (T i))).length := by omega
    have hn := h.2.2.2.2.1.1.2
    obtain ⟨τ, a1, a2, a3⟩ := m_tr h hI hss hi hjw
    have hA := h.ai (a3.up qW_T)
    have hf1 := hf.ai a3 (fun k z => by unfold qW at z; omega)
    have hg1 := hg.ai a3 (fun k z => by unfold qW at z; omega)
    obtain ⟨R, hR⟩ := bft_split old (i := i) (j := j) n hi (by omega)
    have hP : (bft old i ++ bfr ((old i).take j)).length < (bft old n).length := by rw [hR, List.length_append (as := bft old i ++ bfr ((old i).take j))]; simp
    have hB0 : (bft old n).getD (bft old i ++ bfr ((old i).take j)).length 0 = nI ((old i).getD j []).length := by
      rw [hR]
      simp [List.getD_eq_getElem?_getD]
    have hB1 : ∀ k, k < ((old i).getD j []).length → (bft old n).getD ((bft old i ++ bfr ((old i).take j)).length + 1 + k) 0 = ((old i).getD j []).getD k 0 := fun k hk => by
      rw [hR]
      simp only [List.getD_eq_getElem?_getD]
      rw [List.getElem?_append_right (by omega), show (bft old i ++ bfr ((old i).take j)).length + 1 + k - (bft old i ++ bfr ((old i).take j)).length = k + 1 by omega]
      rw [List.cons_append, List.getElem?_cons_succ, List.getElem?_append_left (by rw [← List.getD_eq_getElem?_getD]; exact hk)]
    have hB2 : (bft old i ++ bfr ((old i).take j)).length + 1 + ((old i).getD j []).length ≤ (bft old n).length := by rw [hR, List.length_append (as := bft old i ++ bfr ((old i).take j))]; simp; omega
    have hB3 := hf.1
    have hB4 := pc_len_le (clO ks gs fs ss E (T i)) j
    have hsn : bft old i ++ bfr ((old i).take (j + 1)) = (bft old i ++ bfr ((old i).take j)) ++ nI ((old i).getD j []).length :: (old i).getD j [] := by
      rw [bfr_snoc _ (by omega)]
      simp
    have hlen : (bft old i ++ bfr ((old i).take (j + 1))).length = (bft old i ++ bfr ((old i).take j)).length + (1 + ((old i).getD j []).length) := by
      rw [hsn, List.length_append (as := bft old i ++ bfr ((old i).take j)), List.length_cons]
      omega
    generalize hpp : (bft old i ++ bfr ((old i).take j)).length = P at *
    have hsh : shr (clO ks gs fs ss E (T i)) (old i) j = decide ((old i).getD j [] = (clO ks gs fs ss E (T i)).getD j []) := by
      rw [shr_in (by omega) (by omega)]
      exact decide_eq_decide.mpr ⟨Eq.symm, Eq.symm⟩
    have hL40 : ∀ x, x < n → tL T x ≤ 40 := fun x hx => (hW x hx).2.2.1
    show ∃ υ, J_X6_textsChanged_L27b kk (J_X6_textsChanged_L27 kk m) M (nI P) (nI cnt) (nI i) (nI _) (bI f) (nI j) σ = _ ∧ _
    unfold J_X6_textsChanged_L27b jj
    dsimp only
    rw [if_neg (nI_ge hjw (by omega)), jcv_ok h.1.1 a1, jvV_ok, jgR_ok hA.1.1, hA.1.fr (f := 24) (c := 17) (r := 1600) (by decide), jdr_ok, jaI_ok (hA.1.fk (f := 24) (c := 17) (r := 1600) (by decide)) (by omega) (by decide), hf1.2 _ hP, hB0, jgI_ok hA.1.1, a2.1]
    have hz : ∀ (A B : jR) (y : Int32 → jR), (if nI ((old i).getD j []).length = nI ((clO ks gs fs ss E (T i)).getD j []).length then y 1 else y 0) = y (bI (decide (((old i).getD j []).length = ((clO ks gs fs ss E (T i)).getD j []).length))) := fun _ _ y => by
      by_cases z : ((old i).getD j []).length = ((clO ks gs fs ss E (T i)).getD j []).length
      · rw [if_pos (by rw [z]), decide_eq_true z]; rfl
      · rw [if_neg (fun x => z ((nI_eq (by omega) (by omega)).mp x)), decide_eq_false z]; rfl
    rw [hz none none (fun x11 => J_X6_textsChanged_L68 _ jN M (nI P) (nI cnt) (nI i) (nI _) (bI f) (nI j) (nI _) x11 0 τ)]
    have hL := fun kk => m_chg_L1 kk (nI cnt) (nI i) (nI (wd (tX (T i))).length) (bI f) (nI j) (B := bft old n) (p := P) (by omega) hB1 (by omega) hA.1 a2 hf1 ((old i).getD j []).length jN 0 (decide (((old i).getD j []).length = ((clO ks gs fs ss E (T i)).getD j []).length)) (fun z => of_decide_eq_true z) rfl (Nat.zero_le _) (by unfold jN; omega)
    rw [nI_0] at hL
    rw [hL]
    rw [List.drop_zero, List.drop_zero]
    have hb : (decide (((old i).getD j []).length = ((clO ks gs fs ss E (T i)).getD j []).length) && decide ((old i).getD j [] = (clO ks gs fs ss E (T i)).getD j [])) = shr (clO ks gs fs ss E (T i)) (old i) j := by
      rw [hsh]
      by_cases z : (old i).getD j [] = (clO ks gs fs ss E (T i)).getD j []
      · rw [z]; simp
      · rw [decide_eq_false z, Bool.and_false]
    rw [hb]
    rw [show nI P + ((1 : Int32) + nI ((old i).getD j []).length) = nI (P + (1 + ((old i).getD j []).length)) from (congrArg (nI P + ·) (nI_add 1 _)).trans (nI_add _ _), ← hlen, nI_1, anyD_or]
    cases hs : shr (clO ks gs fs ss E (T i)) (old i) j
    · have hw2 := hg1.wipe (σ := τ) hn hL40 hi hjw hs
      have hq : ai (qK M) τ (inS (inS τ (M + 14) (40 * i + j) 0) (M + 14) (240 + 40 * i + j) 0) := (ai_in (Q := qK M) _ _ rfl).tr (ai_in (Q := qK M) _ _ rfl)
      obtain ⟨υ, b1, b2, b3, b4⟩ := ih m (j + 1) true _ (hA.ai (hq.up qK_T)) (hf1.ai hq (fun k z => by unfold qK at z; omega)) hw2 (by omega) (by omega) (by omega)
      refine ⟨υ, ?_, b2, b3, (a3.up qW_T).tr ((hq.up qK_T).tr b4)⟩
      have hk := hA.1.fk (f := 19) (c := 14) (r := 480) (by decide)
      have h19 := hA.1.fr (f := 19) (c := 14) (r := 480) (by decide)
      have hi6 : i < 6 := by omega
      have b1' : J_X6_textsChanged_L27 kk m M (nI (bft old i ++ bfr ((old i).take (j + 1))).length) (nI cnt) (nI i) (nI (wd (tX (T i))).length) 1 (nI (j + 1)) (inS (inS τ (M + 14) (40 * i + j) 0) (M + 14) (240 + 40 * i + j) 0) = kk M (nI (bft old (i + 1)).length) (nI cnt) (nI i) (bI true) υ := by
        have := b1
        rw [Bool.true_or] at this
        exact this
      have hwr : jgR τ M 6 19 (fun r34 => jdr r34 (fun b35 => jsI τ b35 (40 * nI i + nI j) 0 (fun t36 => jgR t36 M 6 19 (fun r37 => jdr r37 (fun b38 => jsI t36 b38 (240 + 40 * nI i + nI j) 0 (fun t39 => J_X6_textsChanged_L27 kk m M (nI (bft old i ++ bfr ((old i).take (j + 1))).length) (nI cnt) (nI i) (nI (wd (tX (T i))).length) 1 (nI (j + 1)) t39)))))) = kk M (nI (bft old (i + 1)).length) (nI cnt) (nI i) (bI true) υ := by
        rw [jgR_ok hA.1.1, h19, jdr_ok, e40, jsI_ok hk (by omega) (by decide), jgR_ok (by exact hA.1.1), rf_inS, h19, jdr_ok, e240, jsI_ok (by exact hk) (by omega) (by decide)]
        exact b1'
      cases f <;> simp only [b0z, b1z, if_true, if_false, Bool.not_false, Bool.true_or, Bool.or_true, Bool.false_or] <;> exact hwr
    · obtain ⟨υ, b1, b2, b3, b4⟩ := ih m (j + 1) f τ hA hf1 (hg1.stay hs) (by omega) (by omega) (by omega)
      refine ⟨υ, ?_, b2, b3, (a3.up qW_T).tr b4⟩
      cases f <;> simp only [b0z, b1z, if_true, if_false, Bool.not_true, Bool.true_or, Bool.or_true, Bool.false_or] at b1 ⊢ <;> exact b1
end MODCH
