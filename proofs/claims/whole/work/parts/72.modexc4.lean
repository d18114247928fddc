/-! The model turns an exception: the call. -/
section MODTC
variable {σ : Hp} {M : Nat} {buf ks : List Nat} {gs fs ss : List Int32} {E : List (List Nat)} {n : Nat} {T T' : Nat → Tx} {W : Nat} {wr : List Int32} {be : Int32}
theorem m_te_bad (h : ModV σ M buf ks gs fs ss E n T W wr be) (hb : (∀ c ∈ buf, c ≤ 26) ∧ buf.length ≤ 80) (hw : ¬ oneW buf) : mrs σ M (J_X6_turnException M σ) 1 0 (fun τ => ModV τ M buf ks gs fs ss E n T W wr be) := by
  refine ⟨inS σ M 0 1, ?_, in_0 σ M 1, h.th 1, ai_0 σ M 1⟩
  unfold J_X6_turnException jj
  dsimp only
  rw [jgI_ok h.1.1.1, h.1.2.1.1]
  by_cases c : buf.length = 0
  · rw [if_pos (show nI buf.length ≤ (0 : Int32) from nI_le (a := buf.length) (b := 0) (by omega) (by omega)), if_pos rfl, if_pos rfl, jcv_ok h.1.1.1 (s_M_goesOn h.1.1 1), jvI_ok, if_pos (by decide), jrt_0]
  · have c2 : 0 ∈ buf := Classical.byContradiction (fun z => hw (oneW_b.mpr ⟨by omega, z⟩))
    have hB := m_hasBlank h.1.1 h.1.2.1 hb.2 hb.1
    rw [decide_eq_true c2] at hB
    rw [if_neg (nI_nle (by omega) (by omega)), jcv_ok h.1.1.1 hB, jvI_ok, if_neg (show ¬ bI true = 0 by decide), if_pos rfl, if_pos rfl, jcv_ok h.1.1.1 (s_M_goesOn h.1.1 1), jvI_ok, if_pos (by decide), jrt_0]
theorem m_te_pre (h : ModV σ M buf ks gs fs ss E n T W wr be) (hb : (∀ c ∈ buf, c ≤ 26) ∧ buf.length ≤ 80) (hw : oneW buf) : ¬ nI buf.length ≤ 0 ∧ J_X6_hasBlank M σ = some (.inl (some (.int 0)), σ) := by
  obtain ⟨w1, w2⟩ := oneW_b.mp hw
  have hB := m_hasBlank h.1.1 h.1.2.1 hb.2 hb.1
  rw [decide_eq_false w2] at hB
  exact ⟨nI_nle (by omega) (by omega), hB⟩
theorem m_te_full (h : ModV σ M buf ks gs fs ss E n T W wr be) (hI : RubI ks gs fs ss E) (hb : (∀ c ∈ buf, c ≤ 26) ∧ buf.length ≤ 80) (hw : oneW buf) (hn : buf ∉ E) (h20 : E.length = 20) : mrs σ M (J_X6_turnException M σ) 2 0 (fun τ => ModV τ M buf ks gs fs ss E n T W wr be) := by
  refine ⟨inS σ M 0 2, ?_, in_0 σ M 2, h.th 2, ai_0 σ M 2⟩
  obtain ⟨p1, p2⟩ := m_te_pre h hb hw
  have hx := m_excB h.1.1 h.1.2.1 h.1.2.2.2.1 hb hI.2.2.2.2.2.2.2
  rw [if_neg hn] at hx
  unfold J_X6_turnException jj
  dsimp only
  rw [jgI_ok h.1.1.1, h.1.2.1.1, if_neg p1, jcv_ok h.1.1.1 p2, jvI_ok, if_pos rfl, if_neg (by decide), jcv_ok h.1.1.1 hx, jvI_ok, if_neg (by decide), if_pos rfl, jgI_ok h.1.1.1, h.1.2.2.2.1.1, h20, if_pos (by decide +kernel), jcv_ok h.1.1.1 (s_M_goesOn h.1.1 2), jvI_ok, if_pos (by decide), jrt_0]
theorem m_te_add_ok (h : ModV σ M buf ks gs fs ss E n T W wr be) (C : MCx ks gs fs ss E n T W) (hb : (∀ c ∈ buf, c ≤ 26) ∧ buf.length ≤ 80) (hw : oneW buf) (hn : buf ∉ E) (h20 : E.length < 20) (hT : TR n 0 T T' (fun j => clO ks gs fs ss (E ++ [buf]) (T j)) (fun j => clO ks gs fs ss E (T j))) : mrs σ M (J_X6_turnException M σ) 0 1 (fun τ => ModV τ M [] ks gs fs ss (E ++ [buf]) n T' W wr be) := by
  have h0 := h.th 0
  obtain ⟨p1, p2⟩ := m_te_pre h hb hw
  have hx := m_excB h.1.1 h.1.2.1 h.1.2.2.2.1 hb C.1.2.2.2.2.2.2.2
  rw [if_neg hn] at hx
  have hlt : lts buf := lts_of hb.1 hw.2
  obtain ⟨τ1, a1, a2, a3⟩ := m_keep C.1 C.2.1 C.2.2.1 h0.1
  have V1 := h0.sc a3
  obtain ⟨τ2, b1, b2, b3⟩ := m_te_add hb h20 (-1) buf.length jN 0 τ1 V1.1.1 V1.1.2.1 V1.1.2.2.2.1 (fun k' hk' => (Nat.not_lt_zero k' hk').elim) rfl (Nat.zero_le _) (by have := hb.2; unfold jN; omega) hlt
  have V4 := V1.ex b3 b2
  have C' : MCx ks gs fs ss (E ++ [buf]) n T W := ⟨C.1.excA hlt hw.1 hb.2 hn, C.2⟩
  obtain ⟨τ, d1, d2, d3, d4⟩ := m_tail V4 C' (C.old) (a2.ai b3 (fun k z => by unfold qX at z; omega)) hT
  have hx0 : inH τ2 M 0 = 0 := by
    rw [b3.i (fun z => by unfold qX at z; omega), a3.i qS_0]
    exact in_0 σ M 0
  have e20 : ¬ nI E.length = 20 := fun z => by
    have := (nI_eq (a := E.length) (b := 20) (by omega) (by omega)).mp z
    omega
  refine ⟨τ, ?_, by rw [d3]; exact hx0, d2, (ai_0 σ M 0).tr ((a3.up qS_A).tr ((b3.up qX_A).tr d4))⟩
  unfold J_X6_turnException jj
  dsimp only
  rw [jgI_ok h.1.1.1, h.1.2.1.1, if_neg p1, jcv_ok h.1.1.1 p2, jvI_ok, if_pos rfl, if_neg (by decide), jcv_ok h.1.1.1 hx, jvI_ok, if_neg (by decide), if_pos rfl, jgI_ok h.1.1.1, h.1.2.2.2.1.1, if_neg e20, jcv_ok h.1.1.1 (s_M_goesOn h.1.1 0), jvI_ok, if_neg (by decide), jcv_ok h0.1.1.1 a1, jvV_ok, if_pos rfl]
  refine (show _ = _ from b1).trans ?_
  unfold teE
  rw [jpI_ok V4.1.1.1, jcv_ok (by exact V4.1.1.1) d1, jvI_ok, if_pos rfl, jrt_1]
theorem m_te_drop_ok (h : ModV σ M buf ks gs fs ss E n T W wr be) (C : MCx ks gs fs ss E n T W) (hb : (∀ c ∈ buf, c ≤ 26) ∧ buf.length ≤ 80) (hw : oneW buf) (hn : buf ∈ E) (hI' : RubI ks gs fs ss (swp E (E.idxOf buf))) (hT : TR n 0 T T' (fun j => clO ks gs fs ss (swp E (E.idxOf buf)) (T j)) (fun j => clO ks gs fs ss E (T j))) : mrs σ M (J_X6_turnException M σ) 0 0 (fun τ => ModV τ M [] ks gs fs ss (swp E (E.idxOf buf)) n T' W wr be) := by
  have h0 := h.th 0
  obtain ⟨p1, p2⟩ := m_te_pre h hb hw
  have hx := m_excB h.1.1 h.1.2.1 h.1.2.2.2.1 hb C.1.2.2.2.2.2.2.2
  rw [if_pos hn] at hx
  have hix := List.idxOf_lt_length_of_mem hn
  generalize E.idxOf buf = i at *
  have hl20 := h.1.2.2.2.1.2.1
  obtain ⟨τ1, a1, a2, a3⟩ := m_keep C.1 C.2.1 C.2.2.1 h0.1
  have V1 := h0.sc a3
  obtain ⟨x1, x2, x3⟩ := V1.1.2.2.2.1
  have g1 : ai (qX M) τ1 (inS τ1 M 10 (nI (E.length - 1))) := ai_in _ _ (Or.inr (Or.inr ⟨rfl, rfl⟩))
  have hk1 := V1.1.1.ai g1
  obtain ⟨τ2, b1, b2, b3⟩ := m_te_drop hix (inH τ1 (M + 6)) (inH τ1 (M + 7) (E.length - 1)) 80 jN 0 (inS τ1 M 10 (nI (E.length - 1))) hk1 (by rw [in_inS, if_pos ⟨rfl, rfl⟩]) hl20 (fun x => by rw [in_inS, if_neg (by omega), if_neg (by omega)]) (by rw [in_inS, if_neg (by omega)]) rfl (by omega) (by unfold jN; omega)
  have g2 : ai (qX M) τ1 (inS τ2 (M + 7) i (inH τ1 (M + 7) (E.length - 1))) := (g1.tr (b3.up (fun a k z => Or.inl z))).tr (ai_in _ _ (Or.inr (Or.inl rfl)))
  have h7' : ∀ x, inH τ2 (M + 7) x = inH τ1 (M + 7) x := fun x => by
    rw [b3.i (by omega), in_inS, if_neg (by omega)]
  have hX2 : MX (inS τ2 (M + 7) i (inH τ1 (M + 7) (E.length - 1))) M (swp E i) := by
    refine ⟨by rw [in_inS, if_neg (by omega), b3.i (by omega), in_inS, if_pos ⟨rfl, rfl⟩, swp_len], by rw [swp_len]; omega, fun e he => ?_⟩
    rw [swp_len] at he
    rw [swp_get hix he]
    by_cases c : e = i
    · rw [if_pos c]
      obtain ⟨y1, y2, y3, y4⟩ := x3 (E.length - 1) (by omega)
      refine ⟨y1, y2, ?_, fun k hk => ?_⟩
      · rw [in_inS, if_pos ⟨rfl, c⟩]
        exact y3
      · rw [in_inS, if_neg (by omega), b2, if_pos (by omega), show 80 * e + k - 80 * i = k by omega]
        exact y4 k hk
    · rw [if_neg c]
      obtain ⟨y1, y2, y3, y4⟩ := x3 e (by omega)
      refine ⟨y1, y2, ?_, fun k hk => ?_⟩
      · rw [in_inS, if_neg (by omega), h7']
        exact y3
      · rw [in_inS, if_neg (by omega), b2, if_neg (by omega)]
        exact y4 k hk
  have V4 := V1.ex g2 hX2
  have C' : MCx ks gs fs ss (swp E i) n T W := ⟨hI', C.2⟩
  obtain ⟨τ, d1, d2, d3, d4⟩ := m_tail V4 C' (C.old) (a2.ai g2 (fun k z => by unfold qX at z; omega)) hT
  have hx0 : inH (inS τ2 (M + 7) i (inH τ1 (M + 7) (E.length - 1))) M 0 = 0 := by
    rw [g2.i (fun z => by unfold qX at z; omega), a3.i qS_0]
    exact in_0 σ M 0
  have em : ¬ nI i = -1 := ne_m1 (by omega)
  refine ⟨τ, ?_, by rw [d3]; exact hx0, d2, (ai_0 σ M 0).tr ((a3.up qS_A).tr ((g2.up qX_A).tr d4))⟩
  unfold J_X6_turnException jj
  dsimp only
  rw [jgI_ok h.1.1.1, h.1.2.1.1, if_neg p1, jcv_ok h.1.1.1 p2, jvI_ok, if_pos rfl, if_neg (by decide), jcv_ok h.1.1.1 hx, jvI_ok, if_neg (by decide), if_neg em, jcv_ok h.1.1.1 (s_M_goesOn h.1.1 0), jvI_ok, if_neg (by decide), jcv_ok h0.1.1.1 a1, jvV_ok, if_neg em, jgI_ok V1.1.1.1, x1, jpI_ok V1.1.1.1, show nI E.length - 1 = nI (E.length - 1) from pk_sub (b := 1) (by omega)]
  refine (show _ = _ from b1).trans ?_
  unfold teE
  rw [jpI_ok V4.1.1.1, jcv_ok (by exact V4.1.1.1) d1, jvI_ok, if_neg em, jrt_0]
end MODTC
