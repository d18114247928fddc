/-! The model mends, removes, shows rules. -/
section MODRM
variable {σ : Hp} {M : Nat} {buf ks ks' : List Nat} {gs fs ss gs' fs' ss' : List Int32} {E : List (List Nat)} {n : Nat} {T T' : Nat → Tx} {W : Nat} {wr : List Int32} {be : Int32}
theorem m_mend_1 (h : ModV σ M buf ks gs fs ss E n T W wr be) (hI : RubI ks gs fs ss E) (hb : (∀ c ∈ buf, c ≤ 26) ∧ buf.length ≤ 80) {g x y : Int32} (hf : ¬ fineR g x y) : mrs σ M (J_X6_mend M g x y σ) 1 0 (fun τ => ModV τ M buf ks gs fs ss E n T W wr be) := by
  refine ⟨inS σ M 0 1, ?_, in_0 σ M 1, h.th 1, ai_0 σ M 1⟩
  unfold J_X6_mend jj
  dsimp only
  have hL := m_letters h.1.1 h.1.2.1 hb.2 hb.1
  by_cases c1 : rkey buf
  · have hkb := k27_b (rkey_lts c1 hb.1)
    rw [jcv_ok h.1.1.1 (hL.1 c1), jvI_ok, if_neg (ne_m1 (by omega)), jcv_ok h.1.1.1 (s_M_ruleOf h.1.1 h.1.2.2.1 hI hkb), jvI_ok, jcs_ok ((m_fine g x y).2 hf), jvI_ok, if_pos rfl, jcv_ok h.1.1.1 (s_M_goesOn h.1.1 1), jvI_ok, if_pos (by decide)]
  · rw [jcv_ok h.1.1.1 (hL.2 c1), jvI_ok, if_pos rfl, jcs_ok ((m_fine g x y).2 hf), jvI_ok, if_pos rfl, jcv_ok h.1.1.1 (s_M_goesOn h.1.1 1), jvI_ok, if_pos (by decide)]
theorem m_mend_2 (h : ModV σ M buf ks gs fs ss E n T W wr be) (hI : RubI ks gs fs ss E) (hb : (∀ c ∈ buf, c ≤ 26) ∧ buf.length ≤ 80) {g x y : Int32} (hf : fineR g x y) (hn : ¬ (rkey buf ∧ k27 buf ∈ ks)) : mrs σ M (J_X6_mend M g x y σ) 2 0 (fun τ => ModV τ M buf ks gs fs ss E n T W wr be) := by
  refine ⟨inS σ M 0 2, ?_, in_0 σ M 2, h.th 2, ai_0 σ M 2⟩
  unfold J_X6_mend jj
  dsimp only
  have hL := m_letters h.1.1 h.1.2.1 hb.2 hb.1
  by_cases c1 : rkey buf
  · have hkb := k27_b (rkey_lts c1 hb.1)
    have hro := s_M_ruleOf h.1.1 h.1.2.2.1 hI hkb
    rw [if_neg (fun z => hn ⟨c1, z⟩)] at hro
    rw [jcv_ok h.1.1.1 (hL.1 c1), jvI_ok, if_neg (ne_m1 (by omega)), jcv_ok h.1.1.1 hro, jvI_ok, jcs_ok ((m_fine g x y).1 hf), jvI_ok, if_neg (by decide), if_pos rfl, jcv_ok h.1.1.1 (s_M_goesOn h.1.1 2), jvI_ok, if_pos (by decide)]
  · rw [jcv_ok h.1.1.1 (hL.2 c1), jvI_ok, if_pos rfl, jcs_ok ((m_fine g x y).1 hf), jvI_ok, if_neg (by decide), if_pos rfl, jcv_ok h.1.1.1 (s_M_goesOn h.1.1 2), jvI_ok, if_pos (by decide)]
theorem m_mend_ok (h : ModV σ M buf ks gs fs ss E n T W wr be) (C : MCx ks gs fs ss E n T W) (hb : (∀ c ∈ buf, c ≤ 26) ∧ buf.length ≤ 80) {g x y : Int32} (hf : fineR g x y) (hr : rkey buf) (hn : k27 buf ∈ ks) (hT : TR n 0 T T' (fun j => clO ks (gs.set (ks.idxOf (k27 buf)) g) (fs.set (ks.idxOf (k27 buf)) x) (ss.set (ks.idxOf (k27 buf)) y) E (T j)) (fun j => clO ks gs fs ss E (T j))) : mrs σ M (J_X6_mend M g x y σ) 0 (nI (cntD (fun j => chg (clO ks (gs.set (ks.idxOf (k27 buf)) g) (fs.set (ks.idxOf (k27 buf)) x) (ss.set (ks.idxOf (k27 buf)) y) E (T j)) (clO ks gs fs ss E (T j))) n 0)) (fun τ => ModV τ M [] ks (gs.set (ks.idxOf (k27 buf)) g) (fs.set (ks.idxOf (k27 buf)) x) (ss.set (ks.idxOf (k27 buf)) y) E n T' W wr be) := by
  have h0 := h.th 0
  have hlt := rkey_lts hr hb.1
  have hkb := k27_b hlt
  have hix := List.idxOf_lt_length_of_mem hn
  have hget := idx_get hn
  have hro := s_M_ruleOf h.1.1 h.1.2.2.1 C.1 hkb
  rw [if_pos hn] at hro
  generalize hp : ks.idxOf (k27 buf) = p at *
  obtain ⟨l1, l2, l3, _⟩ := C.1
  have h40 := h.1.2.2.1.2.1
  obtain ⟨τ1, a1, a2, a3⟩ := m_keep C.1 C.2.1 C.2.2.1 h0.1
  have V1 := h0.sc a3
  obtain ⟨τ3, c1, c2, c3⟩ := m_puts V1.1.1 (b := p) (by omega) (nI (k27 buf)) g x y
  have g13 : ai (qRu M) τ1 τ3 := (c3.up qR_r).up qRr_u
  have hMR : MR τ3 M ks (gs.set p g) (fs.set p x) (ss.set p y) := by
    refine ⟨by rw [c3.i (fun z => by unfold qR at z; omega)]; exact V1.1.2.2.1.1, h40, fun i hi => ?_⟩
    show MRow τ3 M i _ _ _ _
    rw [getD_set (by omega), getD_set (by omega), getD_set (by omega)]
    by_cases e : i = p
    · rw [if_pos e, if_pos e, if_pos e, e, hget]
      exact c2
    · rw [if_neg e, if_neg e, if_neg e]
      exact (V1.1.2.2.1.row hi).ai c3 e
  have V4 := V1.ru g13 hMR
  have C' : MCx ks (gs.set p g) (fs.set p x) (ss.set p y) E n T W := ⟨C.1.tSet p g y (fine_x hf), fun s hs => by
    rcases set_memx hs with z | z
    · rw [z]; exact fine_s hf
    · exact C.2.1 s z, C.2.2⟩
  obtain ⟨τ, d1, d2, d3, d4⟩ := m_tail V4 C' (C.old) (a2.ai g13 (fun k z => by unfold qRu at z; omega)) hT
  have hx0 : inH τ3 M 0 = 0 := by
    rw [c3.i (fun z => by unfold qR at z; omega), a3.i qS_0]
    exact in_0 σ M 0
  refine ⟨τ, ?_, by rw [d3]; exact hx0, d2, (ai_0 σ M 0).tr ((a3.up qS_A).tr ((g13.up qRu_A).tr d4))⟩
  unfold J_X6_mend jj
  dsimp only
  rw [jcv_ok h.1.1.1 ((m_letters h.1.1 h.1.2.1 hb.2 hb.1).1 hr), jvI_ok, if_neg (ne_m1 (by omega)), jcv_ok h.1.1.1 hro, jvI_ok, jcs_ok ((m_fine g x y).1 hf), jvI_ok, if_neg (by decide), if_neg (ne_m1 (by omega)), jcv_ok h.1.1.1 (s_M_goesOn h.1.1 0), jvI_ok, if_neg (by decide), jcv_ok h0.1.1.1 a1, jvV_ok, jcv_ok V1.1.1.1 c1, jvV_ok, jpI_ok (V1.1.1.ai c3).1, jcv_ok (by exact (V1.1.1.ai c3).1) d1, jvI_ok]
/-- what the model does when the rows are moved -/
def remE (a0 : Nat) (t0 : Hp) : jR := jgI t0 a0 6 7 (fun x13 => jpI t0 a0 6 7 (x13 - 1) (fun t14 => jcv t14 a0 6 (J_X6_textsChanged a0 t14) (fun w16 t15 => jvI w16 (fun x17 => jgI t15 a0 6 7 (fun x18 => some (.inl (some (.int x18)), t15)))) (fun E t => some (.inr E, t))))
theorem m_rem_L {p : Nat} (h40 : ks.length ≤ 40) : ∀ (d m r : Nat) (σ : Hp), MH σ M → inH σ M 7 = nI ks.length → (∀ i, i < p → MO σ M ks gs fs ss i i) → (∀ i, p ≤ i → i + 1 < r → MO σ M ks gs fs ss i (i + 1)) → (∀ i, r ≤ i → i < ks.length → MO σ M ks gs fs ss i i) → p + 1 ≤ r → ks.length - r = d → r ≤ ks.length → d < m → ∃ τ, J_X6_removeRule_L36 m M (nI r) σ = remE M τ ∧ (∀ i, i < p → MO τ M ks gs fs ss i i) ∧ (∀ i, p ≤ i → i + 1 < ks.length → MO τ M ks gs fs ss i (i + 1)) ∧ ai (qRr M) σ τ := by
  intro d
  induction d with
  | zero =>
    intro m r σ h h7 r1 r2 r3 hpr hd hr hm
    obtain ⟨m, rfl⟩ : ∃ z, m = z + 1 := ⟨m - 1, by omega⟩
    obtain rfl : r = ks.length := by omega
    refine ⟨σ, ?_, r1, r2, ai.rf⟩
    show J_X6_removeRule_L36b (J_X6_removeRule_L36 m) M (nI ks.length) σ = _
    unfold J_X6_removeRule_L36b
    rw [jgI_ok h.1, h7, if_pos (nI_le (Nat.le_refl _) (by omega))]
    rfl
  | succ d ih =>
    intro m r σ h h7 r1 r2 r3 hpr hd hr hm
    obtain ⟨m, rfl⟩ : ∃ z, m = z + 1 := ⟨m - 1, by omega⟩
    obtain ⟨q, rfl⟩ : ∃ z, r = z + 1 := ⟨r - 1, by omega⟩
    obtain ⟨τ, a1, a2, a3⟩ := m_moves h (a := q + 1) (b := q) (by omega) (by omega) (r3 (q + 1) (Nat.le_refl _) (by omega))
    obtain ⟨υ, b1, b2, b3, b4⟩ := ih m (q + 2) τ (h.ai a3) (by rw [a3.i (fun z => by unfold qR at z; omega)]; exact h7) (fun i hi => (r1 i hi).ai a3 (by omega)) (fun i hi1 hi2 => by
      by_cases e : i = q
      · subst e
        exact a2
      · exact (r2 i hi1 (by omega)).ai a3 e) (fun i hi1 hi2 => (r3 i (by omega) hi2).ai a3 (by omega)) (by omega) (by omega) (by omega) (by omega)
    refine ⟨υ, ?_, b2, b3, (a3.up qR_r).tr b4⟩
    show J_X6_removeRule_L36b (J_X6_removeRule_L36 m) M (nI (q + 1)) σ = _
    unfold J_X6_removeRule_L36b
    rw [jgI_ok h.1, h7, if_neg (nI_ge (by omega) (by omega)), nI_pred, jcv_ok h.1 a1, jvV_ok, nI_1]
    exact b1
theorem m_removeRule_no (h : ModV σ M buf ks gs fs ss E n T W wr be) {x : Int32} (hx : ¬ inN x ks.length) : mrs σ M (J_X6_removeRule M x σ) 1 0 (fun τ => ModV τ M buf ks gs fs ss E n T W wr be) := by
  refine ⟨inS σ M 0 1, ?_, in_0 σ M 1, h.th 1, ai_0 σ M 1⟩
  have h40 := h.1.2.2.1.2.1
  unfold J_X6_removeRule jj
  dsimp only
  rw [jgI_ok h.1.1.1, h.1.2.2.1.1, jcs_ok ((m_in_N x (by omega)).2 hx), jvI_ok, if_pos rfl, jcv_ok h.1.1.1 (s_M_goesOn h.1.1 1), jvI_ok, if_pos (by decide)]
theorem m_removeRule_ok (h : ModV σ M buf ks gs fs ss E n T W wr be) (C : MCx ks gs fs ss E n T W) {p : Nat} (hp : p < ks.length) (hT : TR n 0 T T' (fun j => clO (del ks p) (del gs p) (del fs p) (del ss p) E (T j)) (fun j => clO ks gs fs ss E (T j))) : mrs σ M (J_X6_removeRule M (nI p) σ) 0 (nI (ks.length - 1)) (fun τ => ModV τ M buf (del ks p) (del gs p) (del fs p) (del ss p) E n T' W wr be) := by
  have h0 := h.th 0
  have h40 := h.1.2.2.1.2.1
  obtain ⟨l1, l2, l3, _⟩ := C.1
  obtain ⟨τ1, a1, a2, a3⟩ := m_keep C.1 C.2.1 C.2.2.1 h0.1
  have V1 := h0.sc a3
  obtain ⟨τ2, b1, b2, b3, b4⟩ := m_rem_L (gs := gs) (fs := fs) (ss := ss) (p := p) h40 (ks.length - (p + 1)) jN (p + 1) τ1 V1.1.1 V1.1.2.2.1.1 (fun i hi => V1.1.2.2.1.row (by omega)) (fun i hi1 hi2 => by omega) (fun i hi1 hi2 => V1.1.2.2.1.row hi2) (Nat.le_refl _) rfl hp (by unfold jN; omega)
  have n7 : ¬ qRr M M 7 := fun z => by unfold qRr at z; omega
  have h7 : inH τ2 M 7 = nI ks.length := by
    rw [b4.i n7]
    exact V1.1.2.2.1.1
  have g14 : ai (qRu M) τ1 (inS τ2 M 7 (nI (ks.length - 1))) := (b4.up qRr_u).tr (ai_in _ _ (Or.inr ⟨rfl, rfl⟩))
  have hlen : (del ks p).length = ks.length - 1 := del_len hp
  have hMR : MR (inS τ2 M 7 (nI (ks.length - 1))) M (del ks p) (del gs p) (del fs p) (del ss p) := by
    refine ⟨by rw [in_inS, if_pos ⟨rfl, rfl⟩, hlen], by omega, fun i hi => ?_⟩
    rw [hlen] at hi
    have hrow : MRow τ2 M i (nI ((del ks p).getD i 0)) ((del gs p).getD i 0) ((del fs p).getD i 0) ((del ss p).getD i 0) := by
      rw [del_getN hp, del_get (by omega), del_get (by omega), del_get (by omega)]
      by_cases c : i < p
      · rw [if_pos c, if_pos c, if_pos c, if_pos c]
        exact b2 i c
      · rw [if_neg c, if_neg c, if_neg c, if_neg c]
        exact b3 i (by omega) (by omega)
    obtain ⟨m1, m2, m3, m4⟩ := hrow
    exact ⟨by rw [in_inS, if_neg (by omega)]; exact m1, by rw [in_inS, if_neg (by omega)]; exact m2, by rw [in_inS, if_neg (by omega)]; exact m3, by rw [in_inS, if_neg (by omega)]; exact m4⟩
  have V4 := V1.ru g14 hMR
  obtain ⟨τ, d1, d2, d3⟩ := m_chg (C.1.tDel hp) (fun s hs => C.2.1 s (del_mem hs)) C.2.2.1 C.old C.2.2.2.1 V4 (a2.ai g14 (fun k z => by unfold qRu at z; omega)) hT
  have hx0 : inH (inS τ2 M 7 (nI (ks.length - 1))) M 0 = 0 := by
    rw [in_inS, if_neg (by omega), b4.i (fun z => by unfold qRr at z; omega), a3.i qS_0]
    exact in_0 σ M 0
  refine ⟨τ, ?_, by rw [d3.i (fun z => by unfold qT qS at z; omega)]; exact hx0, d2, (ai_0 σ M 0).tr ((a3.up qS_A).tr ((g14.up qRu_A).tr (d3.up qT_A)))⟩
  unfold J_X6_removeRule jj
  dsimp only
  rw [jgI_ok h.1.1.1, h.1.2.2.1.1, jcs_ok ((m_in_N (nI p) (by omega)).1 ⟨p, hp, rfl⟩), jvI_ok, if_neg (by decide), jcv_ok h.1.1.1 (s_M_goesOn h.1.1 0), jvI_ok, if_neg (by decide), jcv_ok h0.1.1.1 a1, jvV_ok, nI_1, b1]
  unfold remE
  rw [jgI_ok (V1.1.1.ai b4).1, h7, jpI_ok (V1.1.1.ai b4).1, show nI ks.length - 1 = nI (ks.length - 1) from pk_sub (b := 1) (by omega), jcv_ok (by exact (V1.1.1.ai b4).1) d1, jvI_ok, jgI_ok d2.1.1.1, d2.1.2.2.1.1, hlen]
theorem m_ruleAt_no (h : ModV σ M buf ks gs fs ss E n T W wr be) {x : Int32} (y : Int32) (hx : ¬ inN x ks.length) : mrs σ M (J_X6_ruleAt M x y σ) 1 0 (fun τ => ModV τ M buf ks gs fs ss E n T W wr be) := by
  refine ⟨inS σ M 0 1, ?_, in_0 σ M 1, h.th 1, ai_0 σ M 1⟩
  have h40 := h.1.2.2.1.2.1
  unfold J_X6_ruleAt jj
  dsimp only
  rw [jgI_ok h.1.1.1, h.1.2.2.1.1, jcs_ok ((m_in_N x (by omega)).2 hx), jvI_ok, if_pos rfl, if_pos rfl, jcv_ok h.1.1.1 (s_M_goesOn h.1.1 1), jvI_ok, if_pos (by decide), jrt_c0]
theorem m_ruleAt_2 (h : ModV σ M buf ks gs fs ss E n T W wr be) {p : Nat} (hp : p < ks.length) {w : List Nat} (hw : lts w) (hw4 : w.length ≤ 4) (hk : ks.getD p 0 = k27 w) {y : Int32} (hy : ¬ inN y w.length) : mrs σ M (J_X6_ruleAt M (nI p) y σ) 2 0 (fun τ => ModV τ M buf ks gs fs ss E n T W wr be) := by
  refine ⟨inS σ M 0 2, ?_, in_0 σ M 2, h.th 2, ai_0 σ M 2⟩
  have h40 := h.1.2.2.1.2.1
  unfold J_X6_ruleAt jj
  dsimp only
  rw [jgI_ok h.1.1.1, h.1.2.2.1.1, jcs_ok ((m_in_N (nI p) (by omega)).1 ⟨p, hp, rfl⟩), jvI_ok, if_neg (by decide), jcv_ok h.1.1.1 (s_M_lengthOf h.1.1 h.1.2.2.1 hp hw hw4 hk), jvI_ok, jcs_ok ((m_in_N y (by omega)).2 hy), jvI_ok, if_pos rfl, if_neg (by decide), if_pos rfl, jcv_ok h.1.1.1 (s_M_goesOn h.1.1 2), jvI_ok, if_pos (by decide), jrt_c0]
theorem m_ruleAt_ok (h : ModV σ M buf ks gs fs ss E n T W wr be) {p : Nat} (hp : p < ks.length) {w : List Nat} (hw : lts w) (hw4 : w.length ≤ 4) (hk : ks.getD p 0 = k27 w) {j : Nat} (hj : j < w.length) : mrs σ M (J_X6_ruleAt M (nI p) (nI j) σ) 0 (nI (w.getD j 0 + 96)) (fun τ => ModV τ M buf ks gs fs ss E n T W wr be) := by
  have h0 := h.th 0
  refine ⟨inS σ M 0 0, ?_, in_0 σ M 0, h.th 0, ai_0 σ M 0⟩
  have h40 := h.1.2.2.1.2.1
  have hl := hw.p hj
  have e1 : (97 : Int32) + nI (w.getD j 0) - 1 = nI (w.getD j 0 + 96) := by
    rw [show (97 : Int32) + nI (w.getD j 0) = nI (97 + w.getD j 0) from nI_add 97 _, show nI (97 + w.getD j 0) - 1 = nI (97 + w.getD j 0 - 1) from pk_sub (b := 1) (by omega)]
    congr 1
    omega
  unfold J_X6_ruleAt jj
  dsimp only
  rw [jgI_ok h.1.1.1, h.1.2.2.1.1, jcs_ok ((m_in_N (nI p) (by omega)).1 ⟨p, hp, rfl⟩), jvI_ok, if_neg (by decide), jcv_ok h.1.1.1 (s_M_lengthOf h.1.1 h.1.2.2.1 hp hw hw4 hk), jvI_ok, jcs_ok ((m_in_N (nI j) (by omega)).1 ⟨j, hj, rfl⟩), jvI_ok, if_neg (by decide), if_neg (by decide), if_neg (by decide), jcv_ok h.1.1.1 (s_M_goesOn h.1.1 0), jvI_ok, if_neg (by decide), jcv_ok h0.1.1.1 (s_M_letterOf h0.1.1 h0.1.2.2.1 hp (by omega) hw hk), jvI_ok, e1, jrtS (char_nI (by omega))]
end MODRM
