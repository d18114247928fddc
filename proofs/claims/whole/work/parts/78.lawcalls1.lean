/-! Both sides of each call: what is asked. -/
def tT : Int32 → Prop := fun _ => True
section LAWC1
variable {σ : Hp} {d M o q : Nat}
theorem st_words (hL : Lay d M o q) (h : St d M o q σ) (x : Int32) : Lw tT d M o q σ (J_L_words d x o) (J_X6_words M x) := by
  obtain ⟨buf, ks, gs, fs, ss, E, Em, n, T, W, wr, be, hC, hM, hS1, hS⟩ := h
  have hn := hS1.1.2.2.1
  rcases s_D_words hC hn x with ⟨i, hi, rfl, e⟩ | ⟨hx, e⟩
  · refine go_ok hL hM hS hS1.2.2.2.2 ag.rf hC hS1 trivial ?_ (fun τ1 m => m_words_ok m hi)
    unfold J_L_words
    rw [jcv_ok hC.1.1 e, jvI_ok, jsJ_0 hS.2.1]
  · refine go_t hL hC hM hS hS1 (k := 1) (by decide) ?_ (fun τ1 m => m_words_no m hx)
    unfold J_L_words
    rw [jcv_x hC.1.1 e, if_pos rfl]
theorem st_length (hL : Lay d M o q) (h : St d M o q σ) (x y : Int32) : Lw tT d M o q σ (J_L_length d x y o) (J_X6_length M x y) := by
  obtain ⟨buf, ks, gs, fs, ss, E, Em, n, T, W, wr, be, hC, hM, hS1, hS⟩ := h
  have hn := hS1.1.2.2.1
  rcases s_D_length hC hn x y with ⟨i, j, hi, hj, rfl, rfl, e⟩ | ⟨hx, e⟩
  · rw [clO_perm hS1.2.1] at e
    refine go_ok hL hM hS hS1.2.2.2.2 ag.rf hC hS1 trivial ?_ (fun τ1 m => m_length_ok m hS1.mc hi hj)
    unfold J_L_length
    rw [jcv_ok hC.1.1 e, jvI_ok, jsJ_0 hS.2.1]
  · refine go_t hL hC hM hS hS1 (k := 1) (by decide) ?_ (fun τ1 m => m_length_no m hS1.mc hx)
    unfold J_L_length
    rw [jcv_x hC.1.1 e, if_pos rfl]
theorem st_cellOf (hL : Lay d M o q) (h : St d M o q σ) (x y z : Int32) : Lw tT d M o q σ (J_L_cellOf d x y z o) (J_X6_cellOf M x y z) := by
  obtain ⟨buf, ks, gs, fs, ss, E, Em, n, T, W, wr, be, hC, hM, hS1, hS⟩ := h
  have hn := hS1.1.2.2.1
  rcases s_D_cellOf hC hn x y z with ⟨i, j, hi, hj, rfl, rfl, ⟨k, hk, rfl, e⟩ | ⟨hz, e⟩⟩ | ⟨hx, e⟩
  · rw [clO_perm hS1.2.1] at e hk
    refine go_ok hL hM hS hS1.2.2.2.2 ag.rf hC hS1 trivial ?_ (fun τ1 m => (m_cellOf_ok m hS1.mc hi hj _).1 k hk rfl)
    unfold J_L_cellOf
    rw [jcv_ok hC.1.1 e, jvI_ok, jsJ_0 hS.2.1]
  · rw [clO_perm hS1.2.1] at hz
    refine go_t hL hC hM hS hS1 (k := 2) (by decide) ?_ (fun τ1 m => (m_cellOf_ok m hS1.mc hi hj _).2 hz)
    unfold J_L_cellOf
    rw [jcv_x hC.1.1 e, if_neg (by decide), if_pos rfl]
  · refine go_t hL hC hM hS hS1 (k := 1) (by decide) ?_ (fun τ1 m => m_cellOf_no m hS1.mc z hx)
    unfold J_L_cellOf
    rw [jcv_x hC.1.1 e, if_pos rfl]
theorem st_lines (hL : Lay d M o q) (h : St d M o q σ) (x : Int32) : Lw tT d M o q σ (J_L_lines d x o) (J_X6_lines M x) := by
  obtain ⟨buf, ks, gs, fs, ss, E, Em, n, T, W, wr, be, hC, hM, hS1, hS⟩ := h
  have hn := hS1.1.2.2.1
  rcases s_D_lines hC hn x with ⟨i, hi, rfl, e⟩ | ⟨hx, e⟩
  · rw [clO_perm hS1.2.1] at e
    refine go_ok hL hM hS hS1.2.2.2.2 ag.rf hC hS1 trivial ?_ (fun τ1 m => m_lines_ok m hS1.mc hi)
    unfold J_L_lines
    rw [jcv_ok hC.1.1 e, jvI_ok, jsJ_0 hS.2.1]
  · refine go_t hL hC hM hS hS1 (k := 1) (by decide) ?_ (fun τ1 m => m_lines_no m hx)
    unfold J_L_lines
    rw [jcv_x hC.1.1 e, if_pos rfl]
theorem st_lineAt (hL : Lay d M o q) (h : St d M o q σ) (x y z : Int32) : Lw tT d M o q σ (J_L_lineAt d x y z o) (J_X6_lineAt M x y z) := by
  obtain ⟨buf, ks, gs, fs, ss, E, Em, n, T, W, wr, be, hC, hM, hS1, hS⟩ := h
  have hn := hS1.1.2.2.1
  rcases s_D_lineAt hC hn x y z with ⟨i, hi, rfl, ⟨hy, e⟩ | ⟨j, hj, rfl, ⟨k, hk, rfl, e⟩ | ⟨hz, e⟩⟩⟩ | ⟨hx, e⟩
  · rw [clO_perm hS1.2.1] at hy
    refine go_t hL hC hM hS hS1 (k := 1) (by decide) ?_ (fun τ1 m => (m_lineAt_ok m hS1.mc hi _ _).2.2 hy)
    unfold J_L_lineAt
    rw [jcv_x hC.1.1 e, if_pos rfl]
  · rw [clO_perm hS1.2.1] at hj hk e
    refine go_ok hL hM hS hS1.2.2.2.2 ag.rf hC hS1 trivial ?_ (fun τ1 m => (m_lineAt_ok m hS1.mc hi _ _).1 j k hj hk rfl rfl)
    unfold J_L_lineAt
    rw [jcv_ok hC.1.1 e, jvI_ok, jsJ_0 hS.2.1]
  · rw [clO_perm hS1.2.1] at hj hz
    refine go_t hL hC hM hS hS1 (k := 2) (by decide) ?_ (fun τ1 m => (m_lineAt_ok m hS1.mc hi _ _).2.1 j hj rfl hz)
    unfold J_L_lineAt
    rw [jcv_x hC.1.1 e, if_neg (by decide), if_pos rfl]
  · refine go_t hL hC hM hS hS1 (k := 1) (by decide) ?_ (fun τ1 m => m_lineAt_no m y z hx)
    unfold J_L_lineAt
    rw [jcv_x hC.1.1 e, if_pos rfl]
theorem st_lineOf (hL : Lay d M o q) (h : St d M o q σ) (x y : Int32) : Lw tT d M o q σ (J_L_lineOf d x y o) (J_X6_lineOf M x y) := by
  obtain ⟨buf, ks, gs, fs, ss, E, Em, n, T, W, wr, be, hC, hM, hS1, hS⟩ := h
  have hn := hS1.1.2.2.1
  rcases s_D_lineOf hC hn x y with ⟨i, j, hi, hj, rfl, rfl, e⟩ | ⟨hx, e⟩
  · rw [clO_perm hS1.2.1] at e
    refine go_ok hL hM hS hS1.2.2.2.2 ag.rf hC hS1 trivial ?_ (fun τ1 m => m_lineOf_ok m hS1.mc hi hj)
    unfold J_L_lineOf
    rw [jcv_ok hC.1.1 e, jvI_ok, jsJ_0 hS.2.1]
  · refine go_t hL hC hM hS hS1 (k := 1) (by decide) ?_ (fun τ1 m => m_lineOf_no m hS1.mc hx)
    unfold J_L_lineOf
    rw [jcv_x hC.1.1 e, if_pos rfl]
theorem st_changed (hL : Lay d M o q) (h : St d M o q σ) (x : Int32) : Lw tT d M o q σ (J_L_changed d x o) (J_X6_changed M x) := by
  obtain ⟨buf, ks, gs, fs, ss, E, Em, n, T, W, wr, be, hC, hM, hS1, hS⟩ := h
  have hn := hS1.1.2.2.1
  rcases s_D_changed hC hn x with ⟨i, hi, rfl, e⟩ | ⟨hx, e⟩
  · simp only [clO_perm hS1.2.1] at e
    refine go_ok hL hM hS hS1.2.2.2.2 ag.rf hC hS1 trivial ?_ (fun τ1 m => m_changed_ok m hS1.mc hi)
    unfold J_L_changed
    rw [jcv_ok hC.1.1 e, jvI_ok, jsJ_0 hS.2.1]
  · refine go_t hL hC hM hS hS1 (k := 1) (by decide) ?_ (fun τ1 m => m_changed_no m hx)
    unfold J_L_changed
    rw [jcv_x hC.1.1 e, if_pos rfl]
theorem st_setBearing (hL : Lay d M o q) (h : St d M o q σ) (x : Int32) : Lw tT d M o q σ (J_L_setBearing d x o) (J_X6_setBearing M x) := by
  obtain ⟨buf, ks, gs, fs, ss, E, Em, n, T, W, wr, be, hC, hM, hS1, hS⟩ := h
  rcases s_D_setBearing hC x with ⟨hx, e⟩ | ⟨hx, τ, e, hV, hg⟩
  · refine go_t hL hC hM hS hS1 (k := 1) (by decide) ?_ (fun τ1 m => m_setBearing_no m hx)
    unfold J_L_setBearing
    rw [jcv_x hC.1.1 e, if_pos rfl]
  · refine go_ok hL hM hS hS1.2.2.2.2 hg hV hS1 trivial ?_ (fun τ1 m => m_setBearing_ok m hx)
    unfold J_L_setBearing
    rw [jcv_ok hC.1.1 e, jvI_ok, jsJ_0 (s2_ag hS hg).2.1]
theorem st_replace (hL : Lay d M o q) (h : St d M o q σ) (x : Int32) : Lw tT d M o q σ (J_L_replace d x o) (J_X6_replace M x) := by
  obtain ⟨buf, ks, gs, fs, ss, E, Em, n, T, W, wr, be, hC, hM, hS1, hS⟩ := h
  rcases s_D_replace hC x with ⟨hx, e⟩ | ⟨j, τ, hj, rfl, e, hV, hg⟩
  · refine go_t hL hC hM hS hS1 (k := 1) (by decide) ?_ (fun τ1 m => m_replace_no m hx)
    unfold J_L_replace
    rw [jcv_x hC.1.1 e, if_pos rfl]
  · refine go_ok hL hM hS hS1.2.2.2.2 hg hV ⟨hS1.1, hS1.2.1, hS1.2.2.1, by rw [List.length_set]; exact hS1.2.2.2.1, hS1.2.2.2.2⟩ trivial ?_ (fun τ1 m => m_replace_ok m hS1.2.2.2.1 hj)
    unfold J_L_replace
    rw [jcv_ok hC.1.1 e, jvI_ok, jsJ_0 (s2_ag hS hg).2.1]
theorem st_strikes (hL : Lay d M o q) (h : St d M o q σ) (x : Int32) : Lw tT d M o q σ (J_L_strikes d x o) (J_X6_strikes M x) := by
  obtain ⟨buf, ks, gs, fs, ss, E, Em, n, T, W, wr, be, hC, hM, hS1, hS⟩ := h
  rcases s_D_strikes hC x with ⟨hx, e⟩ | ⟨j, hj, rfl, e⟩
  · refine go_t hL hC hM hS hS1 (k := 1) (by decide) ?_ (fun τ1 m => m_strikes_no m hx)
    unfold J_L_strikes
    rw [jcv_x hC.1.1 e, if_pos rfl]
  · refine go_ok hL hM hS hS1.2.2.2.2 ag.rf hC hS1 trivial ?_ (fun τ1 m => m_strikes_ok m hj)
    unfold J_L_strikes
    rw [jcv_ok hC.1.1 e, jvI_ok, jsJ_0 hS.2.1]
theorem st_markOf (hL : Lay d M o q) (h : St d M o q σ) (r x y : Int32) : Lw tT d M o q σ (J_L_markOf d r x y o) (J_X6_markOf M r x y) := by
  obtain ⟨buf, ks, gs, fs, ss, E, Em, n, T, W, wr, be, hC, hM, hS1, hS⟩ := h
  rcases s_D_markOf hC hS1.1 r x y with ⟨e', i, j, he, hi, hj, rfl, rfl, rfl, hm, e⟩ | ⟨hx, e⟩
  · refine go_ok hL hM hS hS1.2.2.2.2 ag.rf hC hS1 trivial ?_ (fun τ1 m => m_markOf_ok m hS1.mc he hi hj hm)
    unfold J_L_markOf
    rw [jcv_ok hC.1.1 e, jvI_ok, jsJ_0 hS.2.1]
  · refine go_t hL hC hM hS hS1 (k := 1) (by decide) ?_ (fun τ1 m => m_markOf_no m hS1.mc hx)
    unfold J_L_markOf
    rw [jcv_x hC.1.1 e, if_pos rfl]
theorem st_setWidth (hL : Lay d M o q) (h : St d M o q σ) (x : Int32) : Lw tT d M o q σ (J_L_setWidth d x o) (J_X6_setWidth M x) := by
  obtain ⟨buf, ks, gs, fs, ss, E, Em, n, T, W, wr, be, hC, hM, hS1, hS⟩ := h
  rcases s_D_setWidth hC hS1.1 x with ⟨hx, e⟩ | ⟨hx, W', τ, hW1, hW2, rfl, e, hV, hI', hg⟩
  · refine go_t hL hC hM hS hS1 (k := 1) (by decide) ?_ (fun τ1 m => m_setWidth_no m hx)
    unfold J_L_setWidth
    rw [jcv_x hC.1.1 e, if_pos rfl]
  · refine go_ok hL hM hS hS1.2.2.2.2 hg hV ⟨hI', hS1.2⟩ trivial ?_ (fun τ1 m => m_setWidth_ok m hx)
    unfold J_L_setWidth
    rw [jcv_ok hC.1.1 e, jvI_ok, jsJ_0 (s2_ag hS hg).2.1]
theorem st_type (hL : Lay d M o q) (h : St d M o q σ) (v : Int32) : Lw tT d M o q σ (J_L_type d v o) (J_X6_type M v) := by
  obtain ⟨buf, ks, gs, fs, ss, E, Em, n, T, W, wr, be, hC, hM, hS1, hS⟩ := h
  rcases s_D_type hC hS1.1 v with ⟨hx, e⟩ | ⟨hx, hb, e⟩ | ⟨hx, hb, c, τ, hc, rfl, e, hV, hI', hg⟩
  · refine go_t hL hC hM hS hS1 (k := 1) (by decide) ?_ (fun τ1 m => m_type_no m hx)
    unfold J_L_type
    rw [jcv_x hC.1.1 e, if_pos rfl]
  · refine go_t hL hC hM hS hS1 (k := 2) (by decide) ?_ (fun τ1 m => m_type_full m hx hb)
    unfold J_L_type
    rw [jcv_x hC.1.1 e, if_neg (by decide), if_pos rfl]
  · refine go_ok hL hM hS hS1.2.2.2.2 (hg.up clP_b) hV ⟨hI', hS1.2⟩ trivial ?_ (fun τ1 m => m_type_ok m hc hx hb)
    unfold J_L_type
    rw [jcv_ok hC.1.1 e, jvI_ok, jsJ_0 (s2_ag hS hg).2.1]
theorem st_ruleAt (hL : Lay d M o q) (h : St d M o q σ) (x y : Int32) : Lw tT d M o q σ (J_L_ruleAt d x y o) (J_X6_ruleAt M x y) := by
  obtain ⟨buf, ks, gs, fs, ss, E, Em, n, T, W, wr, be, hC, hM, hS1, hS⟩ := h
  rcases s_D_ruleAt hC hS1.1 x y with ⟨hx, e⟩ | ⟨p, w, hp, rfl, hw, hw1, hw4, hk, ⟨hy, e⟩ | ⟨j, hj, rfl, e⟩⟩
  · refine go_t hL hC hM hS hS1 (k := 1) (by decide) ?_ (fun τ1 m => m_ruleAt_no m y hx)
    unfold J_L_ruleAt
    rw [jcv_x hC.1.1 e, if_pos rfl]
  · refine go_t hL hC hM hS hS1 (k := 2) (by decide) ?_ (fun τ1 m => m_ruleAt_2 m hp hw hw4 hk hy)
    unfold J_L_ruleAt
    rw [jcv_x hC.1.1 e, if_neg (by decide), if_pos rfl]
  · refine go_ok hL hM hS hS1.2.2.2.2 ag.rf hC hS1 trivial ?_ (fun τ1 m => m_ruleAt_ok m hp hw hw4 hk hj)
    unfold J_L_ruleAt
    rw [jcv_ok hC.1.1 e, jvI_ok, jsJ_0 hS.2.1]
end LAWC1
