/-! Both sides of each call: what changes rules, texts, embossings, marks. -/
def tB : Int32 → Prop := fun b => b = 0 ∨ b = 1
section LAWC2
variable {σ : Hp} {d M o q : Nat}
theorem TR.far {n : Nat} {T T' : Nat → Tx} {new old : Nat → List (List Int32)} {q : Nat} (h : TR n 0 T T' new old) (h1 : ∀ i, i < n → q < tA (T i)) : ∀ i, i < n → q < tA (T' i) := fun i hi => by
  rw [(h i hi).1]
  exact h1 i hi
theorem st_addRule (hL : Lay d M o q) (h : St d M o q σ) (g x y : Int32) : Lw tT d M o q σ (J_L_addRule d g x y o) (J_X6_addRule M g x y) := by
  obtain ⟨buf, ks, gs, fs, ss, E, Em, n, T, W, wr, be, hC, hM, hS1, hS⟩ := h
  have hb := hS1.1.1
  rcases s_D_addRule hC hS1.1 g x y with ⟨hx, e⟩ | ⟨hf, hr, hl, e⟩ | ⟨hf, hr, hl, hk, e⟩ | ⟨hf, hr, hl, hk, p, τ, T', hp, h1, h2, e, hV, hI', hT, hg⟩
  · refine go_t hL hC hM hS hS1 (k := 1) (by decide) ?_ (fun τ1 m => m_addRule_bad m hb hx)
    unfold J_L_addRule
    rw [jcv_x hC.1.1 e, if_pos rfl]
  · refine go_t hL hC hM hS hS1 (k := 2) (by decide) ?_ (fun τ1 m => m_addRule_full m hb hf hr hl)
    unfold J_L_addRule
    rw [jcv_x hC.1.1 e, if_neg (by decide), if_pos rfl]
  · refine go_t hL hC hM hS hS1 (k := 3) (by decide) ?_ (fun τ1 m => m_addRule_dup m hS1.mc.1 hb hf hr hl hk)
    unfold J_L_addRule
    rw [jcv_x hC.1.1 e, if_neg (by decide), if_neg (by decide), if_pos rfl]
  · have hT2 := hT
    simp only [clO_perm hS1.2.1] at hT2
    refine go_ok hL hM hS hS1.2.2.2.2 hg hV ⟨hI', hS1.2.1, fun s hs => ?_, hS1.2.2.2.1, hT.far hS1.2.2.2.2⟩ trivial ?_ (fun τ1 m => m_addRule_ok m hS1.mc hb hf hr hl hk hp h1 h2 hT2)
    · rcases ins_mem hs with z | z
      · rw [z]; exact fine_s hf
      · exact hS1.2.2.1 s z
    · unfold J_L_addRule
      rw [jcv_ok hC.1.1 e, jvI_ok, jsJ_0 (s2_ag hS hg).2.1]
theorem st_mend (hL : Lay d M o q) (h : St d M o q σ) (g x y : Int32) : Lw tT d M o q σ (J_L_mend d g x y o) (J_X6_mend M g x y) := by
  obtain ⟨buf, ks, gs, fs, ss, E, Em, n, T, W, wr, be, hC, hM, hS1, hS⟩ := h
  have hb := hS1.1.1
  rcases s_D_mend hC hS1.1 g x y with ⟨hx, e⟩ | ⟨hf, hk, e⟩ | ⟨hf, hr, hk, τ, T', e, hV, hI', hT, hg⟩
  · refine go_t hL hC hM hS hS1 (k := 1) (by decide) ?_ (fun τ1 m => m_mend_1 m hS1.mc.1 hb hx)
    unfold J_L_mend
    rw [jcv_x hC.1.1 e, if_pos rfl]
  · refine go_t hL hC hM hS hS1 (k := 2) (by decide) ?_ (fun τ1 m => m_mend_2 m hS1.mc.1 hb hf hk)
    unfold J_L_mend
    rw [jcv_x hC.1.1 e, if_neg (by decide), if_pos rfl]
  · have hT2 := hT
    simp only [clO_perm hS1.2.1] at hT2 e
    refine go_ok hL hM hS hS1.2.2.2.2 hg hV ⟨hI', hS1.2.1, fun s hs => ?_, hS1.2.2.2.1, hT.far hS1.2.2.2.2⟩ trivial ?_ (fun τ1 m => m_mend_ok m hS1.mc hb hf hr hk hT2)
    · rcases set_memx hs with z | z
      · rw [z]; exact fine_s hf
      · exact hS1.2.2.1 s z
    · unfold J_L_mend
      rw [jcv_ok hC.1.1 e, jvI_ok, jsJ_0 (s2_ag hS hg).2.1]
theorem st_removeRule (hL : Lay d M o q) (h : St d M o q σ) (x : Int32) : Lw tT d M o q σ (J_L_removeRule d x o) (J_X6_removeRule M x) := by
  obtain ⟨buf, ks, gs, fs, ss, E, Em, n, T, W, wr, be, hC, hM, hS1, hS⟩ := h
  rcases s_D_removeRule hC hS1.1 x with ⟨hx, e⟩ | ⟨p, τ, T', hp, rfl, e, hV, hI', hT, hg⟩
  · refine go_t hL hC hM hS hS1 (k := 1) (by decide) ?_ (fun τ1 m => m_removeRule_no m hx)
    unfold J_L_removeRule
    rw [jcv_x hC.1.1 e, if_pos rfl]
  · have hT2 := hT
    simp only [clO_perm hS1.2.1] at hT2
    refine go_ok hL hM hS hS1.2.2.2.2 hg hV ⟨hI', hS1.2.1, fun s hs => hS1.2.2.1 s (del_mem hs), hS1.2.2.2.1, hT.far hS1.2.2.2.2⟩ trivial ?_ (fun τ1 m => m_removeRule_ok m hS1.mc hp hT2)
    unfold J_L_removeRule
    rw [jcv_ok hC.1.1 e, jvI_ok, jsJ_0 (s2_ag hS hg).2.1]
theorem st_turnException (hL : Lay d M o q) (h : St d M o q σ) : Lw tB d M o q σ (J_L_turnException d o) (J_X6_turnException M) := by
  obtain ⟨buf, ks, gs, fs, ss, E, Em, n, T, W, wr, be, hC, hM, hS1, hS⟩ := h
  have hb := hS1.1.1
  have hp := hS1.2.1
  rcases s_D_turnException hC hS1.1 with ⟨hx, e⟩ | ⟨hw, hn, h20, e⟩ | ⟨hw, E', τ, T', ⟨hn, h20, rfl, e⟩ | ⟨hn, rfl, e⟩, hV, hI', hT, hg⟩
  · refine go_t hL hC hM hS hS1 (k := 1) (by decide) ?_ (fun τ1 m => m_te_bad m hb hx)
    unfold J_L_turnException
    rw [jcv_x hC.1.1 e, if_pos rfl]
  · refine go_t hL hC hM hS hS1 (k := 2) (by decide) ?_ (fun τ1 m => m_te_full m hS1.mc.1 hb hw (fun z => hn (hp.mem_iff.mpr z)) (by rw [← hp.length_eq]; exact h20))
    unfold J_L_turnException
    rw [jcv_x hC.1.1 e, if_neg (by decide), if_pos rfl]
  · have hp' : (E ++ [buf]).Perm (Em ++ [buf]) := hp.append_right _
    have hT2 := hT
    simp only [clO_perm hp', clO_perm hp] at hT2
    refine go_ok (v := 1) hL hM hS hS1.2.2.2.2 hg hV ⟨hI', hp', hS1.2.2.1, hS1.2.2.2.1, hT.far hS1.2.2.2.2⟩ (Or.inr rfl) ?_ (fun τ1 m => m_te_add_ok m hS1.mc hb hw (fun z => hn (hp.mem_iff.mpr z)) (by rw [← hp.length_eq]; exact h20) hT2)
    unfold J_L_turnException
    rw [jcv_ok hC.1.1 e, jvI_ok, if_neg (by decide), jsJ_0 (s2_ag hS hg).2.1]
    rfl
  · have hn' := hp.mem_iff.mp hn
    have hi1 := List.idxOf_lt_length_of_mem hn
    have hi2 := List.idxOf_lt_length_of_mem hn'
    have hp' : (del E (E.idxOf buf)).Perm (swp Em (Em.idxOf buf)) := by
      have q1 := del_perm hi1
      have q2 := swp_perm hi2
      rw [idxl_get hn] at q1
      rw [idxl_get hn'] at q2
      exact (q1.symm.trans (hp.trans q2)).cons_inv
    have hT2 := hT
    simp only [clO_perm hp', clO_perm hp] at hT2
    refine go_ok (v := 0) hL hM hS hS1.2.2.2.2 hg hV ⟨hI', hp', hS1.2.2.1, hS1.2.2.2.1, hT.far hS1.2.2.2.2⟩ (Or.inl rfl) ?_ (fun τ1 m => m_te_drop_ok m hS1.mc hb hw hn' (hI'.2.1.perm hp') hT2)
    unfold J_L_turnException
    rw [jcv_ok hC.1.1 e, jvI_ok, if_pos rfl, jsJ_0 (s2_ag hS hg).2.1]
    rfl
theorem st_setText (hL : Lay d M o q) (h : St d M o q σ) (x g : Int32) : Lw tT d M o q σ (J_L_setText d x g o) (J_X6_setText M x g) := by
  obtain ⟨buf, ks, gs, fs, ss, E, Em, n, T, W, wr, be, hC, hM, hS1, hS⟩ := h
  have hb := hS1.1.1
  have hq := hS.2.2.2
  have hd : d + 28 ≤ tpH σ := by unfold Lay at hL; omega
  rcases s_D_setText hC hS1.1 hS.1 hd x g with ⟨hx, e⟩ | ⟨h1, h2, hg, e⟩ | ⟨hg, i, n', U, τ, hi, hin, rfl, hU, e, hV, hI', hgw, hz⟩
  · refine go_t hL hC hM hS hS1 (k := 1) (by decide) ?_ (fun τ1 m => m_set_no m g hx)
    unfold J_L_setText
    rw [jcv_x hC.1.1 e, if_pos rfl]
  · refine go_t hL hC hM hS hS1 (k := 2) (by decide) ?_ (fun τ1 m => m_set_2 m h1 h2 hg)
    unfold J_L_setText
    rw [jcv_x hC.1.1 e, if_neg (by decide), if_pos rfl]
  · have hfar : ∀ k, k < n' → q < tA ((fun k => if k = i then sTx U buf g else T k) k) := fun k hk => by
      dsimp only
      by_cases c : k = i
      · rw [if_pos c]
        rcases hU with ⟨u1, u2, u3⟩ | ⟨u1, u2, u3⟩
        · rw [u3]
          exact hS1.2.2.2.2 i u1
        · rw [u3]
          exact hq
      · rw [if_neg c]
        refine hS1.2.2.2.2 k ?_
        rcases hU with ⟨u1, u2, u3⟩ | ⟨u1, u2, u3⟩ <;> omega
    have ho : kdH τ o = (3, 1) := by
      unfold Lay at hL
      rw [(hgw.2 o (by omega)).1]
      exact hS.2.1
    refine go_s hL hM hS hS1.2.2.2.2 hgw hz hV ⟨hI', hS1.2.1, hS1.2.2.1, hS1.2.2.2.1, hfar⟩ trivial ?_ (fun τ1 m => m_set_ok m hb (fun k hk => (hS1.mc.2.2.1 k hk).2.2.1) hi hg ?_)
    · unfold J_L_setText
      rw [jcv_ok hC.1.1 e, jvI_ok, jsJ_0 ho]
    · rcases hU with ⟨u1, u2, u3⟩ | ⟨u1, u2, u3⟩
      · exact Or.inl ⟨u1, u2, u3⟩
      · exact Or.inr ⟨u1, u2, by rw [u3]; rfl⟩
theorem st_emboss (hL : Lay d M o q) (h : St d M o q σ) (x : Int32) : Lw tT d M o q σ (J_L_emboss d x o) (J_X6_emboss M x) := by
  obtain ⟨buf, ks, gs, fs, ss, E, Em, n, T, W, wr, be, hC, hM, hS1, hS⟩ := h
  rcases s_D_emboss hC hS1.1 hS.1 x with ⟨hx, e⟩ | ⟨i, hi, rfl, ⟨hw, τ, e, hV, hg⟩ | ⟨hw, τ, wr', e, hwr, hwl, hV, hI', hg⟩⟩
  · refine go_t hL hC hM hS hS1 (k := 1) (by decide) ?_ (fun τ1 m => m_emboss_no m hx)
    unfold J_L_emboss
    rw [jcv_x hC.1.1 e, if_pos rfl]
  · simp only [clO_perm hS1.2.1] at hw
    refine go_x hL hM hS hg hV hS1 (k := 2) (by decide) ?_ (fun τ1 m => m_emboss_worn m hS1.mc hi hw)
    unfold J_L_emboss
    rw [jcv_x hC.1.1 e, if_neg (by decide), if_pos rfl]
  · have hfar : ∀ k, k < n → q < tA ((fun k => if k = i then ((tA (T i), tX (T i), tG (T i), tM (T i), lay W (clO ks gs fs ss E (T i))) : Tx) else T k) k) := fun k hk => by
      dsimp only
      by_cases c : k = i
      · rw [if_pos c]
        exact hS1.2.2.2.2 i hi
      · rw [if_neg c]
        exact hS1.2.2.2.2 k hk
    have hS1' : S1 buf ks gs fs ss E Em n (fun k => if k = i then ((tA (T i), tX (T i), tG (T i), tM (T i), lay W (clO ks gs fs ss E (T i))) : Tx) else T k) W wr' q := ⟨hI', hS1.2.1, hS1.2.2.1, hwl, hfar⟩
    have hcl := clO_perm (ks := ks) (gs := gs) (fs := fs) (ss := ss) hS1.2.1 (T i)
    rw [hcl] at hw e hwr hV hS1'
    refine go_ok hL hM hS hS1.2.2.2.2 hg hV hS1' trivial ?_ (fun τ1 m => m_emboss_ok m hS1.mc hS1.2.2.2.1 hi hw hwr)
    unfold J_L_emboss
    rw [jcv_ok hC.1.1 e, jvI_ok, jsJ_0 (s2_ag hS hg).2.1]
theorem st_mark (hL : Lay d M o q) (h : St d M o q σ) (r x y v : Int32) : Lw tB d M o q σ (J_L_mark d r x y v o) (J_X6_mark M r x y v) := by
  obtain ⟨buf, ks, gs, fs, ss, E, Em, n, T, W, wr, be, hC, hM, hS1, hS⟩ := h
  rcases s_D_mark hC hS1.1 r x y v with ⟨e', i, j, τ, he, hi, hj, rfl, rfl, rfl, e, hV, hI', hg⟩ | ⟨hx, e⟩
  · have hfar : ∀ k, k < n → q < tA ((fun k => if k = i then ((tA (T i), tX (T i), tG (T i), (tM (T i)).set (2 * j + e') (sgn v), tE (T i)) : Tx) else T k) k) := fun k hk => by
      dsimp only
      by_cases c : k = i
      · rw [if_pos c]
        exact hS1.2.2.2.2 i hi
      · rw [if_neg c]
        exact hS1.2.2.2.2 k hk
    refine go_ok hL hM hS hS1.2.2.2.2 hg hV ⟨hI', hS1.2.1, hS1.2.2.1, hS1.2.2.2.1, hfar⟩ ?_ ?_ (fun τ1 m => m_mark_ok m hS1.mc he hi hj v)
    · cases decide ((tM (T i)).getD (2 * j + (1 - e')) 0 = sgn v)
      · exact Or.inl rfl
      · exact Or.inr rfl
    · unfold J_L_mark
      rw [jcv_ok hC.1.1 e, jvI_ok]
      cases decide ((tM (T i)).getD (2 * j + (1 - e')) 0 = sgn v)
      · rw [if_pos (show bI false = 0 by decide), jsJ_0 (s2_ag hS hg).2.1]
        rfl
      · rw [if_neg (show ¬ bI true = 0 by decide), jsJ_0 (s2_ag hS hg).2.1]
        rfl
  · refine go_t hL hC hM hS hS1 (k := 1) (by decide) ?_ (fun τ1 m => m_mark_no m hS1.mc v hx)
    unfold J_L_mark
    rw [jcv_x hC.1.1 e, if_pos rfl]
end LAWC2
