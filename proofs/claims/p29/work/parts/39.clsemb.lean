/-! The class embosses a text. -/
/-- how often a dot is struck in some cells, onto a number -/
def dot (j : Nat) (a : Int32) (c : Int32) : Int32 := a + bt c j
/-- the same, in lines that have it -/
def duD (L : List (List Int32)) (O : Nat → Bool) (j : Nat) : Nat → Nat → Int32 → Int32
  | 0, _, a => a
  | d + 1, i, a => duD L O j d (i + 1) (if O i = true then (L.getD i []).foldl (dot j) a else a)
/-- how many pages, behind a last one -/
def pgD (O : Nat → Bool) : Nat → Nat → Int32 → Nat
  | 0, _, _ => 0
  | d + 1, i, l => if O i = true then (if nI (i / 4) = l then 0 else 1) + pgD O d (i + 1) (nI (i / 4)) else pgD O d (i + 1) l
theorem pgD_le (O : Nat → Bool) : ∀ d i l, pgD O d i l ≤ d
  | 0, _, _ => Nat.le_refl _
  | d + 1, i, l => by
    unfold pgD
    split
    · have := pgD_le O d (i + 1) (nI (i / 4))
      split <;> omega
    · have := pgD_le O d (i + 1) l
      omega
theorem anyD_congr {f g : Nat → Bool} : ∀ {d i : Nat}, (∀ j, i ≤ j → j < i + d → f j = g j) → anyD f d i = anyD g d i
  | 0, _, _ => rfl
  | d + 1, i, h => by
    unfold anyD
    rw [h i (Nat.le_refl _) (by omega), anyD_congr (fun j h1 h2 => h j (by omega) (by omega))]
/-- a pin would be struck beyond its bearing -/
def ovF (wr : List Int32) (du : Nat → Int32) (be : Int32) (j : Nat) : Bool := decide (¬ du j ≤ 0 ∧ ¬ wr.getD j 0 + du j ≤ be)
/-- the class's head and embosser, and a text: what embossing needs -/
def EmbC (σ : Hp) (d t : Nat) (g : Int32) (ws : List (List Nat)) (cs : List (List Int32)) (mk : List Int32) (ls : List (List Int32)) (fl : List Int32) (em : List (List Int32)) (wr pl : List Int32) (be : Int32) : Prop := kdH σ d = (1, 5) ∧ rfH σ d 2 = some (d + 17) ∧ EmbV σ (d + 17) wr pl be ∧ TxtV σ t g ws cs mk ls fl em ∧ d + 28 ≤ t
theorem EmbC.pl {σ τ : Hp} {d t : Nat} {g : Int32} {ws : List (List Nat)} {cs : List (List Int32)} {mk : List Int32} {ls : List (List Int32)} {fl : List Int32} {em : List (List Int32)} {wr pl wr' pl' : List Int32} {be : Int32} (h : EmbC σ d t g ws cs mk ls fl em wr pl be) (hg : ag (rg (d + 17) 5) σ τ) (he : EmbV τ (d + 17) wr' pl' be) : EmbC τ d t g ws cs mk ls fl em wr' pl' be := by
  obtain ⟨k0, k1, k2, k3, k4⟩ := h
  have nd : ¬ rg (d + 17) 5 d := fun y => by unfold rg at y; omega
  exact ⟨by rw [hg.2.1]; exact k0, by rw [(hg.2.2.1 d nd).2]; exact k1, he, k3.keep hg (fun q y z => by unfold rg at y z; omega), k4⟩
theorem s_D_planLine {d t : Nat} {g : Int32} {ws : List (List Nat)} {cs : List (List Int32)} {mk : List Int32} {ls : List (List Int32)} {fl : List Int32} {em : List (List Int32)} {wr : List Int32} {be : Int32} {i : Nat} (hi : i < ls.length) : ∀ (k m c : Nat) (σ : Hp) (pl : List Int32), EmbC σ d t g ws cs mk ls fl em wr pl be → (ls.getD i []).length - c = k → c ≤ (ls.getD i []).length → k < m → ∃ τ pl', J_X5_planLine_L2 m d t (nI i) (nI c) σ = some (.inl none, τ) ∧ EmbC τ d t g ws cs mk ls fl em wr pl' be ∧ (∀ j, j < 6 → pl'.getD j 0 = ((ls.getD i []).drop c).foldl (dot j) (pl.getD j 0)) ∧ ag (rg (d + 17) 5) σ τ := by
  intro k
  induction k with
  | zero =>
    intro m c σ pl h hk hc hm
    obtain ⟨m, rfl⟩ : ∃ z, m = z + 1 := ⟨m - 1, by omega⟩
    have hb := h.2.2.2.1.2.2.2.2.1.b
    have h1 := sz_succ ls i
    have h2 := sz_le ls (i + 1)
    refine ⟨σ, pl, ?_, h, fun j hj => by rw [List.drop_of_length_le (by omega)]; rfl, ag.rf⟩
    show J_X5_planLine_L2b (J_X5_planLine_L2 m) d t (nI i) (nI c) σ = _
    unfold J_X5_planLine_L2b
    rw [jcv_ok h.2.2.2.1.1.1 (s_T_lineSize h.2.2.2.1 hi), jvI_ok, if_pos (nI_le (by omega) (by omega))]
  | succ k ih =>
    intro m c σ pl h hk hc hm
    obtain ⟨m, rfl⟩ : ∃ z, m = z + 1 := ⟨m - 1, by omega⟩
    have hb := h.2.2.2.1.2.2.2.2.1.b
    have h1 := sz_succ ls i
    have h2 := sz_le ls (i + 1)
    obtain ⟨τ, pl1, a1, a2, a3, a4⟩ := s_E_planCell h.2.2.1 ((ls.getD i []).getD c 0)
    obtain ⟨υ, pl2, b1, b2, b3, b4⟩ := ih m (c + 1) τ pl1 (h.pl a4 a2) (by omega) (by omega) (by omega)
    refine ⟨υ, pl2, ?_, b2, fun j hj => ?_, a4.tr b4⟩
    · show J_X5_planLine_L2b (J_X5_planLine_L2 m) d t (nI i) (nI c) σ = _
      unfold J_X5_planLine_L2b
      rw [jcv_ok h.2.2.2.1.1.1 (s_T_lineSize h.2.2.2.1 hi), jvI_ok, if_neg (nI_ge (by omega) (by omega)), jgR_ok h.1, h.2.1, jdr_ok, jcv_ok h.2.2.2.1.1.1 (s_T_laidCellAt h.2.2.2.1 hi (by omega)), jvI_ok, jcv_ok h.2.2.1.1 a1, jvV_ok, nI_1]
      exact b1
    · rw [b3 j hj, a3 j hj, drop_cons (l := ls.getD i []) (k := c) (by omega), List.foldl_cons]
      rfl
theorem s_D_emboss_L {d t : Nat} {g : Int32} {ws : List (List Nat)} {cs : List (List Int32)} {mk : List Int32} {ls : List (List Int32)} {fl : List Int32} {em : List (List Int32)} {wr : List Int32} {be : Int32} (F : Hp → Nat → Nat → jR) (hF : ∀ (m p c : Nat) (l : Int32) (σ : Hp) (pl : List Int32), EmbC σ d t g ws cs mk ls fl em wr pl be → J_X5_emboss_L24 (m + 1) d t (nI p) (nI c) l (nI ls.length) σ = F σ p c) : ∀ (k m i p c : Nat) (l : Int32) (σ : Hp) (pl : List Int32), EmbC σ d t g ws cs mk ls fl em wr pl be → ls.length - i = k → i ≤ ls.length → k < m → ∃ τ pl', J_X5_emboss_L24 m d t (nI p) (nI c) l (nI i) σ = F τ (p + pgD (fun j => !shr ls em j) k i l) (c + cntD (fun j => !shr ls em j) k i) ∧ EmbC τ d t g ws cs mk ls fl em wr pl' be ∧ (∀ j, j < 6 → pl'.getD j 0 = duD ls (fun j => !shr ls em j) j k i (pl.getD j 0)) ∧ ag (rg (d + 17) 5) σ τ := by
  intro k
  induction k with
  | zero =>
    intro m i p c l σ pl h hk hi hm
    obtain ⟨m, rfl⟩ : ∃ z, m = z + 1 := ⟨m - 1, by omega⟩
    obtain rfl : i = ls.length := by omega
    exact ⟨σ, pl, hF m p c l σ pl h, h, fun j hj => rfl, ag.rf⟩
  | succ k ih =>
    intro m i p c l σ pl h hk hi hm
    obtain ⟨m, rfl⟩ : ∃ z, m = z + 1 := ⟨m - 1, by omega⟩
    have hil : i < ls.length := by omega
    have hV := h.2.2.2.1
    have hb := hV.2.2.2.2.1.b
    have h1 := sz_succ ls i
    have h2 := sz_le ls (i + 1)
    have ed : nI i / 4 = nI (i / 4) := pk_div (d := 4) (by omega) (by omega) (by omega)
    cases hs : shr ls em i
    · obtain ⟨τ, pl1, a1, a2, a3, a4⟩ := s_D_planLine hil (ls.getD i []).length jN 0 σ pl h rfl (Nat.zero_le _) (by unfold jN; omega)
      rw [List.drop_zero] at a3
      obtain ⟨υ, pl2, b1, b2, b3, b4⟩ := ih m (i + 1) (p + if nI (i / 4) = l then 0 else 1) (c + 1) (nI (i / 4)) τ pl1 a2 (by omega) (by omega) (by omega)
      refine ⟨υ, pl2, ?_, b2, fun j hj => ?_, a4.tr b4⟩
      · have e0 : J_X5_emboss_L24 (m + 1) d t (nI p) (nI c) l (nI i) σ = J_X5_emboss_L24 m d t (nI (p + if nI (i / 4) = l then 0 else 1)) (nI (c + 1)) (nI (i / 4)) (nI (i + 1)) τ := by
          show J_X5_emboss_L24b (J_X5_emboss_L24 m) d t (nI p) (nI c) l (nI i) σ = _
          unfold J_X5_emboss_L24b jj
          dsimp only
          rw [jcv_ok hV.1.1 (s_T_lineCount hV), jvI_ok, if_neg (nI_ge (by omega) (by omega)), jcv_ok hV.1.1 (s_T_isOther hV (by omega)), jvI_ok, hs, if_neg (show ¬ bI (!false) = 0 by decide), jcv_ok h.1 (J := J_X5_planLine d t (nI i) σ) a1, jvV_ok, ed, nI_1, nI_1]
          by_cases q : nI (i / 4) = l
          · rw [if_pos q, if_pos q, show nI p + 0 = nI p from nI_add p 0]
            rfl
          · rw [if_neg q, if_neg q, nI_1]
        rw [e0, b1, pgD, cntD, hs]
        simp only [Bool.not_false, if_true, Nat.add_assoc]
      · rw [b3 j hj, a3 j hj, duD, hs]
        simp only [Bool.not_false, if_true]
    · obtain ⟨υ, pl2, b1, b2, b3, b4⟩ := ih m (i + 1) p c l σ pl h (by omega) (by omega) (by omega)
      refine ⟨υ, pl2, ?_, b2, fun j hj => ?_, b4⟩
      · have e0 : J_X5_emboss_L24 (m + 1) d t (nI p) (nI c) l (nI i) σ = J_X5_emboss_L24 m d t (nI p) (nI c) l (nI (i + 1)) σ := by
          show J_X5_emboss_L24b (J_X5_emboss_L24 m) d t (nI p) (nI c) l (nI i) σ = _
          unfold J_X5_emboss_L24b jj
          dsimp only
          rw [jcv_ok hV.1.1 (s_T_lineCount hV), jvI_ok, if_neg (nI_ge (by omega) (by omega)), jcv_ok hV.1.1 (s_T_isOther hV (by omega)), jvI_ok, hs, if_pos (show bI (!true) = 0 by decide), nI_1]
        rw [e0, b1, pgD, cntD, hs]
        simp
      · rw [b3 j hj, duD, hs]
        simp
theorem s_D_emboss {σ : Hp} {d : Nat} {buf ks : List Nat} {gs fs ss : List Int32} {E : List (List Nat)} {n : Nat} {T : Nat → Tx} {W : Nat} {wr : List Int32} {be : Int32} (h : ClsV σ d buf ks gs fs ss E n T W wr be) (hI : ClsI buf ks gs fs ss E n T W) (hz : kz σ) (x : Int32) : (¬ inN x n ∧ J_X5_emboss d x σ = some (.inr "java/lang/IndexOutOfBoundsException", thS σ)) ∨ ∃ i, i < n ∧ x = nI i ∧ ((anyD (ovF wr (fun j => duD (lay W (clO ks gs fs ss E (T i))) (fun j => !shr (lay W (clO ks gs fs ss E (T i))) (tE (T i)) j) j (lay W (clO ks gs fs ss E (T i))).length 0 0) be) 6 0 = true ∧ ∃ τ, J_X5_emboss d x σ = some (.inr "java/lang/IllegalStateException", τ) ∧ ClsV τ d buf ks gs fs ss E n T W wr be ∧ ag (clP d n T) σ τ) ∨ (anyD (ovF wr (fun j => duD (lay W (clO ks gs fs ss E (T i))) (fun j => !shr (lay W (clO ks gs fs ss E (T i))) (tE (T i)) j) j (lay W (clO ks gs fs ss E (T i))).length 0 0) be) 6 0 = false ∧ ∃ τ wr', J_X5_emboss d x σ = some (.inl (some (.int (nI (100 * pgD (fun j => !shr (lay W (clO ks gs fs ss E (T i))) (tE (T i)) j) (lay W (clO ks gs fs ss E (T i))).length 0 (-1) + cntD (fun j => !shr (lay W (clO ks gs fs ss E (T i))) (tE (T i)) j) (lay W (clO ks gs fs ss E (T i))).length 0)))), τ) ∧ (∀ j, j < 6 → wr'.getD j 0 = wr.getD j 0 + duD (lay W (clO ks gs fs ss E (T i))) (fun j => !shr (lay W (clO ks gs fs ss E (T i))) (tE (T i)) j) j (lay W (clO ks gs fs ss E (T i))).length 0 0) ∧ wr'.length = 6 ∧ ClsV τ d buf ks gs fs ss E n (fun k => if k = i then (tA (T i), tX (T i), tG (T i), tM (T i), lay W (clO ks gs fs ss E (T i))) else T k) W wr' be ∧ ClsI buf ks gs fs ss E n (fun k => if k = i then (tA (T i), tX (T i), tG (T i), tM (T i), lay W (clO ks gs fs ss E (T i))) else T k) W ∧ ag (clP d n T) σ τ)) := by
  have hh := h
  rcases s_D_textNumbered h hI.2.2.1 x with ⟨i, hi, hx, e⟩ | ⟨hx, e⟩
  · refine Or.inr ⟨i, hi, hx, ?_⟩
    have hV := h.t hi
    obtain ⟨⟨k0, r0, r1, r2, r3, r4, i5, i6⟩, k1, k2, ⟨pl, k3⟩, k4, k5, k6, k7⟩ := h
    have hA := (k7.1 i hi).1
    have hcl : clO ks gs fs ss E (T i) = clO ks gs fs ss E (T i) := rfl
    generalize hL : lay W (clO ks gs fs ss E (T i)) = L at hV ⊢
    have hb := hV.2.2.2.2.1.b
    obtain ⟨τ0, pl0, a1, a2, a3, a4⟩ := s_E_forgetPlan k3
    have hC : EmbC σ d (tA (T i)) (tG (T i)) (wd (tX (T i))) (clO ks gs fs ss E (T i)) (tM (T i)) L (flS W ([], []) (clO ks gs fs ss E (T i))) (tE (T i)) wr pl be := ⟨k0, r2, k3, hV, hA⟩
    have hC0 := hC.pl a4 a2
    obtain ⟨τ1, pl1, b1, b2, b3, b4⟩ := s_D_emboss_L (fun τ p c => J_X5_emboss_L24b (fun _ _ _ _ _ _ _ => none) d (tA (T i)) (nI p) (nI c) 0 (nI L.length) τ) (fun m p c l σ pl h => by
        show J_X5_emboss_L24b (J_X5_emboss_L24 m) d (tA (T i)) (nI p) (nI c) l (nI L.length) σ = _
        unfold J_X5_emboss_L24b
        rw [jcv_ok h.2.2.2.1.1.1 (s_T_lineCount h.2.2.2.1), jvI_ok, if_pos (nI_le (Nat.le_refl _) (by omega)), jcv_ok h.2.2.2.1.1.1 (s_T_lineCount h.2.2.2.1), jvI_ok, if_pos (nI_le (Nat.le_refl _) (by omega))]) L.length jN 0 0 0 (-1) τ0 pl0 hC0 rfl (Nat.zero_le _) (by unfold jN; omega)
    rw [Nat.zero_add, Nat.zero_add] at b1
    have e1 : J_X5_emboss d x σ = J_X5_emboss_L24b (fun _ _ _ _ _ _ _ => none) d (tA (T i)) (nI (pgD (fun j => !shr L (tE (T i)) j) L.length 0 (-1))) (nI (cntD (fun j => !shr L (tE (T i)) j) L.length 0)) 0 (nI L.length) τ1 := by
      unfold J_X5_emboss
      rw [jcv_ok k0 e, jvA_ok, jgR_ok k0, r2, jdr_ok, jcv_ok k3.1 a1, jvV_ok]
      exact b1
    have hdu : ∀ j, j < 6 → pl1.getD j 0 = duD L (fun j => !shr L (tE (T i)) j) j L.length 0 0 := fun j hj => by rw [b3 j hj, a3 j hj]
    have hov : anyD (ovr wr pl1 be) 6 0 = anyD (ovF wr (fun j => duD L (fun j => !shr L (tE (T i)) j) j L.length 0 0) be) 6 0 := anyD_congr (fun j _ hj => by
      unfold ovr ovF
      rw [hdu j (by omega)])
    have hG1 : ClsV τ1 d buf ks gs fs ss E n T W wr be := hh.sEmb (a4.tr b4) b2.2.2.1
    rw [e1]
    unfold J_X5_emboss_L24b
    rw [jcv_ok b2.2.2.2.1.1.1 (s_T_lineCount b2.2.2.2.1), jvI_ok, if_pos (nI_le (Nat.le_refl _) (by omega)), jgR_ok b2.1, b2.2.1, jdr_ok, jcv_ok b2.2.2.1.1 (s_E_bearsPlan b2.2.2.1), jvI_ok, hov]
    cases hc : anyD (ovF wr (fun j => duD L (fun j => !shr L (tE (T i)) j) j L.length 0 0) be) 6 0
    · right
      obtain ⟨τ2, wr', c1, c2, c3, c4⟩ := s_E_strikePlan 6 jN 0 τ1 wr b2.2.2.1 rfl (by omega) (by unfold jN; omega)
      have hC2 := b2.pl c4 c2
      obtain ⟨τ3, d1, d2, d3⟩ := s_T_keep hC2.2.2.2.1
      have hG2 := ClsG.sEmb hG1 c4 c2
      have hG3 := hG2.sTxt hi (d3.up (fun q z => Or.inr z)) (by
        obtain ⟨ps, u, k5⟩ := hG2.2.2.2.2.2.1
        exact ⟨ps, u, k5.keep d3 (fun q y z => by unfold rg at y z; omega)⟩) (x := (tA (T i), tX (T i), tG (T i), tM (T i), L)) rfl (c := clO ks gs fs ss E (T i)) (by rw [hL]; exact d2)
      rw [if_neg (show ¬ bI (!false) = 0 by decide), jgR_ok b2.1, b2.2.1, jdr_ok, jcv_ok b2.2.2.1.1 (J := J_X0_strikePlan (d + 17) τ1) c1, jvV_ok, jcv_ok hC2.2.2.2.1.1.1 d1, jvV_ok]
      refine ⟨rfl, τ3, wr', ?_, fun j hj => by rw [c3 j hj, if_pos (Nat.zero_le j), hdu j hj], c2.2.2.2.2.2.1, hG3.cs (fun k hk => ?_), ⟨hI.1, hI.2.1, hI.2.2.1, hI.2.2.2.1, fun k hk => ?_⟩, ((a4.tr b4).tr c4).up (clP_1 (by omega) (by omega)) |>.tr (d3.up (fun q z => Or.inr ⟨i, hi, z⟩))⟩
      · rw [show (100 : Int32) * nI (pgD (fun j => !shr L (tE (T i)) j) L.length 0 (-1)) = nI (100 * pgD (fun j => !shr L (tE (T i)) j) L.length 0 (-1)) from pk_mul 100 _, nI_add]
      · dsimp only
        by_cases q : k = i
        · rw [if_pos q, if_pos q]; exact clO_same rfl rfl
        · rw [if_neg q, if_neg q]
      · dsimp only
        by_cases q : k = i
        · rw [if_pos q]
          exact hI.2.2.2.2 i hi
        · rw [if_neg q]; exact hI.2.2.2.2 k hk
    · left
      have hz1 : kz τ1 := (hz.keep a4).keep b4
      rw [if_pos (show bI (!true) = 0 by decide)]
      exact ⟨rfl, thS τ1, rfl, hG1.th hz1, ((a4.tr b4).up (clP_1 (by omega) (by omega))).tr ((ag_thS hz1).up (fun q z => z.elim))⟩
  · refine Or.inl ⟨hx, ?_⟩
    unfold J_X5_emboss
    rw [jcv_x h.1.1 e]
