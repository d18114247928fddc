/-! The class translates its texts anew. -/
theorem tTx (x : Tx) (m : List Int32) : tA ((tA x, tX x, tG x, m, tE x) : Tx) = tA x ∧ tX ((tA x, tX x, tG x, m, tE x) : Tx) = tX x ∧ tG ((tA x, tX x, tG x, m, tE x) : Tx) = tG x ∧ tM ((tA x, tX x, tG x, m, tE x) : Tx) = m ∧ tE ((tA x, tX x, tG x, m, tE x) : Tx) = tE x := ⟨rfl, rfl, rfl, rfl, rfl⟩
theorem anyD_no {f : Nat → Bool} : ∀ {d i : Nat}, anyD f d i = false → ∀ j, i ≤ j → j < i + d → f j = false
  | 0, i, _, j, h1, h2 => by omega
  | d + 1, i, h, j, h1, h2 => by
    unfold anyD at h
    rw [Bool.or_eq_false_iff] at h
    by_cases e : j = i
    · rw [e]; exact h.1
    · exact anyD_no h.2 j (by omega) (by omega)
theorem ll_ext {a b : List (List Int32)} (h : a.length = b.length) (hx : ∀ i, i < a.length → a.getD i [] = b.getD i []) : a = b := by
  apply List.ext_getElem h
  intro i h1 h2
  have := hx i h1
  simpa [List.getD_eq_getElem?_getD, h1, h2] using this
/-- some word of a text has other cells now -/
def chg (new : List (List Int32)) (old : List (List Int32)) : Bool := anyD (fun j => !shr new old j) new.length 0
theorem chg_no {new old : List (List Int32)} (h : chg new old = false) (hl : new.length = old.length) : new = old := by
  refine ll_ext hl (fun i hi => ?_)
  have := anyD_no h i (Nat.zero_le _) (by omega)
  rw [Bool.not_eq_false'] at this
  exact (of_decide_eq_true this).2.2
/-- texts with other marks -/
def TR (n i : Nat) (T T' : Nat → Tx) (new old : Nat → List (List Int32)) : Prop := ∀ j, j < n → tA (T' j) = tA (T j) ∧ tX (T' j) = tX (T j) ∧ tG (T' j) = tG (T j) ∧ tE (T' j) = tE (T j) ∧ (tM (T' j)).length = (tM (T j)).length ∧ ∀ k, k < (tM (T j)).length → (tM (T' j)).getD k 0 = if i ≤ j ∧ shr (new j) (old j) (k / 2) = false then 45 else (tM (T j)).getD k 0
theorem cl_flat (ks : List Nat) (gs fs ss : List Int32) (E : List (List Nat)) (g : Int32) : ∀ (ws : List (List Nat)), (∀ w ∈ ws, 1 ≤ w.length) → (ws.map (trC ks gs fs ss E g)).flatten.length ≤ 2 * ws.flatten.length
  | [], _ => by simp
  | w :: ws, h => by
    have h1 := (trC_b ks gs fs ss E g (h w (List.mem_cons_self ..))).2
    have h2 := cl_flat ks gs fs ss E g ws (fun v hv => h v (List.mem_cons_of_mem _ hv))
    rw [List.map_cons, List.flatten_cons, List.length_append, List.flatten_cons, List.length_append]
    omega
theorem ws_flat : ∀ (ws : List (List Nat)), (∀ w ∈ ws, 1 ≤ w.length) → ws.length ≤ ws.flatten.length
  | [], _ => by simp
  | w :: ws, h => by
    have h1 := h w (List.mem_cons_self ..)
    have h2 := ws_flat ws (fun v hv => h v (List.mem_cons_of_mem _ hv))
    rw [List.flatten_cons, List.length_append, List.length_cons]
    omega
/-- the cells of a text have room in its lines -/
theorem cl_cap (ks : List Nat) (gs fs ss : List Int32) (E : List (List Nat)) {x : Tx} (hw : WdI (wd (tX x))) : (clO ks gs fs ss E x).length = (wd (tX x)).length ∧ (clO ks gs fs ss E x).length ≤ 40 ∧ (clO ks gs fs ss E x).flatten.length + (clO ks gs fs ss E x).length ≤ 161 := by
  have h1 := cl_flat ks gs fs ss E (tG x) (wd (tX x)) (fun w hw' => (hw.1 w hw').2)
  have h2 := hw.2.1
  have h3 := hw.2.2.1
  have h4 := hw.2.2.2
  have h5 := ws_flat (wd (tX x)) (fun w hw' => (hw.1 w hw').2)
  unfold clO
  rw [List.length_map]
  refine ⟨rfl, h3, ?_⟩
  by_cases e : (wd (tX x)).length = 0
  · have : wd (tX x) = [] := List.length_eq_zero_iff.mp e
    rw [this]
    simp
  · omega
theorem clO_same {ks : List Nat} {gs fs ss : List Int32} {E : List (List Nat)} {x y : Tx} (h1 : tX y = tX x) (h2 : tG y = tG x) : clO ks gs fs ss E y = clO ks gs fs ss E x := by
  unfold clO
  rw [h1, h2]
theorem s_D_retr_L {d : Nat} {buf ks : List Nat} {gs fs ss : List Int32} {E : List (List Nat)} (hI : RubI ks gs fs ss E) {n : Nat} (hn : n ≤ 6) {W : Nat} (hW : 8 ≤ W ∧ W ≤ 40) {wr : List Int32} {be : Int32} (old : Nat → List (List Int32)) : ∀ (k m i cnt : Nat) (σ : Hp) (T : Nat → Tx) (cs : Nat → List (List Int32)), ClsG σ d buf ks gs fs ss E n T cs W wr be → (∀ j, j < n → cs j = if j < i then clO ks gs fs ss E (T j) else old j) → (∀ j, j < n → (old j).length = (wd (tX (T j))).length ∧ WdI (wd (tX (T j))) ∧ (tM (T j)).length = 2 * (wd (tX (T j))).length) → 6 - i = k → i ≤ 6 → k < m → cnt ≤ i → ∃ τ T', J_X5_translateTexts_L13 m d (nI cnt) (d + 22) (nI 6) (nI i) σ = some (.inl (some (.int (nI (cnt + cntD (fun j => chg (clO ks gs fs ss E (T j)) (old j)) (n - i) i)))), τ) ∧ ClsG τ d buf ks gs fs ss E n T' (fun j => clO ks gs fs ss E (T j)) W wr be ∧ TR n i T T' (fun j => clO ks gs fs ss E (T j)) old ∧ ag (fun q => rg (d + 23) 5 q ∨ ∃ j, j < n ∧ rg (tA (T j)) 25 q) σ τ := by
  intro k
  induction k with
  | zero =>
    intro m i cnt σ T cs h hcs hp hk hi hm hc
    obtain ⟨m, rfl⟩ : ∃ z, m = z + 1 := ⟨m - 1, by omega⟩
    obtain rfl : i = 6 := by omega
    refine ⟨σ, T, ?_, ?_, fun j hj => ⟨rfl, rfl, rfl, rfl, rfl, fun k hk => by rw [if_neg (fun z => by omega)]⟩, ag.rf⟩
    · show J_X5_translateTexts_L13b (J_X5_translateTexts_L13 m) d (nI cnt) (d + 22) (nI 6) (nI 6) σ = _
      unfold J_X5_translateTexts_L13b
      rw [if_pos (nI_le (Nat.le_refl _) (by omega)), show n - 6 = 0 by omega]
      rfl
    · obtain ⟨k0, k1, k2, k3, k4, k5, k6, k7⟩ := h
      refine ⟨k0, k1, k2, k3, k4, k5, fun j hj => ?_, k7⟩
      have := k6 j hj
      rw [hcs j hj, if_pos (by omega)] at this
      exact this
  | succ k ih =>
    intro m i cnt σ T cs h hcs hp hk hi hm hc
    obtain ⟨m, rfl⟩ : ∃ z, m = z + 1 := ⟨m - 1, by omega⟩
    have hh := h
    obtain ⟨⟨k0, r0, r1, r2, r3, r4, i5, i6⟩, k1, k2, k3, ⟨a0, a1⟩, ⟨ps, u, k5⟩, k6, k7⟩ := h
    by_cases hin : i < n
    · have hA := (k7.1 i hin).1
      obtain ⟨p1, p2, p3⟩ := hp i hin
      have hti := k6 i hin
      have hci : cs i = old i := by rw [hcs i hin, if_neg (Nat.lt_irrefl i)]
      obtain ⟨τ, mk', b1, b2, b3, b4, b5, b6⟩ := s_T_translate k2 hI p2 hti p3 k5 (fun q y z => by unfold rg at y z; omega) (fun q y z => by unfold rg at y z; omega) (fun q y z => by unfold rg at y z; omega)
      rw [hci] at b1 b4
      have hcl : (wd (tX (T i))).map (trC ks gs fs ss E (tG (T i))) = clO ks gs fs ss E (T i) := rfl
      rw [hcl] at b1 b2 b4 b5
      have hcap := cl_cap ks gs fs ss E p2
      rw [← hcap.1] at b1
      have b1' : J_X4_translate (tA (T i)) (d + 3) (d + 23) σ = some (.inl (some (.int (bI (chg (clO ks gs fs ss E (T i)) (old i))))), τ) := b1
      have b6' : ag (fun q => rg (d + 23) 5 q ∨ rg (tA (T i)) 25 q) σ τ := b6.up (fun q y => by
        rcases y with y | y
        · exact Or.inl y
        · exact Or.inr (by unfold rg at y ⊢; omega))
      have hkd : kdH τ d = (1, 5) := by rw [b6.2.1]; exact k0
      have hiw : inH τ d 6 = nI W := by
        rw [(b6'.2.2.1 d (fun y => by unfold rg at y; omega)).1]
        exact i6
      -- the step to the next text
      have hstep : ∃ τ2, J_X5_translateTexts_L13 (m + 1) d (nI cnt) (d + 22) (nI 6) (nI i) σ = J_X5_translateTexts_L13 m d (nI (cnt + if chg (clO ks gs fs ss E (T i)) (old i) = true then 1 else 0)) (d + 22) (nI 6) (nI (i + 1)) τ2 ∧ TxtV τ2 (tA (T i)) (tG (T i)) (wd (tX (T i))) (clO ks gs fs ss E (T i)) mk' (lay W (clO ks gs fs ss E (T i))) (flS W ([], []) (clO ks gs fs ss E (T i))) (tE (T i)) ∧ (∃ ps u, PieV τ2 (d + 23) 40 160 ps u) ∧ ag (fun q => rg (d + 23) 5 q ∨ rg (tA (T i)) 25 q) σ τ2 := by
        show ∃ τ2, J_X5_translateTexts_L13b (J_X5_translateTexts_L13 m) d (nI cnt) (d + 22) (nI 6) (nI i) σ = _ ∧ _
        unfold J_X5_translateTexts_L13b jj
        dsimp only
        rw [if_neg (nI_ge (by omega) (by omega)), jaR_ok a0 (by omega) (by omega), a1 i (by omega), if_pos hin, jnu_s, jgR_ok k0, jgR_ok k0, r1, r4, jdr_ok, jdr_ok, jcv_ok hti.1.1 b1', jvI_ok]
        cases hc : chg (clO ks gs fs ss E (T i)) (old i)
        · have e := chg_no hc (by rw [hcap.1, p1])
          rw [if_pos (by decide), nI_1]
          refine ⟨τ, rfl, ?_, ⟨_, _, b5⟩, b6'⟩
          rw [hci, ← e] at b2
          exact b2
        · obtain ⟨t0, t1, t2, t3, t4, t5, t6⟩ := b2
          obtain ⟨τ2, c1, c2, c3, c4⟩ := s_T_lay hW.1 hW.2 hcap.2.1 hcap.2.2 t0 t2 t4 t5
          rw [if_neg (by decide), jgI_ok hkd, hiw, jcv_ok t0.1 c1, jvV_ok, nI_1, nI_1]
          have nx : ∀ {a n : Nat}, a + n ≤ tA (T i) + 13 ∨ tA (T i) + 20 ≤ a → ∀ q, rg (tA (T i) + 13) 7 q → ¬ rg a n q := fun h1 q h2 h3 => by unfold rg at h2 h3; omega
          refine ⟨τ2, rfl, ⟨t0.keep c4 (fun y => by unfold rg at y; omega), t1.keep c4 (nx (by omega)), t2.keep c4 (nx (by omega)), t3.keep c4 (fun y => by unfold rg at y; omega) (fun y => by unfold rg at y; omega), c2, c3, t6.keep c4 (nx (by omega))⟩, ⟨_, _, b5.keep c4 (nx (by omega))⟩, b6'.tr (c4.up (fun q y => Or.inr (by unfold rg at y ⊢; omega)))⟩
      obtain ⟨τ2, s1, s2, s3, s4⟩ := hstep
      have hG2 := hh.sTxt hin s4 s3 (x := (tA (T i), tX (T i), tG (T i), mk', tE (T i))) (tTx (T i) mk').1 s2
      have eT : ∀ j, tA (if j = i then ((tA (T i), tX (T i), tG (T i), mk', tE (T i)) : Tx) else T j) = tA (T j) ∧ tX (if j = i then ((tA (T i), tX (T i), tG (T i), mk', tE (T i)) : Tx) else T j) = tX (T j) ∧ tG (if j = i then ((tA (T i), tX (T i), tG (T i), mk', tE (T i)) : Tx) else T j) = tG (T j) ∧ tE (if j = i then ((tA (T i), tX (T i), tG (T i), mk', tE (T i)) : Tx) else T j) = tE (T j) ∧ tM (if j = i then ((tA (T i), tX (T i), tG (T i), mk', tE (T i)) : Tx) else T j) = if j = i then mk' else tM (T j) := fun j => by
        by_cases e : j = i
        · rw [if_pos e, if_pos e, e]
          exact ⟨rfl, rfl, rfl, rfl, rfl⟩
        · rw [if_neg e, if_neg e]
          exact ⟨rfl, rfl, rfl, rfl, rfl⟩
      have eC : ∀ j, clO ks gs fs ss E (if j = i then ((tA (T i), tX (T i), tG (T i), mk', tE (T i)) : Tx) else T j) = clO ks gs fs ss E (T j) := fun j => clO_same (eT j).2.1 (eT j).2.2.1
      obtain ⟨υ, T', u1, u2, u3, u4⟩ := ih m (i + 1) (cnt + if chg (clO ks gs fs ss E (T i)) (old i) = true then 1 else 0) τ2 _ _ hG2 (fun j hj => by
          rw [eC j]
          by_cases e : j = i
          · rw [if_pos e, if_pos (by omega), e]
          · rw [if_neg e, hcs j hj]
            by_cases c : j < i
            · rw [if_pos c, if_pos (by omega)]
            · rw [if_neg c, if_neg (by omega)]) (fun j hj => by
          rw [(eT j).2.1, (eT j).2.2.2.2]
          refine ⟨(hp j hj).1, (hp j hj).2.1, ?_⟩
          by_cases e : j = i
          · rw [if_pos e, e]; exact b3
          · rw [if_neg e]; exact (hp j hj).2.2) (by omega) (by omega) (by omega) (by split <;> omega)
      simp only [eC] at u1 u2 u3
      refine ⟨υ, T', ?_, u2, fun j hj => ?_, (s4.up (fun q y => ?_)).tr (u4.up (fun q y => ?_))⟩
      · rw [s1, u1, show n - i = (n - (i + 1)) + 1 by omega, cntD, Nat.add_assoc]
      · obtain ⟨v1, v2, v3, v4, v5, v6⟩ := u3 j hj
        rw [(eT j).1] at v1
        rw [(eT j).2.1] at v2
        rw [(eT j).2.2.1] at v3
        rw [(eT j).2.2.2.1] at v4
        rw [(eT j).2.2.2.2] at v5 v6
        by_cases e : j = i
        · rw [if_pos e] at v5 v6
          subst e
          refine ⟨v1, v2, v3, v4, by rw [v5, b3, p3], fun k hk => ?_⟩
          rw [v6 k (by rw [b3, ← p3]; exact hk), if_neg (fun z => by omega), b4 k (by rw [← p3]; exact hk)]
          by_cases c : shr (clO ks gs fs ss E (T j)) (old j) (k / 2) = false
          · rw [if_pos c, if_pos ⟨Nat.le_refl _, c⟩]
          · rw [if_neg c, if_neg (fun z => c z.2)]
        · rw [if_neg e] at v5 v6
          refine ⟨v1, v2, v3, v4, v5, fun k hk => ?_⟩
          rw [v6 k hk]
          by_cases c : i + 1 ≤ j ∧ shr (clO ks gs fs ss E (T j)) (old j) (k / 2) = false
          · rw [if_pos c, if_pos ⟨by omega, c.2⟩]
          · rw [if_neg c, if_neg (fun z => c ⟨by omega, z.2⟩)]
      · rcases y with y | y
        · exact Or.inl y
        · exact Or.inr ⟨i, hin, y⟩
      · rcases y with y | ⟨j, j1, j2⟩
        · exact Or.inl y
        · exact Or.inr ⟨j, j1, by rw [← (eT j).1]; exact j2⟩
    · obtain ⟨υ, T', u1, u2, u3, u4⟩ := ih m (i + 1) cnt σ T cs hh (fun j hj => by
        rw [hcs j hj, if_pos (by omega), if_pos (by omega)]) hp (by omega) (by omega) (by omega) (by omega)
      refine ⟨υ, T', ?_, u2, fun j hj => ?_, u4⟩
      · show J_X5_translateTexts_L13b (J_X5_translateTexts_L13 m) d (nI cnt) (d + 22) (nI 6) (nI i) σ = _
        unfold J_X5_translateTexts_L13b jj
        dsimp only
        rw [if_neg (nI_ge (by omega) (by omega)), jaR_ok a0 (by omega) (by omega), a1 i (by omega), if_neg hin, jnu_n, nI_1, u1, show n - i = 0 by omega, show n - (i + 1) = 0 by omega]
        rfl
      · obtain ⟨v1, v2, v3, v4, v5, v6⟩ := u3 j hj
        refine ⟨v1, v2, v3, v4, v5, fun k hk => ?_⟩
        rw [v6 k hk, if_neg (fun z => by omega), if_neg (fun z => by omega)]
theorem ClsG.cs {σ : Hp} {d : Nat} {buf ks : List Nat} {gs fs ss : List Int32} {E : List (List Nat)} {n : Nat} {T : Nat → Tx} {cs cs' : Nat → List (List Int32)} {W : Nat} {wr : List Int32} {be : Int32} (h : ClsG σ d buf ks gs fs ss E n T cs W wr be) (hc : ∀ j, j < n → cs' j = cs j) : ClsG σ d buf ks gs fs ss E n T cs' W wr be := by
  obtain ⟨k0, k1, k2, k3, k4, k5, k6, k7⟩ := h
  exact ⟨k0, k1, k2, k3, k4, k5, fun j hj => by rw [hc j hj]; exact k6 j hj, k7⟩
/-- the class, with its cells and lines as they must be -/
def ClsV (σ : Hp) (d : Nat) (buf : List Nat) (ks : List Nat) (gs fs ss : List Int32) (E : List (List Nat)) (n : Nat) (T : Nat → Tx) (W : Nat) (wr : List Int32) (be : Int32) : Prop := ClsG σ d buf ks gs fs ss E n T (fun j => clO ks gs fs ss E (T j)) W wr be
theorem s_D_retr {σ : Hp} {d : Nat} {buf ks : List Nat} {gs fs ss : List Int32} {E : List (List Nat)} (hI : RubI ks gs fs ss E) {n : Nat} (hn : n ≤ 6) {T : Nat → Tx} {W : Nat} (hW : 8 ≤ W ∧ W ≤ 40) {wr : List Int32} {be : Int32} {old : Nat → List (List Int32)} (h : ClsG σ d buf ks gs fs ss E n T old W wr be) (hp : ∀ j, j < n → (old j).length = (wd (tX (T j))).length ∧ WdI (wd (tX (T j))) ∧ (tM (T j)).length = 2 * (wd (tX (T j))).length) : ∃ τ T', J_X5_translateTexts d σ = some (.inl (some (.int (nI (cntD (fun j => chg (clO ks gs fs ss E (T j)) (old j)) n 0)))), τ) ∧ ClsV τ d buf ks gs fs ss E n T' W wr be ∧ TR n 0 T T' (fun j => clO ks gs fs ss E (T j)) old ∧ ag (fun q => rg (d + 23) 5 q ∨ ∃ j, j < n ∧ rg (tA (T j)) 25 q) σ τ := by
  obtain ⟨τ, T', u1, u2, u3, u4⟩ := s_D_retr_L hI hn hW old 6 jN 0 0 σ T old h (fun j hj => by rw [if_neg (Nat.not_lt_zero j)]) hp rfl (by omega) (by unfold jN; omega) (Nat.le_refl _)
  rw [Nat.zero_add, Nat.sub_zero] at u1
  obtain ⟨⟨k0, r0, r1, r2, r3, r4, i5, i6⟩, k1, k2, k3, ⟨a0, a1⟩, k5, k6, k7⟩ := h
  refine ⟨τ, T', ?_, u2.cs (fun j hj => clO_same (u3 j hj).2.1 (u3 j hj).2.2.1), u3, u4⟩
  unfold J_X5_translateTexts
  rw [jgR_ok k0, r3, jdr_ok, jal_ok a0]
  exact u1
/-- the buffer as the letters of a rule -/
def rkey (buf : List Nat) : Prop := 1 ≤ buf.length ∧ buf.length ≤ 4 ∧ ∀ c ∈ buf, c ≠ 0
theorem plc_blank : ∀ (l : List Nat) (k : Nat), (∀ c ∈ l, c ≤ 26) → k + l.length < 2 ^ 31 → ((∀ c ∈ l, c ≠ 0) → plc 32 (l.map bc) k = -1) ∧ ((∃ c ∈ l, c = 0) → plc 32 (l.map bc) k ≠ -1)
  | [], _, _, _ => ⟨fun _ => rfl, fun ⟨c, hc, _⟩ => by simp at hc⟩
  | c :: l, k, h, hk => by
    rw [List.length_cons] at hk
    have ih := plc_blank l (k + 1) (fun x hx => h x (List.mem_cons_of_mem _ hx)) (by omega)
    have hb := bc_32 (h c (List.mem_cons_self ..))
    rw [List.map_cons]
    unfold plc
    by_cases e : c = 0
    · rw [if_pos (hb.mpr e)]
      refine ⟨fun z => (z c (List.mem_cons_self ..) e).elim, fun _ z => ?_⟩
      have e1 := congrArg Int32.toInt z
      rw [nI_toInt (by omega)] at e1
      have : (-1 : Int32).toInt = -1 := by decide
      omega
    · rw [if_neg (fun z => e (hb.mp z))]
      exact ⟨fun z => ih.1 (fun x hx => z x (List.mem_cons_of_mem _ hx)), fun ⟨x, hx, hx'⟩ => ih.2 (by
        rcases List.mem_cons.mp hx with y | y
        · exact (e (y ▸ hx')).elim
        · exact ⟨x, y, hx'⟩)⟩
theorem map_bc {l : List Nat} (h : ∀ c ∈ l, c ≠ 0) : l.map bc = l.map ch := List.map_congr_left (fun c hc => bc_ch (h c hc))
theorem lts_of {l : List Nat} (h : ∀ c ∈ l, c ≤ 26) (h0 : ∀ c ∈ l, c ≠ 0) : lts l := fun c hc => by
  have := h c hc
  have := h0 c hc
  omega
theorem s_D_typedKey {σ : Hp} {d : Nat} {buf ks : List Nat} {gs fs ss : List Int32} {E : List (List Nat)} {n : Nat} {T : Nat → Tx} {cs : Nat → List (List Int32)} {W : Nat} {wr : List Int32} {be : Int32} (h : ClsG σ d buf ks gs fs ss E n T cs W wr be) (hb : (∀ c ∈ buf, c ≤ 26) ∧ buf.length ≤ 80) : (rkey buf ∧ J_X5_typedKey d σ = some (.inl (some (.int (kc (k27 buf)))), σ)) ∨ (¬ rkey buf ∧ J_X5_typedKey d σ = some (.inl (some (.int 0)), σ)) := by
  obtain ⟨⟨k0, r0, r1, r2, r3, r4, i5, i6⟩, k1, k2, k3, ⟨a0, a1⟩, k5, k6, k7⟩ := h
  have hp := plc_blank buf 0 hb.1 (by omega)
  unfold J_X5_typedKey
  rw [jgR_ok k0, r0, jdr_ok, jcv_ok k1.1 (s_placeOf k1 32), jvI_ok]
  by_cases c : ∀ c ∈ buf, c ≠ 0
  · rw [if_pos (hp.1 c), jgR_ok k0, jgR_ok k0, r0, jdr_ok, jdr_ok, jcv_ok k1.1 (s_count k1), jvI_ok, List.length_map]
    by_cases hl : 1 ≤ buf.length ∧ buf.length ≤ 4
    · refine Or.inl ⟨⟨hl.1, hl.2, c⟩, ?_⟩
      have key := s_R_keyOf k1 (s := 0) (lts_of hb.1 c) hl.1 hl.2 (by omega) (fun k hk => by rw [map_bc c, Nat.zero_add, getD_map 0 hk])
      rw [jcs_ok (J := J_X3_keyOf (d + 1) 0 (nI buf.length) σ) key, jvI_ok]
    · refine Or.inr ⟨fun z => hl ⟨z.1, z.2.1⟩, ?_⟩
      have key := s_R_keyOf_0 (σ := σ) (q := d + 1) (s := 0) (z := buf.length) (by omega) (by omega)
      rw [jcs_ok (J := J_X3_keyOf (d + 1) 0 (nI buf.length) σ) key, jvI_ok]
  · have c' : ∃ c ∈ buf, c = 0 := by
      apply Classical.byContradiction
      intro z
      exact c (fun x hx e => z ⟨x, hx, e⟩)
    rw [if_neg (hp.2 c')]
    exact Or.inr ⟨fun z => c z.2.2, rfl⟩
/-- an int between two -/
def inR (v lo hi : Int32) : Prop := ¬ v < lo ∧ ¬ hi < v
theorem s_D_isGrade (g : Int32) (σ : Hp) : (inR g 1 2 ∧ J_X5_isGrade g σ = some (.inl (some (.int 1)), σ)) ∨ (¬ inR g 1 2 ∧ J_X5_isGrade g σ = some (.inl (some (.int 0)), σ)) := by
  unfold J_X5_isGrade
  by_cases c : g < 1
  · exact Or.inr ⟨fun z => z.1 c, by rw [if_pos c, jrt_0]⟩
  · by_cases c2 : 2 < g
    · exact Or.inr ⟨fun z => z.2 c2, by rw [if_neg c, if_pos c2, jrt_0]⟩
    · exact Or.inl ⟨⟨c, c2⟩, by rw [if_neg c, if_neg c2, jrt_1]⟩
def fineR (g x y : Int32) : Prop := inR g 1 2 ∧ inR x 1 63 ∧ inR y 0 63
theorem s_D_isRule (g x y : Int32) (σ : Hp) : (fineR g x y ∧ J_X5_isRule g x y σ = some (.inl (some (.int 1)), σ)) ∨ (¬ fineR g x y ∧ J_X5_isRule g x y σ = some (.inl (some (.int 0)), σ)) := by
  unfold J_X5_isRule
  rcases s_D_isGrade g σ with ⟨h, e⟩ | ⟨h, e⟩
  · rw [jcs_ok e, jvI_ok, if_neg (by decide)]
    by_cases c1 : x < 1
    · exact Or.inr ⟨fun z => z.2.1.1 c1, by rw [if_pos c1, jrt_0]⟩
    · by_cases c2 : 63 < x
      · exact Or.inr ⟨fun z => z.2.1.2 c2, by rw [if_neg c1, if_pos c2, jrt_0]⟩
      · by_cases c3 : y < 0
        · exact Or.inr ⟨fun z => z.2.2.1 c3, by rw [if_neg c1, if_neg c2, if_pos c3, jrt_0]⟩
        · by_cases c4 : 63 < y
          · exact Or.inr ⟨fun z => z.2.2.2 c4, by rw [if_neg c1, if_neg c2, if_neg c3, if_pos c4, jrt_0]⟩
          · exact Or.inl ⟨⟨h, ⟨c1, c2⟩, c3, c4⟩, by rw [if_neg c1, if_neg c2, if_neg c3, if_neg c4, jrt_1]⟩
  · exact Or.inr ⟨fun z => h z.1, by rw [jcs_ok e, jvI_ok, if_pos rfl, jrt_0]⟩
