/-! The class's calls that change rules. -/
/-- the class's cells -/
def clP (d n : Nat) (T : Nat → Tx) : Nat → Prop := fun q => rg d 28 q ∨ ∃ j, j < n ∧ rg (tA (T j)) 25 q
theorem clP_1 {d n a m : Nat} {T : Nat → Tx} (h1 : d ≤ a) (h2 : a + m ≤ d + 28) : ∀ q, rg a m q → clP d n T q := fun q y => Or.inl (by unfold rg at y ⊢; omega)
theorem clP_b {d n : Nat} {T : Nat → Tx} : ∀ q, rw2 (d + 1) q → clP d n T q := fun q y => Or.inl (by unfold rw2 at y; unfold rg; omega)
theorem clP_r {d n : Nat} {T : Nat → Tx} : ∀ q, (rg (d + 23) 5 q ∨ ∃ j, j < n ∧ rg (tA (T j)) 25 q) → clP d n T q := fun q y => by
  rcases y with y | y
  · exact Or.inl (by unfold rg at y ⊢; omega)
  · exact Or.inr y
theorem kc_ne {k : Nat} {w : List Nat} (hw : lts w) (h1 : 1 ≤ w.length) (hk : k = k27 w) : kc k ≠ 0 := kc_pos (by rw [hk]; exact k27_pos hw h1) (by rw [hk]; exact k27_b hw)
theorem ne_m1 {k : Nat} (h : k < 2 ^ 31) : ¬ nI k = -1 := fun z => by
  have e1 := congrArg Int32.toInt z
  rw [nI_toInt h] at e1
  have : (-1 : Int32).toInt = -1 := by decide
  omega
/-- the buffer is emptied, and the texts are translated anew -/
theorem s_D_tail {σ : Hp} {d : Nat} {buf ks ks' : List Nat} {gs fs ss gs' fs' ss' : List Int32} {E E' : List (List Nat)} {n : Nat} {T : Nat → Tx} {W : Nat} {wr : List Int32} {be : Int32} (h : ClsG σ d buf ks' gs' fs' ss' E' n T (fun j => clO ks gs fs ss E (T j)) W wr be) (hI : ClsI buf ks gs fs ss E n T W) (hI' : RubI ks' gs' fs' ss' E') : ∃ τ1 τ T', J_X2_empty (d + 1) σ = some (.inl none, τ1) ∧ kdH τ1 = kdH σ ∧ J_X5_translateTexts d τ1 = some (.inl (some (.int (nI (cntD (fun j => chg (clO ks' gs' fs' ss' E' (T j)) (clO ks gs fs ss E (T j))) n 0)))), τ) ∧ ClsV τ d [] ks' gs' fs' ss' E' n T' W wr be ∧ ClsI [] ks' gs' fs' ss' E' n T' W ∧ TR n 0 T T' (fun j => clO ks' gs' fs' ss' E' (T j)) (fun j => clO ks gs fs ss E (T j)) ∧ ag (clP d n T) σ τ := by
  obtain ⟨τ1, a1, a2, a3⟩ := s_empty h.2.1
  have h1 := h.sBuf (buf' := []) a3 a2
  obtain ⟨τ, T', b1, b2, b3, b4⟩ := s_D_retr hI' hI.2.2.1 hI.2.2.2.1 h1 (old_ok hI)
  exact ⟨τ1, τ, T', a1, a3.2.1, b1, b2, b3.clsI hI ⟨fun c hc => by simp at hc, by simp⟩ hI', b3, (a3.up clP_b).tr (b4.up clP_r)⟩
theorem s_D_addRule {σ : Hp} {d : Nat} {buf ks : List Nat} {gs fs ss : List Int32} {E : List (List Nat)} {n : Nat} {T : Nat → Tx} {W : Nat} {wr : List Int32} {be : Int32} (h : ClsV σ d buf ks gs fs ss E n T W wr be) (hI : ClsI buf ks gs fs ss E n T W) (g x y : Int32) : (¬ (fineR g x y ∧ rkey buf) ∧ J_X5_addRule d g x y σ = some (.inr "java/lang/IllegalArgumentException", thS σ)) ∨ (fineR g x y ∧ rkey buf ∧ ks.length = 40 ∧ J_X5_addRule d g x y σ = some (.inr "java/lang/IllegalStateException", thS σ)) ∨ (fineR g x y ∧ rkey buf ∧ ks.length < 40 ∧ k27 buf ∈ ks ∧ J_X5_addRule d g x y σ = some (.inr "java/lang/UnsupportedOperationException", thS σ)) ∨ (fineR g x y ∧ rkey buf ∧ ks.length < 40 ∧ k27 buf ∉ ks ∧ ∃ p τ T', p ≤ ks.length ∧ (∀ i, i < p → ks.getD i 0 < k27 buf) ∧ (∀ i, p ≤ i → i < ks.length → k27 buf < ks.getD i 0) ∧ J_X5_addRule d g x y σ = some (.inl (some (.int (nI p))), τ) ∧ ClsV τ d [] (ins ks p (k27 buf)) (ins gs p g) (ins fs p x) (ins ss p y) E n T' W wr be ∧ ClsI [] (ins ks p (k27 buf)) (ins gs p g) (ins fs p x) (ins ss p y) E n T' W ∧ TR n 0 T T' (fun j => clO (ins ks p (k27 buf)) (ins gs p g) (ins fs p x) (ins ss p y) E (T j)) (fun j => clO ks gs fs ss E (T j)) ∧ ag (clP d n T) σ τ) := by
  have hh := h
  have h40 := h.2.2.1.l40
  obtain ⟨⟨k0, r0, r1, r2, r3, r4, i5, i6⟩, k1, k2, k3, k4, k5, k6, k7⟩ := h
  have hR := hI.2.1
  rcases s_D_typedKey hh hI.1 with ⟨hk, ek⟩ | ⟨hk, ek⟩
  · have hlt := lts_of hI.1.1 hk.2.2
    have hkb := k27_b hlt
    rcases s_D_isRule g x y σ with ⟨hf, ef⟩ | ⟨hf, ef⟩
    · have e0 : J_X5_addRule d g x y σ = jgR σ d 5 1 (fun r8 => jdr r8 (fun b9 => jcv σ b9 3 (J_X3_isFull b9 σ) (fun w11 t10 => jvI w11 (fun x12 => (if x12 = 0 then jgR t10 d 5 1 (fun r13 => jdr r13 (fun b14 => jcv t10 b14 3 (J_X3_placeOf b14 (kc (k27 buf)) t10) (fun w16 t15 => jvI w16 (fun x17 => (if x17 = ((-1)) then jgR t15 d 5 1 (fun r18 => jdr r18 (fun b19 => jcv t15 b19 3 (J_X3_insert b19 (kc (k27 buf)) g x y t15) (fun w21 t20 => jvI w21 (fun x22 => jgR t20 d 5 0 (fun r23 => jdr r23 (fun b24 => jcv t20 b24 2 (J_X2_empty b24 t20) (fun w26 t25 => jvV w26 (jcv t25 d 5 (J_X5_translateTexts d t25) (fun w28 t27 => jvI w28 (fun x29 => some (.inl (some (.int x22)), t27))) (fun E t => some (.inr E, t)))) (fun E t => some (.inr E, t)))))) (fun E t => some (.inr E, t)))) else some (.inr "java/lang/UnsupportedOperationException", thS t15)))) (fun E t => some (.inr E, t)))) else some (.inr "java/lang/IllegalStateException", thS t10)))) (fun E t => some (.inr E, t)))) := by
        unfold J_X5_addRule jj
        dsimp only
        rw [jcv_ok k0 ek, jvI_ok, jcs_ok ef, jvI_ok, if_neg (show ¬ (1 : Int32) = 0 by decide), if_neg (kc_ne hlt hk.1 rfl)]
      rw [e0, jgR_ok k0, r1, jdr_ok, jcv_ok k2.1 (s_R_isFull k2), jvI_ok]
      by_cases c40 : ks.length < 40
      · rw [decide_eq_false (by omega), if_pos (show bI false = 0 by decide), jgR_ok k0, r1, jdr_ok, jcv_ok k2.1 (s_R_placeOf k2 hR hkb), jvI_ok]
        by_cases cm : k27 buf ∈ ks
        · have hix := List.idxOf_lt_length_of_mem cm
          rw [if_pos cm, if_neg (ne_m1 (by omega))]
          exact Or.inr (Or.inr (Or.inl ⟨hf, hk, c40, cm, rfl⟩))
        · obtain ⟨p, p1, p2, p3⟩ := key_place hR.2.2.2.2.1 cm
          obtain ⟨τ, a1, a2, a3⟩ := s_R_insert hR c40 hkb p1 p2 p3 g x y ks.length jN 0 σ k2 rfl (Nat.zero_le _) (by unfold jN; omega)
          rw [Nat.zero_min] at a1
          have hx : x ≠ 0 := fun z => by
            have := hf.2.1.1
            rw [z] at this
            exact this (by decide)
          have hR' := hR.tIns hlt hk.1 hk.2.1 p1 p2 p3 g y hx
          have hG := hh.sRub a3 a2
          obtain ⟨τ1, τ2, T', b1, b2, b3, b4, b5, b6, b7⟩ := s_D_tail hG hI hR'
          obtain ⟨⟨g0, q0, _⟩, g1, _⟩ := hG
          rw [if_neg cm, if_pos rfl, jgR_ok k0, r1, jdr_ok, jcv_ok k2.1 (J := J_X3_insert (d + 3) (kc (k27 buf)) g x y σ) a1, jvI_ok, jgR_ok g0, q0, jdr_ok, jcv_ok g1.1 b1, jvV_ok, jcv_ok (by rw [b2]; exact g0) b3, jvI_ok]
          exact Or.inr (Or.inr (Or.inr ⟨hf, hk, c40, cm, p, τ2, T', p1, p2, p3, rfl, b4, b5, b6, (a3.up (clP_1 (by omega) (by omega))).tr b7⟩))
      · rw [decide_eq_true (by omega), if_neg (show ¬ bI true = 0 by decide)]
        exact Or.inr (Or.inl ⟨hf, hk, by omega, rfl⟩)
    · refine Or.inl ⟨fun z => hf z.1, ?_⟩
      unfold J_X5_addRule jj
      dsimp only
      rw [jcv_ok k0 ek, jvI_ok, jcs_ok ef, jvI_ok, if_pos rfl]
  · refine Or.inl ⟨fun z => hk z.2, ?_⟩
    unfold J_X5_addRule jj
    dsimp only
    rw [jcv_ok k0 ek, jvI_ok]
    rcases s_D_isRule g x y σ with ⟨hf, ef⟩ | ⟨hf, ef⟩
    · rw [jcs_ok ef, jvI_ok, if_neg (show ¬ (1 : Int32) = 0 by decide), if_pos rfl]
    · rw [jcs_ok ef, jvI_ok, if_pos rfl]
theorem s_D_mend {σ : Hp} {d : Nat} {buf ks : List Nat} {gs fs ss : List Int32} {E : List (List Nat)} {n : Nat} {T : Nat → Tx} {W : Nat} {wr : List Int32} {be : Int32} (h : ClsV σ d buf ks gs fs ss E n T W wr be) (hI : ClsI buf ks gs fs ss E n T W) (g x y : Int32) : (¬ fineR g x y ∧ J_X5_mend d g x y σ = some (.inr "java/lang/IllegalArgumentException", thS σ)) ∨ (fineR g x y ∧ ¬ (rkey buf ∧ k27 buf ∈ ks) ∧ J_X5_mend d g x y σ = some (.inr "java/util/NoSuchElementException", thS σ)) ∨ (fineR g x y ∧ rkey buf ∧ k27 buf ∈ ks ∧ ∃ τ T', J_X5_mend d g x y σ = some (.inl (some (.int (nI (cntD (fun j => chg (clO ks (gs.set (ks.idxOf (k27 buf)) g) (fs.set (ks.idxOf (k27 buf)) x) (ss.set (ks.idxOf (k27 buf)) y) E (T j)) (clO ks gs fs ss E (T j))) n 0)))), τ) ∧ ClsV τ d [] ks (gs.set (ks.idxOf (k27 buf)) g) (fs.set (ks.idxOf (k27 buf)) x) (ss.set (ks.idxOf (k27 buf)) y) E n T' W wr be ∧ ClsI [] ks (gs.set (ks.idxOf (k27 buf)) g) (fs.set (ks.idxOf (k27 buf)) x) (ss.set (ks.idxOf (k27 buf)) y) E n T' W ∧ TR n 0 T T' (fun j => clO ks (gs.set (ks.idxOf (k27 buf)) g) (fs.set (ks.idxOf (k27 buf)) x) (ss.set (ks.idxOf (k27 buf)) y) E (T j)) (fun j => clO ks gs fs ss E (T j)) ∧ ag (clP d n T) σ τ) := by
  have hh := h
  have h40 := h.2.2.1.l40
  obtain ⟨⟨k0, r0, r1, r2, r3, r4, i5, i6⟩, k1, k2, k3, k4, k5, k6, k7⟩ := h
  have hR := hI.2.1
  unfold J_X5_mend
  rcases s_D_isRule g x y σ with ⟨hf, ef⟩ | ⟨hf, ef⟩
  · right
    rw [jcs_ok ef, jvI_ok, if_neg (show ¬ (1 : Int32) = 0 by decide), jgR_ok k0, r1, jdr_ok]
    rcases s_D_typedKey hh hI.1 with ⟨hk, ek⟩ | ⟨hk, ek⟩
    · have hlt := lts_of hI.1.1 hk.2.2
      have hkb := k27_b hlt
      rw [jcv_ok k0 ek, jvI_ok, jcv_ok k2.1 (s_R_placeOf k2 hR hkb), jvI_ok]
      by_cases cm : k27 buf ∈ ks
      · right
        have hix := List.idxOf_lt_length_of_mem cm
        obtain ⟨τ, a1, a2, a3⟩ := s_R_alter k2 hR hix g x y
        have hx : x ≠ 0 := fun z => by
          have := hf.2.1.1
          rw [z] at this
          exact this (by decide)
        have hR' := hR.tSet (ks.idxOf (k27 buf)) g y hx
        have hG := hh.sRub a3 a2
        obtain ⟨τ1, τ2, T', b1, b2, b3, b4, b5, b6, b7⟩ := s_D_tail hG hI hR'
        obtain ⟨⟨g0, q0, _⟩, g1, _⟩ := hG
        rw [if_pos cm, if_neg (ne_m1 (by omega)), jgR_ok k0, r1, jdr_ok, jcv_ok k2.1 a1, jvV_ok, jgR_ok g0, q0, jdr_ok, jcv_ok g1.1 b1, jvV_ok, jcv_ok (by rw [b2]; exact g0) b3, jvI_ok]
        exact ⟨hf, hk, cm, τ2, T', rfl, b4, b5, b6, (a3.up (clP_1 (by omega) (by omega))).tr b7⟩
      · left
        rw [if_neg cm, if_pos rfl]
        exact ⟨hf, fun z => cm z.2, rfl⟩
    · left
      rw [jcv_ok k0 ek, jvI_ok, jcv_ok k2.1 (s_R_placeOf_0 k2 hR), jvI_ok, if_pos rfl]
      exact ⟨hf, fun z => hk z.1, rfl⟩
  · left
    rw [jcs_ok ef, jvI_ok, if_pos rfl]
    exact ⟨hf, rfl⟩
/-- the buffer is one word -/
def oneW (buf : List Nat) : Prop := 1 ≤ buf.length ∧ ∀ c ∈ buf, c ≠ 0
theorem s_D_turnException {σ : Hp} {d : Nat} {buf ks : List Nat} {gs fs ss : List Int32} {E : List (List Nat)} {n : Nat} {T : Nat → Tx} {W : Nat} {wr : List Int32} {be : Int32} (h : ClsV σ d buf ks gs fs ss E n T W wr be) (hI : ClsI buf ks gs fs ss E n T W) : (¬ oneW buf ∧ J_X5_turnException d σ = some (.inr "java/lang/IllegalArgumentException", thS σ)) ∨ (oneW buf ∧ buf ∉ E ∧ E.length = 20 ∧ J_X5_turnException d σ = some (.inr "java/lang/IllegalStateException", thS σ)) ∨ (oneW buf ∧ ∃ E' τ T', ((buf ∉ E ∧ E.length < 20 ∧ E' = E ++ [buf] ∧ J_X5_turnException d σ = some (.inl (some (.int 1)), τ)) ∨ (buf ∈ E ∧ E' = del E (E.idxOf buf) ∧ J_X5_turnException d σ = some (.inl (some (.int 0)), τ))) ∧ ClsV τ d [] ks gs fs ss E' n T' W wr be ∧ ClsI [] ks gs fs ss E' n T' W ∧ TR n 0 T T' (fun j => clO ks gs fs ss E' (T j)) (fun j => clO ks gs fs ss E (T j)) ∧ ag (clP d n T) σ τ) := by
  have hh := h
  have h40 := h.2.2.1.l40
  obtain ⟨⟨k0, r0, r1, r2, r3, r4, i5, i6⟩, k1, k2, k3, k4, k5, k6, k7⟩ := h
  have hR := hI.2.1
  have hb80 := hI.1.2
  have hEb := k2.2.2.2.2.2.2.b
  rw [List.length_map] at hEb
  have hp := plc_blank buf 0 hI.1.1 (by omega)
  unfold J_X5_turnException jj
  dsimp only
  rw [jgR_ok k0, r0, jdr_ok, jcv_ok k1.1 (s_count k1), jvI_ok, List.length_map]
  by_cases c0 : buf.length = 0
  · left
    rw [if_pos ((nI_z (by omega)).mpr c0)]
    exact ⟨fun z => by have := z.1; omega, rfl⟩
  · rw [if_neg (nI_ne0 (by omega) (by omega)), jgR_ok k0, r0, jdr_ok, jcv_ok k1.1 (s_placeOf k1 32), jvI_ok]
    by_cases c : ∀ c ∈ buf, c ≠ 0
    · right
      have hw : oneW buf := ⟨by omega, c⟩
      have hlt := lts_of hI.1.1 c
      have hq := k1
      rw [map_bc c] at hq
      have hx := s_R_exc k2 hR hq (s := 0) (t := buf.length) (Nat.zero_le _) (by rw [List.length_map]; exact Nat.le_refl _) hlt (by unfold slc; rw [List.drop_zero, Nat.sub_zero, List.take_of_length_le (by rw [List.length_map]; exact Nat.le_refl _)])
      rw [if_pos (hp.1 c), jgR_ok k0, jgR_ok k0, jgR_ok k0, r0, r1, jdr_ok, jdr_ok, jdr_ok, jcv_ok k1.1 (s_count k1), jvI_ok, List.length_map, jcv_ok k2.1 (J := J_X3_placeOfException (d + 3) (d + 1) 0 (nI buf.length) σ) hx, jvI_ok]
      by_cases cm : buf ∈ E
      · right
        have hix := List.idxOf_lt_length_of_mem cm
        obtain ⟨τ, a1, a2, a3⟩ := s_R_dropException k2 hix
        have hR' := hR.excD (E.idxOf buf)
        have hG := hh.sRub a3 a2
        obtain ⟨τ1, τ2, T', b1, b2, b3, b4, b5, b6, b7⟩ := s_D_tail hG hI hR'
        obtain ⟨⟨g0, q0, _⟩, g1, _⟩ := hG
        refine ⟨hw, del E (E.idxOf buf), τ2, T', Or.inr ⟨cm, rfl, ?_⟩, b4, b5, b6, (a3.up (clP_1 (by omega) (by omega))).tr b7⟩
        rw [if_pos cm, if_neg (ne_m1 (by omega)), if_neg (ne_m1 (by omega)), jgR_ok k0, r1, jdr_ok, jcv_ok k2.1 a1, jvV_ok, jgR_ok g0, q0, jdr_ok, jcv_ok g1.1 b1, jvV_ok, jcv_ok (by rw [b2]; exact g0) b3, jvI_ok, if_neg (ne_m1 (by omega)), jrt_0]
      · rw [if_neg cm, if_pos rfl, jgR_ok k0, r1, jdr_ok, jcv_ok k2.1 (s_R_isFullOfExceptions k2), jvI_ok]
        by_cases c20 : E.length < 20
        · right
          obtain ⟨τ, a1, a2, a3⟩ := s_R_addException k2 hR c20 hq hw.1 hb80 (fun z => by unfold rg at z; omega) (fun z => by unfold rg at z; omega)
          have hR' := hR.excA hlt hw.1 hb80 cm
          have hG := hh.sRub a3 a2
          obtain ⟨τ1, τ2, T', b1, b2, b3, b4, b5, b6, b7⟩ := s_D_tail hG hI hR'
          obtain ⟨⟨g0, q0, _⟩, g1, _⟩ := hG
          refine ⟨hw, E ++ [buf], τ2, T', Or.inl ⟨cm, c20, rfl, ?_⟩, b4, b5, b6, (a3.up (clP_1 (by omega) (by omega))).tr b7⟩
          rw [decide_eq_false (by omega), if_pos (show bI false = 0 by decide), if_pos rfl, jgR_ok k0, jgR_ok k0, r0, r1, jdr_ok, jdr_ok, jcv_ok k2.1 a1, jvV_ok, jgR_ok g0, q0, jdr_ok, jcv_ok g1.1 b1, jvV_ok, jcv_ok (by rw [b2]; exact g0) b3, jvI_ok, if_pos rfl, jrt_1]
        · left
          rw [decide_eq_true (by omega), if_neg (show ¬ bI true = 0 by decide)]
          exact ⟨hw, cm, by omega, rfl⟩
    · left
      have c' : ∃ c ∈ buf, c = 0 := by
        apply Classical.byContradiction
        intro z
        exact c (fun x hx e => z ⟨x, hx, e⟩)
      rw [if_neg (hp.2 c')]
      exact ⟨fun z => c z.2, rfl⟩
