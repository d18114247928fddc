/-! What the model answers: pins, marks, width, buffer. -/
theorem m_in_P {σ : Hp} (x : Int32) : (pinR x → J_X6_in x 1 6 σ = some (.inl (some (.int 1)), σ)) ∧ (¬ pinR x → J_X6_in x 1 6 σ = some (.inl (some (.int 0)), σ)) := by
  refine ⟨fun ⟨j, hj, e⟩ => (m_in_R x 1 6).1 ?_, fun z => (m_in_R x 1 6).2 (fun y => z ?_)⟩
  · subst e
    exact ⟨nI_nlt (b := 1) (by omega) (by omega), nI_nlt (a := 6) (by omega) (by omega)⟩
  · exact pin_of y.1 (i32_le.mpr y.2)
theorem m_in_2 {σ : Hp} (x : Int32) : (inN x 2 → J_X6_in x 0 1 σ = some (.inl (some (.int 1)), σ)) ∧ (¬ inN x 2 → J_X6_in x 0 1 σ = some (.inl (some (.int 0)), σ)) := m_in_N (σ := σ) x (k := 2) (by omega)
theorem e240m (e i k : Nat) : (240 : Int32) * nI e + (40 : Int32) * nI i + nI k = nI (240 * e + 40 * i + k) := (congrArg (fun z => z + (40 : Int32) * nI i + nI k) (pk_mul 240 e)).trans ((congrArg (fun z => nI (240 * e) + z + nI k) (pk_mul 40 i)).trans ((congrArg (· + nI k) (nI_add _ _)).trans (nI_add _ _)))
theorem mkm_1 (x : Int32) : mkm x = 1 ↔ x = 114 := by
  unfold mkm
  by_cases a : x = 114
  · simp [a]
  · by_cases b : x = 119
    · rw [if_neg a, if_pos b]
      exact ⟨fun z => absurd z (by decide), fun z => (a z).elim⟩
    · rw [if_neg a, if_neg b]
      exact ⟨fun z => absurd z (by decide), fun z => (a z).elim⟩
theorem mkm_2 (x : Int32) : mkm x = 2 ↔ x = 119 := by
  unfold mkm
  by_cases a : x = 114
  · rw [if_pos a]
    exact ⟨fun z => absurd z (by decide), fun z => absurd (a.symm.trans z) (by decide)⟩
  · by_cases b : x = 119
    · rw [if_neg a, if_pos b]
      exact ⟨fun _ => b, fun _ => rfl⟩
    · rw [if_neg a, if_neg b]
      exact ⟨fun z => absurd z (by decide), fun z => (b z).elim⟩
section MODAP
variable {σ : Hp} {M : Nat} {buf ks : List Nat} {gs fs ss : List Int32} {E : List (List Nat)} {n : Nat} {T : Nat → Tx} {W : Nat} {wr : List Int32} {be : Int32}
theorem ModV.z {M k : Nat} {v : Int32} {W' : Nat} {wr' : List Int32} {be' : Int32} (h : ModV σ M buf ks gs fs ss E n T W wr be) (hk : k = 15 ∨ k = 20) (hZ : MZ (inS σ M k v) M W' wr' be') : ModV (inS σ M k v) M buf ks gs fs ss E n T W' wr' be' := by
  have g : ai (fun a j => a = M ∧ j = k) σ (inS σ M k v) := ai_in σ v ⟨rfl, rfl⟩
  obtain ⟨⟨h0, h1, h2, h3, h4, h5⟩, h6⟩ := h
  exact ⟨⟨h0.ai g, h1.ai g (fun z => by omega) (fun k z => by omega), h2.ai g (fun k => ⟨fun z => by omega, fun z => by omega, fun z => by omega, fun z => by omega⟩) (fun z => by omega), h3.ai g (fun z => by omega) (fun k => ⟨fun z => by omega, fun z => by omega⟩), h4.ai g (fun z => by omega) (fun a k _ _ z => by omega), hZ⟩, h6.ai g (fun k z => by omega)⟩
theorem ModV.zp {M k : Nat} {v : Int32} {W' : Nat} {wr' : List Int32} {be' : Int32} (h : ModV σ M buf ks gs fs ss E n T W wr be) (hZ : MZ (inS σ (M + 15) k v) M W' wr' be') : ModV (inS σ (M + 15) k v) M buf ks gs fs ss E n T W' wr' be' := by
  have g : ai (qP M) σ (inS σ (M + 15) k v) := ai_in σ v rfl
  have nP : ∀ k, ¬ qP M M k := fun k z => by unfold qP at z; omega
  have nP2 : ∀ c k, c ≠ 15 → ¬ qP M (M + c) k := fun c k hc z => by unfold qP at z; omega
  obtain ⟨⟨h0, h1, h2, h3, h4, h5⟩, h6⟩ := h
  exact ⟨⟨h0.ai g, h1.ai g (nP 2) (fun k => nP2 1 k (by omega)), h2.ai g (fun k => ⟨nP2 2 k (by omega), nP2 3 k (by omega), nP2 4 k (by omega), nP2 5 k (by omega)⟩) (nP 7), h3.ai g (nP 10) (fun k => ⟨nP2 6 k (by omega), nP2 7 k (by omega)⟩), h4.ai g (nP 14) (fun a k _ _ z => by unfold qP at z; omega), hZ⟩, h6.ai g (fun k => nP2 14 k (by omega))⟩
theorem m_setBearing_ok (h : ModV σ M buf ks gs fs ss E n T W wr be) {x : Int32} (hx : inR x 10 9999) : mrs σ M (J_X6_setBearing M x σ) 0 be (fun τ => ModV τ M buf ks gs fs ss E n T W wr x) := by
  have h0 := h.th 0
  have hZ := h0.1.2.2.2.2.2
  refine ⟨inS (inS σ M 0 0) M 20 x, ?_, by rw [in_inS, if_neg (by omega)]; exact in_0 σ M 0, h0.z (Or.inr rfl) ⟨by rw [in_inS, if_neg (by omega)]; exact hZ.1, by rw [in_inS, if_pos ⟨rfl, rfl⟩], fun j hj => by rw [in_inS, if_neg (by omega)]; exact hZ.2.2 j hj⟩, (ai_0 σ M 0).tr (ai_in _ _ ⟨Nat.le_refl _, by omega⟩)⟩
  unfold J_X6_setBearing jj
  dsimp only
  rw [jcs_ok ((m_in_R x 10 9999).1 hx), jvI_ok, if_neg (by decide), jcv_ok h.1.1.1 (s_M_goesOn h.1.1 0), jvI_ok, if_neg (by decide), jgI_ok (by exact h.1.1.1), hZ.2.1, jpI_ok (by exact h.1.1.1)]
theorem m_setBearing_no (h : ModV σ M buf ks gs fs ss E n T W wr be) {x : Int32} (hx : ¬ inR x 10 9999) : mrs σ M (J_X6_setBearing M x σ) 1 0 (fun τ => ModV τ M buf ks gs fs ss E n T W wr be) := by
  refine ⟨inS σ M 0 1, ?_, in_0 σ M 1, h.th 1, ai_0 σ M 1⟩
  unfold J_X6_setBearing jj
  dsimp only
  rw [jcs_ok ((m_in_R x 10 9999).2 hx), jvI_ok, if_pos rfl, jcv_ok h.1.1.1 (s_M_goesOn h.1.1 1), jvI_ok, if_pos (by decide)]
theorem m_setWidth_ok (h : ModV σ M buf ks gs fs ss E n T W wr be) {W' : Nat} (hx : inR (nI W') 8 40) : mrs σ M (J_X6_setWidth M (nI W') σ) 0 (nI W) (fun τ => ModV τ M buf ks gs fs ss E n T W' wr be) := by
  have h0 := h.th 0
  have hZ := h0.1.2.2.2.2.2
  refine ⟨inS (inS σ M 0 0) M 15 (nI W'), ?_, by rw [in_inS, if_neg (by omega)]; exact in_0 σ M 0, h0.z (Or.inl rfl) ⟨by rw [in_inS, if_pos ⟨rfl, rfl⟩], by rw [in_inS, if_neg (by omega)]; exact hZ.2.1, fun j hj => by rw [in_inS, if_neg (by omega)]; exact hZ.2.2 j hj⟩, (ai_0 σ M 0).tr (ai_in _ _ ⟨Nat.le_refl _, by omega⟩)⟩
  unfold J_X6_setWidth jj
  dsimp only
  rw [jcs_ok ((m_in_R _ 8 40).1 hx), jvI_ok, if_neg (by decide), jcv_ok h.1.1.1 (s_M_goesOn h.1.1 0), jvI_ok, if_neg (by decide), jgI_ok (by exact h.1.1.1), hZ.1, jpI_ok (by exact h.1.1.1)]
theorem m_setWidth_no (h : ModV σ M buf ks gs fs ss E n T W wr be) {x : Int32} (hx : ¬ inR x 8 40) : mrs σ M (J_X6_setWidth M x σ) 1 0 (fun τ => ModV τ M buf ks gs fs ss E n T W wr be) := by
  refine ⟨inS σ M 0 1, ?_, in_0 σ M 1, h.th 1, ai_0 σ M 1⟩
  unfold J_X6_setWidth jj
  dsimp only
  rw [jcs_ok ((m_in_R x 8 40).2 hx), jvI_ok, if_pos rfl, jcv_ok h.1.1.1 (s_M_goesOn h.1.1 1), jvI_ok, if_pos (by decide)]
theorem m_replace_ok (h : ModV σ M buf ks gs fs ss E n T W wr be) (hwl : wr.length = 6) {j : Nat} (hj : j < 6) : mrs σ M (J_X6_replace M (nI (j + 1)) σ) 0 (wr.getD j 0) (fun τ => ModV τ M buf ks gs fs ss E n T W (wr.set j 0) be) := by
  have h0 := h.th 0
  have hZ := h0.1.2.2.2.2.2
  refine ⟨inS (inS σ M 0 0) (M + 15) j 0, ?_, by rw [in_inS, if_neg (by omega)]; exact in_0 σ M 0, h0.zp ⟨by rw [in_inS, if_neg (by omega)]; exact hZ.1, by rw [in_inS, if_neg (by omega)]; exact hZ.2.1, fun k hk => ?_⟩, (ai_0 σ M 0).tr (ai_in _ _ ⟨by omega, by omega⟩)⟩
  · unfold J_X6_replace jj
    dsimp only
    rw [jcs_ok ((m_in_P _).1 ⟨j, hj, rfl⟩), jvI_ok, if_neg (by decide), jcv_ok h.1.1.1 (s_M_goesOn h.1.1 0), jvI_ok, if_neg (by decide), nI_pred, mrd h0.1.1 (f := 21) (c := 15) (r := 6) (by decide) hj, hZ.2.2 j hj, jgR_ok h0.1.1.1, h0.1.1.fr (f := 21) (c := 15) (r := 6) (by decide), jdr_ok, jsI_ok (h0.1.1.fk (f := 21) (c := 15) (r := 6) (by decide)) hj (by decide)]
  · rw [in_inS, getD_set (by omega)]
    by_cases e : k = j
    · rw [if_pos ⟨rfl, e⟩, if_pos e]
    · rw [if_neg (fun z => e z.2), if_neg e]
      exact hZ.2.2 k hk
theorem m_replace_no (h : ModV σ M buf ks gs fs ss E n T W wr be) {x : Int32} (hx : ¬ pinR x) : mrs σ M (J_X6_replace M x σ) 1 0 (fun τ => ModV τ M buf ks gs fs ss E n T W wr be) := by
  refine ⟨inS σ M 0 1, ?_, in_0 σ M 1, h.th 1, ai_0 σ M 1⟩
  unfold J_X6_replace jj
  dsimp only
  rw [jcs_ok ((m_in_P x).2 hx), jvI_ok, if_pos rfl, jcv_ok h.1.1.1 (s_M_goesOn h.1.1 1), jvI_ok, if_pos (by decide)]
theorem m_strikes_ok (h : ModV σ M buf ks gs fs ss E n T W wr be) {j : Nat} (hj : j < 6) : mrs σ M (J_X6_strikes M (nI (j + 1)) σ) 0 (wr.getD j 0) (fun τ => ModV τ M buf ks gs fs ss E n T W wr be) := by
  have h0 := h.th 0
  have hZ := h0.1.2.2.2.2.2
  refine ⟨inS σ M 0 0, ?_, in_0 σ M 0, h.th 0, ai_0 σ M 0⟩
  unfold J_X6_strikes jj
  dsimp only
  rw [jcs_ok ((m_in_P _).1 ⟨j, hj, rfl⟩), jvI_ok, if_neg (by decide), jcv_ok h.1.1.1 (s_M_goesOn h.1.1 0), jvI_ok, if_neg (by decide), nI_pred, mrd h0.1.1 (f := 21) (c := 15) (r := 6) (by decide) hj, hZ.2.2 j hj]
theorem m_strikes_no (h : ModV σ M buf ks gs fs ss E n T W wr be) {x : Int32} (hx : ¬ pinR x) : mrs σ M (J_X6_strikes M x σ) 1 0 (fun τ => ModV τ M buf ks gs fs ss E n T W wr be) := by
  refine ⟨inS σ M 0 1, ?_, in_0 σ M 1, h.th 1, ai_0 σ M 1⟩
  unfold J_X6_strikes jj
  dsimp only
  rw [jcs_ok ((m_in_P x).2 hx), jvI_ok, if_pos rfl, jcv_ok h.1.1.1 (s_M_goesOn h.1.1 1), jvI_ok, if_pos (by decide)]
theorem jrt_c (v : Int32) (σ : Hp) (h : mkc v) : jrt .char v σ = some (.inl (some (.int v)), σ) := by
  have h2 := jrtS (σ := σ) (mkc_nar h)
  rw [mkc_nar h] at h2
  exact h2
theorem m_markOf_ok (h : ModV σ M buf ks gs fs ss E n T W wr be) (C : MCx ks gs fs ss E n T W) {e i j : Nat} (he : e < 2) (hi : i < n) (hj : j < (wd (tX (T i))).length) (hm : mkc ((tM (T i)).getD (2 * j + e) 0)) : mrs σ M (J_X6_markOf M (nI e) (nI i) (nI j) σ) 0 ((tM (T i)).getD (2 * j + e) 0) (fun τ => ModV τ M buf ks gs fs ss E n T W wr be) := by
  have h0 := h.th 0
  have hn := h.1.2.2.2.2.1.1.2
  have hw := (C.2.2.1 i hi).2.2.1
  refine ⟨inS σ M 0 0, ?_, in_0 σ M 0, h.th 0, ai_0 σ M 0⟩
  unfold J_X6_markOf jj
  dsimp only
  rw [jcs_ok ((m_in_2 _).1 ⟨e, he, rfl⟩), jvI_ok, if_neg (by decide), jcv_ok h.1.1.1 ((m_word h.1 C.2.2.1 _ _).1 ⟨i, j, hi, hj, rfl, rfl⟩), jvI_ok, if_neg (by decide), jcv_ok h.1.1.1 (s_M_goesOn h.1.1 0), jvI_ok, if_neg (by decide), e240m, mrd h0.1.1 (f := 19) (c := 14) (r := 480) (by decide) (by omega), h0.2 i hi j e he hj]
  unfold tF
  generalize (tM (T i)).getD (2 * j + e) 0 = m at *
  rcases hm with rfl | rfl | rfl
  · rw [if_pos (by decide), jrt_c _ _ (Or.inl rfl)]
  · rw [if_neg (by decide), if_pos (by decide), jrt_c _ _ (Or.inr (Or.inl rfl))]
  · rw [if_neg (by decide), if_neg (by decide), jrt_c _ _ (Or.inr (Or.inr rfl))]
theorem jrt_c0 (σ : Hp) : jrt .char 0 σ = some (.inl (some (.int 0)), σ) := jrtS (x := 0) (σ := σ) (by decide)
theorem m_markOf_no (h : ModV σ M buf ks gs fs ss E n T W wr be) (C : MCx ks gs fs ss E n T W) {r x y : Int32} (hx : ¬ (inN r 2 ∧ inW x y n T)) : mrs σ M (J_X6_markOf M r x y σ) 1 0 (fun τ => ModV τ M buf ks gs fs ss E n T W wr be) := by
  refine ⟨inS σ M 0 1, ?_, in_0 σ M 1, h.th 1, ai_0 σ M 1⟩
  unfold J_X6_markOf jj
  dsimp only
  by_cases c : inN r 2
  · rw [jcs_ok ((m_in_2 r).1 c), jvI_ok, if_neg (by decide), jcv_ok h.1.1.1 ((m_word h.1 C.2.2.1 _ _).2 (fun z => hx ⟨c, z⟩)), jvI_ok, if_pos rfl, jcv_ok h.1.1.1 (s_M_goesOn h.1.1 1), jvI_ok, if_pos (by decide), jrt_c0]
  · rw [jcs_ok ((m_in_2 r).2 c), jvI_ok, if_pos rfl, jcv_ok h.1.1.1 (s_M_goesOn h.1.1 1), jvI_ok, if_pos (by decide), jrt_c0]
/-- a mark was set -/
def mTx (T : Nat → Tx) (i k : Nat) (v : Int32) : Nat → Tx := fun x => if x = i then (tA (T i), tX (T i), tG (T i), (tM (T i)).set k v, tE (T i)) else T x
theorem m_mark_ok (h : ModV σ M buf ks gs fs ss E n T W wr be) (C : MCx ks gs fs ss E n T W) {e i j : Nat} (he : e < 2) (hi : i < n) (hj : j < (wd (tX (T i))).length) (v : Int32) : mrs σ M (J_X6_mark M (nI e) (nI i) (nI j) v σ) 0 (bI (decide ((tM (T i)).getD (2 * j + (1 - e)) 0 = sgn v))) (fun τ => ModV τ M buf ks gs fs ss E n (mTx T i (2 * j + e) (sgn v)) W wr be) := by
  have h0 := h.th 0
  have hn := h.1.2.2.2.2.1.1.2
  have hw := (C.2.2.1 i hi).2.2.1
  have hml := C.2.2.2.1 i hi
  have hsv : mkm (sgn v) = if v = 0 then 2 else 1 := by
    unfold sgn
    by_cases c : v = 0
    · rw [if_pos c, if_pos c]; decide
    · rw [if_neg c, if_neg c]; decide
  have k19 := h0.1.1.fk (f := 19) (c := 14) (r := 480) (by decide)
  have f19 := h0.1.1.fr (f := 19) (c := 14) (r := 480) (by decide)
  have g1 : ai (qK M) (inS σ M 0 0) (inS (inS σ M 0 0) (M + 14) (240 * e + 40 * i + j) (mkm (sgn v))) := ai_in _ _ rfl
  have hans : ∀ (τ : Hp) (x9 : Int32), x9 = mkm (sgn v) → (if mkm ((tM (T i)).getD (2 * j + (1 - e)) 0) = x9 then jrt .boolean 1 τ else jrt .boolean 0 τ) = some (.inl (some (.int (bI (decide ((tM (T i)).getD (2 * j + (1 - e)) 0 = sgn v))))), τ) := by
    intro τ x9 hx
    subst hx
    have : mkm ((tM (T i)).getD (2 * j + (1 - e)) 0) = mkm (sgn v) ↔ (tM (T i)).getD (2 * j + (1 - e)) 0 = sgn v := by
      rw [hsv]
      unfold sgn
      by_cases c : v = 0
      · rw [if_pos c, if_pos c]; exact mkm_2 _
      · rw [if_neg c, if_neg c]; exact mkm_1 _
    by_cases c : (tM (T i)).getD (2 * j + (1 - e)) 0 = sgn v
    · rw [if_pos (this.mpr c), decide_eq_true c, jrt_1]; rfl
    · rw [if_neg (fun z => c (this.mp z)), decide_eq_false c, jrt_0]; rfl
  have hread : inH (inS (inS σ M 0 0) (M + 14) (240 * e + 40 * i + j) (mkm (sgn v))) (M + 14) (240 * (1 - e) + 40 * i + j) = mkm ((tM (T i)).getD (2 * j + (1 - e)) 0) := by
    rw [in_inS, if_neg (by omega)]
    exact h0.2 i hi j (1 - e) (by omega) hj
  refine ⟨inS (inS σ M 0 0) (M + 14) (240 * e + 40 * i + j) (mkm (sgn v)), ?_, by rw [in_inS, if_neg (by omega)]; exact in_0 σ M 0, ⟨(h0.1.ai (g1.up qK_T)).tr (fun x hx => ?_), ?_⟩, (ai_0 σ M 0).tr (ai_in _ _ ⟨by omega, by omega⟩)⟩
  · unfold J_X6_mark jj
    dsimp only
    rw [jcs_ok ((m_in_2 _).1 ⟨e, he, rfl⟩), jvI_ok, if_neg (by decide), jcv_ok h.1.1.1 ((m_word h.1 C.2.2.1 _ _).1 ⟨i, j, hi, hj, rfl, rfl⟩), jvI_ok, if_neg (by decide), jcv_ok h.1.1.1 (s_M_goesOn h.1.1 0), jvI_ok, if_neg (by decide), show (1 : Int32) - nI e = nI (1 - e) from pk_sub (a := 1) (by omega), e240m, e240m]
    have go : ∀ x9, x9 = mkm (sgn v) → jgR (inS σ M 0 0) M 6 19 (fun r11 => jdr r11 (fun b12 => jsI (inS σ M 0 0) b12 (nI (240 * e + 40 * i + j)) x9 (fun t13 => jgR t13 M 6 19 (fun r14 => jdr r14 (fun b15 => jaI t13 b15 (nI (240 * (1 - e) + 40 * i + j)) (fun x16 => (if x16 = x9 then jrt .boolean 1 t13 else jrt .boolean 0 t13))))))) = some (.inl (some (.int (bI (decide ((tM (T i)).getD (2 * j + (1 - e)) 0 = sgn v))))), inS (inS σ M 0 0) (M + 14) (240 * e + 40 * i + j) (mkm (sgn v))) := by
      intro x9 hx
      rw [jgR_ok h0.1.1.1, f19, jdr_ok, jsI_ok k19 (by omega) (by decide), jgR_ok (by exact h0.1.1.1), rf_inS, f19, jdr_ok, jaI_ok (by exact k19) (by omega) (by decide), hx, hread]
      exact hans _ _ rfl
    by_cases c : v = 0
    · rw [if_pos c]
      exact go 2 (by rw [hsv, if_pos c])
    · rw [if_neg c]
      exact go 1 (by rw [hsv, if_neg c])
  · unfold mTx
    by_cases e : x = i
    · rw [if_pos e, e]; exact ⟨rfl, rfl, rfl⟩
    · rw [if_neg e]; exact ⟨rfl, rfl, rfl⟩
  · intro x hx w e' he' hwl
    have hLx : tL (mTx T i (2 * j + e) (sgn v)) x = tL T x := by
      unfold tL mTx
      by_cases c : x = i
      · rw [if_pos c, c]; rfl
      · rw [if_neg c]
    rw [hLx] at hwl
    have hwx := (C.2.2.1 x hx).2.2.1
    unfold tL at hwl
    rw [in_inS]
    by_cases c : x = i
    · subst c
      have hF : tF (mTx T x (2 * j + e) (sgn v)) x (2 * w + e') = ((tM (T x)).set (2 * j + e) (sgn v)).getD (2 * w + e') 0 := by
        unfold tF mTx
        rw [if_pos rfl]
        rfl
      rw [hF, getD_set (by omega)]
      by_cases c2 : w = j ∧ e' = e
      · rw [if_pos ⟨rfl, by rw [c2.1, c2.2]⟩, if_pos (by omega)]
      · rw [if_neg (by omega), if_neg (by omega)]
        exact h0.2 x hx w e' he' hwl
    · have hF : tF (mTx T i (2 * j + e) (sgn v)) x (2 * w + e') = tF T x (2 * w + e') := by
        unfold tF mTx
        rw [if_neg c]
      rw [hF, if_neg (by omega)]
      exact h0.2 x hx w e' he' hwl
theorem m_mark_no (h : ModV σ M buf ks gs fs ss E n T W wr be) (C : MCx ks gs fs ss E n T W) {r x y : Int32} (v : Int32) (hx : ¬ (inN r 2 ∧ inW x y n T)) : mrs σ M (J_X6_mark M r x y v σ) 1 0 (fun τ => ModV τ M buf ks gs fs ss E n T W wr be) := by
  refine ⟨inS σ M 0 1, ?_, in_0 σ M 1, h.th 1, ai_0 σ M 1⟩
  unfold J_X6_mark jj
  dsimp only
  by_cases c : inN r 2
  · rw [jcs_ok ((m_in_2 r).1 c), jvI_ok, if_neg (by decide), jcv_ok h.1.1.1 ((m_word h.1 C.2.2.1 _ _).2 (fun z => hx ⟨c, z⟩)), jvI_ok, if_pos rfl, jcv_ok h.1.1.1 (s_M_goesOn h.1.1 1), jvI_ok, if_pos (by decide), jrt_0]
  · rw [jcs_ok ((m_in_2 r).2 c), jvI_ok, if_pos rfl, jcv_ok h.1.1.1 (s_M_goesOn h.1.1 1), jvI_ok, if_pos (by decide), jrt_0]
end MODAP
