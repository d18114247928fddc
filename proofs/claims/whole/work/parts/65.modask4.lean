/-! What the model answers: typing, sums. -/
section MODTY
variable {σ : Hp} {M : Nat} {buf ks : List Nat} {gs fs ss : List Int32} {E : List (List Nat)} {n : Nat} {T : Nat → Tx} {W : Nat} {wr : List Int32} {be : Int32}
/-- the buffer alone changes -/
def qBf (M : Nat) : Nat → Nat → Prop := fun a k => a = M + 1 ∨ (a = M ∧ k = 2)
theorem ModV.bf {τ : Hp} {buf' : List Nat} (h : ModV σ M buf ks gs fs ss E n T W wr be) (g : ai (qBf M) σ τ) (hB : MB τ M buf') : ModV τ M buf' ks gs fs ss E n T W wr be := by
  have nP : ∀ k, k ≠ 2 → ¬ qBf M M k := fun k hk z => by unfold qBf at z; omega
  have nP2 : ∀ c k, 2 ≤ c → ¬ qBf M (M + c) k := fun c k hc z => by unfold qBf at z; omega
  obtain ⟨⟨h0, h1, h2, h3, h4, h5⟩, h6⟩ := h
  exact ⟨⟨h0.ai g, hB, h2.ai g (fun k => ⟨nP2 2 k (by omega), nP2 3 k (by omega), nP2 4 k (by omega), nP2 5 k (by omega)⟩) (nP 7 (by omega)), h3.ai g (nP 10 (by omega)) (fun k => ⟨nP2 6 k (by omega), nP2 7 k (by omega)⟩), h4.ai g (nP 14 (by omega)) (fun a k _ _ z => by unfold qBf at z; omega), h5.ai g (nP 15 (by omega)) (nP 20 (by omega)) (fun k => nP2 15 k (by omega))⟩, h6.ai g (fun k => nP2 14 k (by omega))⟩
theorem qBf_A : ∀ a k, qBf M a k → qA M a k := fun a k z => by unfold qBf at z; unfold qA; omega
theorem m_clear (h : ModV σ M buf ks gs fs ss E n T W wr be) : mrs σ M (J_X6_clear M σ) 0 (nI buf.length) (fun τ => ModV τ M [] ks gs fs ss E n T W wr be) := by
  have h0 := h.th 0
  have g : ai (qBf M) (inS σ M 0 0) (inS (inS σ M 0 0) M 2 0) := ai_in _ _ (Or.inr ⟨rfl, rfl⟩)
  refine ⟨inS (inS σ M 0 0) M 2 0, ?_, by rw [in_inS, if_neg (by omega)]; exact in_0 σ M 0, h0.bf g ⟨by rw [in_inS, if_pos ⟨rfl, rfl⟩]; rfl, fun k hk => (Nat.not_lt_zero k hk).elim⟩, (ai_0 σ M 0).tr (g.up qBf_A)⟩
  unfold J_X6_clear
  rw [jpI_ok h.1.1.1, jgI_ok (by exact h.1.1.1), h0.1.2.1.1, jpI_ok (by exact h.1.1.1)]
theorem m_type_no (h : ModV σ M buf ks gs fs ss E n T W wr be) {v : Int32} (hv : ¬ isT v) : mrs σ M (J_X6_type M v σ) 1 0 (fun τ => ModV τ M buf ks gs fs ss E n T W wr be) := by
  refine ⟨inS σ M 0 1, ?_, in_0 σ M 1, h.th 1, ai_0 σ M 1⟩
  unfold J_X6_type jj
  dsimp only
  rw [if_neg (fun z => hv (Or.inl z)), jcs_ok ((m_in_R v 97 122).2 (fun z => hv (Or.inr z))), jvI_ok, if_pos rfl, if_pos rfl, jcv_ok h.1.1.1 (s_M_goesOn h.1.1 1), jvI_ok, if_pos (by decide)]
theorem m_type_t {v : Int32} (hv : isT v) (A B : Hp → jR) : (if v = 32 then A σ else jcs (J_X6_in v 97 122 σ) (fun w20 t19 => jvI w20 (fun x21 => (if x21 = 0 then B t19 else A t19))) (fun E t => some (.inr E, t))) = A σ := by
  by_cases c : v = 32
  · rw [if_pos c]
  · rcases hv with z | z
    · exact (c z).elim
    · rw [if_neg c, jcs_ok ((m_in_R v 97 122).1 z), jvI_ok, if_neg (by decide)]
theorem m_type_full (h : ModV σ M buf ks gs fs ss E n T W wr be) {v : Int32} (hv : isT v) (hb : buf.length = 80) : mrs σ M (J_X6_type M v σ) 2 0 (fun τ => ModV τ M buf ks gs fs ss E n T W wr be) := by
  refine ⟨inS σ M 0 2, ?_, in_0 σ M 2, h.th 2, ai_0 σ M 2⟩
  unfold J_X6_type jj
  dsimp only
  have hx : inH σ M 2 = 80 := by rw [h.1.2.1.1, hb]; decide +kernel
  simp only [show ¬ (1 : Int32) = 0 from by decide, if_false]
  refine (m_type_t (σ := σ) hv _ _).trans ?_
  rw [jgI_ok h.1.1.1, hx, if_pos rfl, jcv_ok h.1.1.1 (s_M_goesOn h.1.1 2), jvI_ok, if_pos (by decide)]
theorem m_type_ok (h : ModV σ M buf ks gs fs ss E n T W wr be) {c : Nat} (hc : c ≤ 26) (hv : isT (bc c)) (hb : buf.length < 80) : mrs σ M (J_X6_type M (bc c) σ) 0 (nI (buf.length + 1)) (fun τ => ModV τ M (buf ++ [c]) ks gs fs ss E n T W wr be) := by
  have h0 := h.th 0
  have k1 := h0.1.1.fk (f := 1) (c := 1) (r := 80) (by decide)
  have f1 := h0.1.1.fr (f := 1) (c := 1) (r := 80) (by decide)
  have g : ai (qBf M) (inS σ M 0 0) (inS (inS (inS σ M 0 0) (M + 1) buf.length (nI c)) M 2 (nI (buf.length + 1))) := (ai_in (Q := qBf M) _ _ (Or.inl rfl)).tr (ai_in (Q := qBf M) _ _ (Or.inr ⟨rfl, rfl⟩))
  refine ⟨inS (inS (inS σ M 0 0) (M + 1) buf.length (nI c)) M 2 (nI (buf.length + 1)), ?_, by rw [in_inS, if_neg (by omega), in_inS, if_neg (by omega)]; exact in_0 σ M 0, h0.bf g ⟨by rw [in_inS, if_pos ⟨rfl, rfl⟩, List.length_append]; rfl, fun k hk => ?_⟩, (ai_0 σ M 0).tr (g.up qBf_A)⟩
  · unfold J_X6_type jj
    dsimp only
    have hx : ¬ nI buf.length = 80 := fun z => by
      have := (nI_eq (a := buf.length) (b := 80) (by omega) (by omega)).mp z
      omega
    simp only [show ¬ (1 : Int32) = 0 from by decide, if_false]
    refine (m_type_t (σ := σ) hv _ _).trans ?_
    rw [jgI_ok h.1.1.1, h.1.2.1.1, if_neg hx, jcv_ok h.1.1.1 (s_M_goesOn h.1.1 0), jvI_ok, if_neg (by decide), jgR_ok h0.1.1.1, jgI_ok h0.1.1.1, f1, h0.1.2.1.1]
    have go : ∀ x, x = nI c → jdr (some (M + 1)) (fun b12 => jsI (inS σ M 0 0) b12 (nI buf.length) x (fun t13 => jgI t13 M 6 2 (fun x14 => jpI t13 M 6 2 (x14 + 1) (fun t15 => jgI t15 M 6 2 (fun x16 => some (.inl (some (.int x16)), t15)))))) = some (.inl (some (.int (nI (buf.length + 1)))), inS (inS (inS σ M 0 0) (M + 1) buf.length (nI c)) M 2 (nI (buf.length + 1))) := by
      intro x hx
      subst hx
      rw [jdr_ok, jsI_ok k1 hb (by decide), jgI_ok (by exact h0.1.1.1), in_inS, if_neg (by omega), h0.1.2.1.1, jpI_ok (by exact h0.1.1.1), nI_1, jgI_ok (by exact h0.1.1.1), in_inS, if_pos ⟨rfl, rfl⟩]
    by_cases e : c = 0
    · subst e
      rw [if_pos (show bc 0 = 32 from rfl)]
      exact go 0 rfl
    · have hbc : bc c = nI (c + 96) := by unfold bc; rw [if_neg e]
      rw [if_neg (fun z => e ((bc_32 hc).mp z))]
      refine go _ ?_
      rw [hbc, show nI (c + 96) - 97 = nI (c + 96 - 97) from pk_sub (b := 97) (by omega), nI_1]
      congr 1
      omega
  · rw [List.length_append] at hk
    simp only [List.length_cons, List.length_nil] at hk
    rw [in_inS, if_neg (by omega), in_inS]
    by_cases e : k = buf.length
    · subst e
      rw [if_pos ⟨rfl, rfl⟩]
      simp [List.getD_eq_getElem?_getD]
    · rw [if_neg (fun z => e z.2), h0.1.2.1.2 k (by omega)]
      congr 1
      simp [List.getD_eq_getElem?_getD, List.getElem?_append_left (show k < buf.length by omega)]
theorem m_isSound (h : ModV σ M buf ks gs fs ss E n T W wr be) : mrs σ M (J_X6_isSound M σ) 0 1 (fun τ => ModV τ M buf ks gs fs ss E n T W wr be) := by
  refine ⟨inS σ M 0 0, ?_, in_0 σ M 0, h.th 0, ai_0 σ M 0⟩
  unfold J_X6_isSound
  rw [jpI_ok h.1.1.1, jrt_1]
theorem m_meanStrikes (h : ModV σ M buf ks gs fs ss E n T W wr be) (hwl : wr.length = 6) : J_X6_meanStrikes M σ = jn64 (FP.ddiv (FP.i2d (wr.foldl (· + ·) 0)) 4618441417868443648) (some (.inl (some (.double (FP.ddiv (FP.i2d (wr.foldl (· + ·) 0)) 4618441417868443648))), inS σ M 0 0)) := by
  have h0 := h.th 0
  have hZ := h0.1.2.2.2.2.2
  have loop : ∀ (d m i : Nat) (s : Int32), 6 - i = d → i ≤ 6 → d < m → J_X6_meanStrikes_L9 m M s (nI i) (inS σ M 0 0) = jn64 (FP.ddiv (FP.i2d ((wr.drop i).foldl (· + ·) s)) 4618441417868443648) (some (.inl (some (.double (FP.ddiv (FP.i2d ((wr.drop i).foldl (· + ·) s)) 4618441417868443648))), inS σ M 0 0)) := by
    intro d
    induction d with
    | zero =>
      intro m i s hd hi hm
      obtain ⟨m, rfl⟩ : ∃ z, m = z + 1 := ⟨m - 1, by omega⟩
      show J_X6_meanStrikes_L9b (J_X6_meanStrikes_L9 m) M s (nI i) (inS σ M 0 0) = _
      unfold J_X6_meanStrikes_L9b
      rw [if_pos (show (6 : Int32) ≤ nI i from nI_le (a := 6) (by omega) (by omega)), List.drop_of_length_le (by omega)]
      rfl
    | succ d ih =>
      intro m i s hd hi hm
      obtain ⟨m, rfl⟩ : ∃ z, m = z + 1 := ⟨m - 1, by omega⟩
      show J_X6_meanStrikes_L9b (J_X6_meanStrikes_L9 m) M s (nI i) (inS σ M 0 0) = _
      unfold J_X6_meanStrikes_L9b
      rw [if_neg (show ¬ (6 : Int32) ≤ nI i from nI_ge (b := 6) (by omega) (by omega)), mrd h0.1.1 (f := 21) (c := 15) (r := 6) (by decide) (by omega), hZ.2.2 i (by omega), nI_1, ih m (i + 1) _ (by omega) (by omega) (by omega), dropI (l := wr) (k := i) (by omega)]
      rfl
  unfold J_X6_meanStrikes
  rw [jpI_ok h.1.1.1]
  have := loop 6 jN 0 0 rfl (by omega) (by unfold jN; omega)
  rw [List.drop_zero] at this
  exact this
theorem m_cks_L1 {ls : List (List Int32)} {j : Nat} (h : MH σ M) (hL : ML σ M ls) (hj : j < ls.length) (v3 : Int32) (kk : Nat → Int64 → Int32 → Int32 → Hp → jR) : ∀ (d m k : Nat) (s : Int64), (ls.getD j []).length - k = d → k ≤ (ls.getD j []).length → d < m → J_X6_checksum_L40 kk m M s v3 (nI j) (nI k) σ = kk M (((ls.getD j []).drop k).foldl sm1 s) v3 (nI j) σ := by
  obtain ⟨l1, l2, l3⟩ := hL
  obtain ⟨n1, n2, n3⟩ := l3 j hj
  intro d
  induction d with
  | zero =>
    intro m k s hd hk hm
    obtain ⟨m, rfl⟩ : ∃ z, m = z + 1 := ⟨m - 1, by omega⟩
    show J_X6_checksum_L40b kk (J_X6_checksum_L40 kk m) M s v3 (nI j) (nI k) σ = _
    unfold J_X6_checksum_L40b
    rw [mrd h (f := 26) (c := 19) (r := 100) (by decide) (by omega), n2, if_pos (nI_le (by omega) (by omega)), List.drop_of_length_le (by omega)]
    rfl
  | succ d ih =>
    intro m k s hd hk hm
    obtain ⟨m, rfl⟩ : ∃ z, m = z + 1 := ⟨m - 1, by omega⟩
    show J_X6_checksum_L40b kk (J_X6_checksum_L40 kk m) M s v3 (nI j) (nI k) σ = _
    unfold J_X6_checksum_L40b
    rw [mrd h (f := 26) (c := 19) (r := 100) (by decide) (by omega), n2, if_neg (nI_ge (by omega) (by omega)), e40, mrd h (f := 25) (c := 18) (r := 4000) (by decide) (by omega), n3 k (by omega), nI_1, ih m (k + 1) _ (by omega) (by omega) (by omega), dropI (l := ls.getD j []) (k := k) (by omega)]
    rfl
theorem m_cks_L2 {ls : List (List Int32)} (h : MH σ M) (hL : ML σ M ls) (v3 : Int32) (kk : Nat → Int64 → Int32 → Hp → jR) : ∀ (d m j : Nat) (s : Int64), ls.length - j = d → j ≤ ls.length → d < m → J_X6_checksum_L28 kk m M s v3 (nI j) σ = kk M ((ls.drop j).flatten.foldl sm1 s) v3 σ := by
  have hl := hL.1
  intro d
  induction d with
  | zero =>
    intro m j s hd hj hm
    obtain ⟨m, rfl⟩ : ∃ z, m = z + 1 := ⟨m - 1, by omega⟩
    show J_X6_checksum_L28b kk (J_X6_checksum_L28 kk m) M s v3 (nI j) σ = _
    unfold J_X6_checksum_L28b
    rw [jgI_ok h.1, hL.2.1, if_pos (nI_le (by omega) (by omega)), List.drop_of_length_le (by omega)]
    rfl
  | succ d ih =>
    intro m j s hd hj hm
    obtain ⟨m, rfl⟩ : ∃ z, m = z + 1 := ⟨m - 1, by omega⟩
    have hn := (hL.2.2 j (by omega)).1
    have ed : ls.drop j = ls.getD j [] :: ls.drop (j + 1) := by
      rw [List.drop_eq_getElem_cons (show j < ls.length by omega)]
      simp [List.getD_eq_getElem?_getD, show j < ls.length by omega]
    show J_X6_checksum_L28b kk (J_X6_checksum_L28 kk m) M s v3 (nI j) σ = _
    unfold J_X6_checksum_L28b
    rw [jgI_ok h.1, hL.2.1, if_neg (nI_ge (by omega) (by omega)), show (0 : Int32) = nI 0 from rfl, m_cks_L1 h hL (by omega) v3 _ _ jN 0 s rfl (Nat.zero_le _) (by unfold jN; omega), nI_1, ih m (j + 1) _ (by omega) (by omega) (by omega), List.drop_zero, ed, List.flatten_cons, List.foldl_append]
theorem m_checksum (h : ModV σ M buf ks gs fs ss E n T W wr be) (C : MCx ks gs fs ss E n T W) : ∃ τ, J_X6_checksum M σ = some (.inl (some (.long (ckD (fun i => (lay W (clO ks gs fs ss E (T i))).flatten) n 0 0))), τ) ∧ ModV τ M buf ks gs fs ss E n T W wr be ∧ ai (qA M) σ τ := by
  have hn := h.1.2.2.2.2.1.1.2
  have loop : ∀ (d m i : Nat) (s : Int64) (σ : Hp), ModV σ M buf ks gs fs ss E n T W wr be → n - i = d → i ≤ n → d < m → ∃ τ, J_X6_checksum_L9 m M s (nI i) σ = some (.inl (some (.long (ckD (fun i => (lay W (clO ks gs fs ss E (T i))).flatten) d i s))), τ) ∧ ModV τ M buf ks gs fs ss E n T W wr be ∧ ai (qA M) σ τ := by
    intro d
    induction d with
    | zero =>
      intro m i s σ h hd hi hm
      obtain ⟨m, rfl⟩ : ∃ z, m = z + 1 := ⟨m - 1, by omega⟩
      refine ⟨σ, ?_, h, ai.rf⟩
      show J_X6_checksum_L9b (J_X6_checksum_L9 m) M s (nI i) σ = _
      unfold J_X6_checksum_L9b
      rw [jgI_ok h.1.1.1, h.1.2.2.2.2.1.1.1, if_pos (nI_le (by omega) (by omega))]
      rfl
    | succ d ih =>
      intro m i s σ h hd hi hm
      obtain ⟨m, rfl⟩ : ∃ z, m = z + 1 := ⟨m - 1, by omega⟩
      have hin : i < n := by omega
      obtain ⟨τ, a1, a2, a3, a4⟩ := m_brk h C hin (-1)
      obtain ⟨υ, b1, b2, b3⟩ := ih m (i + 1) ((lay W (clO ks gs fs ss E (T i))).flatten.foldl sm1 s) τ a3 (by omega) (by omega) (by omega)
      refine ⟨υ, ?_, b2, (a4.up qS_A).tr b3⟩
      have hl60 := a2.1
      show J_X6_checksum_L9b (J_X6_checksum_L9 m) M s (nI i) σ = _
      unfold J_X6_checksum_L9b
      have hc := m_cks_L2 a3.1.1 a2 (nI i) (fun (x18 : Nat) (x19 : Int64) (x20 : Int32) (t21 : Hp) => J_X6_checksum_L9 m x18 x19 (x20 + 1) t21) (lay W (clO ks gs fs ss E (T i))).length jN 0 s rfl (Nat.zero_le _) (by unfold jN; omega)
      rw [jgI_ok h.1.1.1, h.1.2.2.2.2.1.1.1, if_neg (nI_ge hin (by omega)), jcv_ok h.1.1.1 a1, jvI_ok]
      refine (show _ = _ from hc).trans ?_
      rw [List.drop_zero, nI_1]
      exact b1
  obtain ⟨τ, a1, a2, a3⟩ := loop n jN 0 0 (inS σ M 0 0) (h.th 0) rfl (Nat.zero_le _) (by unfold jN; omega)
  refine ⟨τ, ?_, a2, (ai_0 σ M 0).tr a3⟩
  unfold J_X6_checksum
  rw [jpI_ok h.1.1.1]
  exact a1
end MODTY
