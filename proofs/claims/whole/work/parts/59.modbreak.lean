/-! The model breaks a text into lines. -/
/-- in which line the word begins that is asked for -/
def fndD (W : Nat) (v : Int32) : List (List Int32) × List Int32 → List (List Int32) → Nat → Int32 → Int32
  | _, [], _, f => f
  | a, c :: cs, j, f => fndD W v (layW W a c) cs (j + 1) (if nI j = v then nI (begW W a c.length).1.length else f)
theorem fndD_no {W q : Nat} (hq : q < 2 ^ 30) : ∀ (cs : List (List Int32)) (a : List (List Int32) × List Int32) (j : Nat) (f : Int32), q < j → j + cs.length < 2 ^ 30 → fndD W (nI q) a cs j f = f
  | [], _, _, _, _, _ => rfl
  | c :: cs, a, j, f, h, hb => by
    rw [List.length_cons] at hb
    unfold fndD
    rw [fndD_no hq cs _ (j + 1) _ (by omega) (by omega), if_neg (fun z => by have := (nI_eq (by omega) (by omega)).mp z; omega)]
theorem fndD_at {W q : Nat} (hq : q < 2 ^ 30) : ∀ (cs : List (List Int32)) (a : List (List Int32) × List Int32) (j : Nat) (f : Int32), j ≤ q → q < j + cs.length → j + cs.length < 2 ^ 30 → fndD W (nI q) a cs j f = (flS W a cs).getD (q - j) 0
  | [], _, j, _, h, h2, _ => by simp at h2; omega
  | c :: cs, a, j, f, h, h2, hb => by
    rw [List.length_cons] at hb h2
    unfold fndD flS
    by_cases e : j = q
    · subst e
      rw [if_pos rfl, fndD_no hq cs _ (j + 1) _ (by omega) (by omega), Nat.sub_self]
      rfl
    · rw [fndD_at hq cs _ (j + 1) _ (by omega) (by omega) (by omega), show q - j = (q - (j + 1)) + 1 by omega, List.getD_cons_succ]
theorem addC_ne (W : Nat) (a : List (List Int32) × List Int32) (c : Int32) : (addC W a c).2 ≠ [] := by
  unfold addC
  split <;> simp
theorem addsC_ne (W : Nat) : ∀ (c : List Int32) (a : List (List Int32) × List Int32), (c ≠ [] ∨ a.2 ≠ []) → (c.foldl (addC W) a).2 ≠ []
  | [], a, h => by
    rcases h with h | h
    · exact (h rfl).elim
    · exact h
  | x :: c, a, _ => by
    rw [List.foldl_cons]
    exact addsC_ne W c _ (Or.inr (addC_ne W a x))
theorem cutP_ne {ps : List (List Int32)} {u : List Int32} (h : u ≠ []) : cutP ps u = ps ++ [u] := by
  unfold cutP
  rw [if_neg h]
section MODBR
variable {M : Nat} {buf ks : List Nat} {gs fs ss : List Int32} {E : List (List Nat)} {n : Nat} {T : Nat → Tx} {W : Nat} {wr : List Int32} {be : Int32}
theorem clO_pos {i j : Nat} (hW : WdI (wd (tX (T i)))) (hj : j < (wd (tX (T i))).length) : 1 ≤ ((clO ks gs fs ss E (T i)).getD j []).length := by
  rw [clO_get hj]
  exact (trC_b ks gs fs ss E (tG (T i)) (hW.1 _ (getl_mem hj)).2).1
theorem m_brk_L2 (hI : RubI ks gs fs ss E) (hss : ∀ s ∈ ss, ¬ s < 0) (hW8 : 8 ≤ W) (hW40 : W ≤ 40) {i : Nat} (hi : i < n) (hW : WdI (wd (tX (T i)))) (v : Int32) : ∀ (d m j : Nat) (f : Int32) (σ : Hp) (a : List (List Int32) × List Int32), ModA σ M buf ks gs fs ss E n T W wr be → ML σ M (cutP a.1 a.2) → ((j = 0 ∧ a = ([], [])) ∨ a.2 ≠ []) → LB W j (sz (clO ks gs fs ss E (T i)) j + (j - 1)) a → (wd (tX (T i))).length - j = d → j ≤ (wd (tX (T i))).length → d < m → ∃ τ, J_X6_breaks_L17 m M (nI i) v f (nI (wd (tX (T i))).length) (nI j) σ = some (.inl (some (.int (fndD W v a ((clO ks gs fs ss E (T i)).drop j) j f))), τ) ∧ ML τ M (cutP (((clO ks gs fs ss E (T i)).drop j).foldl (layW W) a).1 (((clO ks gs fs ss E (T i)).drop j).foldl (layW W) a).2) ∧ ai (qS M) σ τ := by
  obtain ⟨hc1, hc2, hc3⟩ := cl_cap ks gs fs ss E hW
  intro d
  induction d with
  | zero =>
    intro m j f σ a h hL ha hB hd hj hm
    obtain ⟨m, rfl⟩ : ∃ z, m = z + 1 := ⟨m - 1, by omega⟩
    rw [List.drop_of_length_le (by omega)]
    refine ⟨σ, ?_, hL, ai.rf⟩
    show J_X6_breaks_L17b (J_X6_breaks_L17 m) M (nI i) v f (nI _) (nI j) σ = _
    unfold J_X6_breaks_L17b
    rw [if_pos (nI_le (by omega) (by omega))]
    rfl
  | succ d ih =>
    intro m j f σ a h hL ha hB hd hj hm
    obtain ⟨m, rfl⟩ : ∃ z, m = z + 1 := ⟨m - 1, by omega⟩
    have hjw : j < (wd (tX (T i))).length := by omega
    have hpos := clO_pos (ks := ks) (gs := gs) (fs := fs) (ss := ss) (E := E) hW hjw
    have hpl := pc_len_le (clO ks gs fs ss E (T i)) j
    have hs := sz_succ (clO ks gs fs ss E (T i)) j
    have hle := sz_le (clO ks gs fs ss E (T i)) (j + 1)
    obtain ⟨τ, a1, a2, a3⟩ := m_tr h hI hss hi hjw
    have hA := h.ai (a3.up qW_T)
    have hL1 : ML τ M (cutP a.1 a.2) := hL.ai a3 (fun z => by unfold qW at z; omega) (fun k => ⟨fun z => by unfold qW at z; omega, fun z => by unfold qW at z; omega⟩)
    have ed : (clO ks gs fs ss E (T i)).drop j = (clO ks gs fs ss E (T i)).getD j [] :: (clO ks gs fs ss E (T i)).drop (j + 1) := by
      rw [List.drop_eq_getElem_cons (by omega)]
      simp [List.getD_eq_getElem?_getD, show j < (clO ks gs fs ss E (T i)).length by omega]
    have hB' : LB W (j + 1) (sz (clO ks gs fs ss E (T i)) (j + 1) + (j + 1 - 1)) (layW W a ((clO ks gs fs ss E (T i)).getD j [])) := by
      have := hB.lay hW8 ((clO ks gs fs ss E (T i)).getD j [])
      have e : sz (clO ks gs fs ss E (T i)) j + (j - 1) + (if j = 0 then 0 else 1) + ((clO ks gs fs ss E (T i)).getD j []).length = sz (clO ks gs fs ss E (T i)) (j + 1) + (j + 1 - 1) := by
        split
        · rename_i h; subst h; omega
        · omega
      rwa [e] at this
    have hbI : LI W (j + 1) (sz (clO ks gs fs ss E (T i)) j + j) (begW W a ((clO ks gs fs ss E (T i)).getD j []).length) := by
      have := hB.beg hW8 ((clO ks gs fs ss E (T i)).getD j []).length
      have e : sz (clO ks gs fs ss E (T i)) j + (j - 1) + (if j = 0 then 0 else 1) = sz (clO ks gs fs ss E (T i)) j + j := by
        split
        · rename_i h; subst h; omega
        · omega
      rwa [e] at this
    rw [ed, List.foldl_cons]
    unfold fndD
    generalize hc : (clO ks gs fs ss E (T i)).getD j [] = c at *
    have fin : ∀ (σ2 : Hp), MH σ2 M → inH σ2 M 15 = nI W → MWd σ2 M c → ML σ2 M ((begW W a c.length).1 ++ [(begW W a c.length).2]) → ai (qL M) τ σ2 → ∃ υ, (if nI j = v then jgI σ2 M 6 27 (fun x34 => J_X6_breaks_L107 (fun (x27 : Nat) (x28 : Int32) (x29 : Int32) (x30 : Int32) (x31 : Int32) (x32 : Int32) (t33 : Hp) => J_X6_breaks_L17 m x27 x28 x29 x30 x31 (x32 + 1) t33) jN M (nI i) v (x34 - 1) (nI (wd (tX (T i))).length) (nI j) 0 σ2) else J_X6_breaks_L107 (fun (x27 : Nat) (x28 : Int32) (x29 : Int32) (x30 : Int32) (x31 : Int32) (x32 : Int32) (t33 : Hp) => J_X6_breaks_L17 m x27 x28 x29 x30 x31 (x32 + 1) t33) jN M (nI i) v f (nI (wd (tX (T i))).length) (nI j) 0 σ2) = some (.inl (some (.int (fndD W v (layW W a c) ((clO ks gs fs ss E (T i)).drop (j + 1)) (j + 1) (if nI j = v then nI (begW W a c.length).1.length else f)))), υ) ∧ ML υ M (cutP (((clO ks gs fs ss E (T i)).drop (j + 1)).foldl (layW W) (layW W a c)).1 (((clO ks gs fs ss E (T i)).drop (j + 1)).foldl (layW W) (layW W a c)).2) ∧ ai (qS M) σ υ := by
      intro σ2 h2 hw2 hA2 hL2 hg2
      have go : ∀ f', ∃ υ, J_X6_breaks_L107 (fun (x27 : Nat) (x28 : Int32) (x29 : Int32) (x30 : Int32) (x31 : Int32) (x32 : Int32) (t33 : Hp) => J_X6_breaks_L17 m x27 x28 x29 x30 x31 (x32 + 1) t33) jN M (nI i) v f' (nI (wd (tX (T i))).length) (nI j) 0 σ2 = some (.inl (some (.int (fndD W v (layW W a c) ((clO ks gs fs ss E (T i)).drop (j + 1)) (j + 1) f'))), υ) ∧ ML υ M (cutP (((clO ks gs fs ss E (T i)).drop (j + 1)).foldl (layW W) (layW W a c)).1 (((clO ks gs fs ss E (T i)).drop (j + 1)).foldl (layW W) (layW W a c)).2) ∧ ai (qS M) σ υ := by
        intro f'
        obtain ⟨υ, b1, b2, b3⟩ := m_brk_L1 hW8 hW40 (K := j + 1) (by omega) (by omega) (nI i) v f' (nI (wd (tX (T i))).length) (nI j) (fun (x27 : Nat) (x28 : Int32) (x29 : Int32) (x30 : Int32) (x31 : Int32) (x32 : Int32) (t33 : Hp) => J_X6_breaks_L17 m x27 x28 x29 x30 x31 (x32 + 1) t33) c.length jN 0 (sz (clO ks gs fs ss E (T i)) j + j) σ2 _ h2 hw2 hA2 hL2 hbI (by omega) rfl (Nat.zero_le _) (by unfold jN; omega)
        rw [List.drop_zero] at b2
        have hne : (layW W a c).2 ≠ [] := by
          unfold layW
          exact addsC_ne W c _ (Or.inl (fun z => by rw [z] at hpos; simp at hpos))
        have b2' : ML υ M (cutP (layW W a c).1 (layW W a c).2) := by
          rw [cutP_ne hne]
          exact b2
        obtain ⟨φ, c1, c2, c3⟩ := ih m (j + 1) f' υ (layW W a c) ((hA.ai (hg2.up qL_T)).ai (b3.up qL_T)) b2' (Or.inr hne) hB' (by omega) (by omega) (by omega)
        refine ⟨φ, ?_, c2, (a3.up qW_S).tr ((hg2.up qL_S).tr ((b3.up qL_S).tr c3))⟩
        rw [← c1, ← nI_1]
        exact b1
      by_cases e : nI j = v
      · rw [if_pos e, if_pos e, jgI_ok h2.1, hL2.2.1, getl_len, nI_pred]
        exact go _
      · rw [if_neg e, if_neg e]
        exact go f
    have h15 := hA.2.2.2.2.2.1
    have hbg : ∃ σ2, J_X6_begins M τ = some (.inl none, σ2) ∧ ML σ2 M (cutP a.1 a.2 ++ [[]]) ∧ ai (qL M) τ σ2 := by
      refine m_begins hA.1 hL1 ?_
      rcases ha with ⟨_, e⟩ | e
      · rw [e]; simp [cutP]
      · rw [cutP_ne e, getl_len]
        rcases hB with ⟨_, e'⟩ | ⟨h1, h2, h3, h4, h5⟩
        · rw [e'] at e; exact (e rfl).elim
        · have : 1 ≤ a.2.length := List.length_pos_iff.mpr e
          omega
    show ∃ υ, J_X6_breaks_L17b (J_X6_breaks_L17 m) M (nI i) v f (nI _) (nI j) σ = _ ∧ _
    unfold J_X6_breaks_L17b jj
    dsimp only
    rw [if_neg (nI_ge hjw (by omega)), jcv_ok h.1.1 a1, jvV_ok, jgI_ok hA.1.1, hL1.2.1]
    have k0 : ∀ σ2, ai (qL M) τ σ2 → MH σ2 M ∧ inH σ2 M 15 = nI W ∧ MWd σ2 M c := fun σ2 hg => ⟨hA.1.ai hg, by rw [hg.i (fun z => by unfold qL at z; omega)]; exact h15, a2.ai hg (fun z => by unfold qL at z; omega) (fun k z => by unfold qL at z; omega)⟩
    by_cases e : a.2 = []
    · have he : a = ([], []) := by
        rcases ha with z | z
        · exact z.2
        · exact (z e).elim
      obtain ⟨σ2, g1, g2, g3⟩ := hbg
      obtain ⟨q1, q2, q3⟩ := k0 σ2 g3
      rw [if_pos (by rw [he]; decide), if_pos rfl, jcv_ok hA.1.1 g1, jvV_ok]
      refine fin σ2 q1 q2 q3 ?_ g3
      unfold begW
      rw [if_neg (fun z => z.1 e)]
      exact g2
    · have hcl : (cutP a.1 a.2).length = a.1.length + 1 := by rw [cutP_ne e, getl_len]
      have hLn := hL1.2.2 a.1.length (by omega)
      have hLe : (cutP a.1 a.2).getD a.1.length [] = a.2 := by rw [cutP_ne e, getl_e]
      rw [hLe] at hLn
      have h60 := hL1.1
      have h26 := hA.1.fr (f := 26) (c := 19) (r := 100) (by decide)
      have k26 := hA.1.fk (f := 26) (c := 19) (r := 100) (by decide)
      rw [if_neg (nI_nle (by omega) (by omega)), jgR_ok hA.1.1, jgI_ok hA.1.1, h26, jdr_ok, hL1.2.1, hcl, nI_pred, jaI_ok k26 (by omega) (by decide), hLn.2.1, jgI_ok hA.1.1, a2.1, jgI_ok hA.1.1, h15, nI_1, nI_add]
      by_cases c4 : a.2.length + 1 + c.length ≤ W
      · have hL3 : ML τ M (a.1 ++ [a.2]) := by rw [← cutP_ne e]; exact hL1
        obtain ⟨σ2, g1, g2, g3⟩ := m_adds hA.1 hL3 (by omega) 0
        obtain ⟨q1, q2, q3⟩ := k0 σ2 g3
        rw [if_neg (nI_nlt (by omega) (by omega)), if_neg (by decide), jcv_ok hA.1.1 g1, jvV_ok]
        refine fin σ2 q1 q2 q3 ?_ g3
        unfold begW
        rw [if_pos ⟨e, c4⟩]
        exact g2
      · obtain ⟨σ2, g1, g2, g3⟩ := hbg
        obtain ⟨q1, q2, q3⟩ := k0 σ2 g3
        have hl40 := hLn.1
        rw [if_pos (nI_lt (by omega) (by omega)), if_pos rfl, jcv_ok hA.1.1 g1, jvV_ok]
        refine fin σ2 q1 q2 q3 ?_ g3
        unfold begW
        rw [if_neg (fun z => c4 z.2)]
        exact g2
theorem m_breaks {σ : Hp} (hI : RubI ks gs fs ss E) (hss : ∀ s ∈ ss, ¬ s < 0) (hW8 : 8 ≤ W) (hW40 : W ≤ 40) {i : Nat} (hi : i < n) (hW : WdI (wd (tX (T i)))) (h : ModA σ M buf ks gs fs ss E n T W wr be) (v : Int32) : ∃ τ, J_X6_breaks M (nI i) v σ = some (.inl (some (.int (fndD W v ([], []) (clO ks gs fs ss E (T i)) 0 (-1)))), τ) ∧ ML τ M (lay W (clO ks gs fs ss E (T i))) ∧ ai (qS M) σ τ := by
  have g0 : ai (qL M) σ (inS σ M 27 0) := ai_in σ 0 (Or.inr (Or.inr ⟨rfl, rfl⟩))
  obtain ⟨τ, a1, a2, a3⟩ := m_brk_L2 hI hss hW8 hW40 hi hW v (wd (tX (T i))).length jN 0 (-1) (inS σ M 27 0) ([], []) (h.ai (g0.up qL_T)) ⟨Nat.zero_le _, by rw [in_inS, if_pos ⟨rfl, rfl⟩]; rfl, fun j hj => (Nat.not_lt_zero j hj).elim⟩ (Or.inl ⟨rfl, rfl⟩) (Or.inl ⟨rfl, rfl⟩) rfl (Nat.zero_le _) (by have := hW.2.2.1; unfold jN; omega)
  rw [List.drop_zero] at a1 a2
  refine ⟨τ, ?_, a2, (g0.up qL_S).tr a3⟩
  unfold J_X6_breaks
  rw [jcv_ok h.1.1 (m_words h hi), jvI_ok, jpI_ok h.1.1]
  exact a1
end MODBR
