/-! A text typed: its words, and its marks. -/
/-- a letter or a blank as the class's buffer has it -/
def bc (c : Nat) : Int32 := nI (if c = 0 then 32 else c + 96)
def cutN (ps : List (List Nat)) (u : List Nat) : List (List Nat) := if u = [] then ps else ps ++ [u]
def stT (a : List (List Nat) × List Nat) (c : Nat) : List (List Nat) × List Nat := if c = 0 then (cutN a.1 a.2, []) else (a.1, a.2 ++ [c])
def wdS (t : List Nat) : List (List Nat) × List Nat := t.foldl stT ([], [])
/-- the words of what is typed -/
def wd (t : List Nat) : List (List Nat) := cutN (wdS t).1 (wdS t).2
theorem wdS_snoc (t : List Nat) (c : Nat) : wdS (t ++ [c]) = stT (wdS t) c := by simp [wdS, List.foldl_append]
def WI (k : Nat) (a : List (List Nat) × List Nat) : Prop := a.1.flatten.length + a.2.length + a.1.length ≤ k ∧ (∀ w ∈ a.1, lts w ∧ 1 ≤ w.length) ∧ lts a.2 ∧ a.1.length ≤ a.1.flatten.length
theorem cutN_I {ps : List (List Nat)} {u : List Nat} (h : ∀ w ∈ ps, lts w ∧ 1 ≤ w.length) (hu : lts u) (hl : ps.length ≤ ps.flatten.length) : (∀ w ∈ cutN ps u, lts w ∧ 1 ≤ w.length) ∧ (cutN ps u).flatten.length = ps.flatten.length + u.length ∧ (cutN ps u).length ≤ (cutN ps u).flatten.length ∧ (cutN ps u).length ≤ ps.length + 1 ∧ ((cutN ps u).length = ps.length ∨ 1 ≤ u.length) := by
  unfold cutN
  by_cases e : u = []
  · rw [if_pos e, e]
    exact ⟨h, by simp, hl, by omega, Or.inl rfl⟩
  · have hp : 0 < u.length := List.length_pos_iff.mpr e
    rw [if_neg e]
    refine ⟨fun w hw => ?_, by simp, by rw [List.flatten_append, List.length_append, List.length_append]; simp only [List.flatten_cons, List.flatten_nil, List.append_nil, List.length_cons, List.length_nil]; omega, by simp, Or.inr hp⟩
    rcases List.mem_append.mp hw with z | z
    · exact h w z
    · rw [List.mem_singleton.mp z]
      exact ⟨hu, hp⟩
theorem WI.step {k : Nat} {a : List (List Nat) × List Nat} (h : WI k a) {c : Nat} (hc : c ≤ 26) : WI (k + 1) (stT a c) := by
  obtain ⟨h1, h2, h3, h4⟩ := h
  unfold stT WI
  by_cases e : c = 0
  · rw [if_pos e]
    obtain ⟨i1, i2, i3, i4, i5⟩ := cutN_I h2 h3 h4
    exact ⟨by simp only [List.length_nil]; omega, i1, fun c hc => by simp at hc, i3⟩
  · rw [if_neg e]
    refine ⟨by rw [List.length_append]; simp only [List.length_cons, List.length_nil]; omega, h2, fun x hx => ?_, h4⟩
    rcases List.mem_append.mp hx with z | z
    · exact h3 x z
    · rw [List.mem_singleton.mp z]; omega
theorem WI.all : ∀ (t : List Nat) (k : Nat) (a : List (List Nat) × List Nat), (∀ c ∈ t, c ≤ 26) → WI k a → WI (k + t.length) (t.foldl stT a)
  | [], _, _, _, h => h
  | c :: t, k, a, hc, h => by
    rw [List.foldl_cons, List.length_cons, show k + (t.length + 1) = k + 1 + t.length by omega]
    exact WI.all t (k + 1) _ (fun x hx => hc x (List.mem_cons_of_mem _ hx)) (h.step (hc c (List.mem_cons_self ..)))
theorem wdS_I {t : List Nat} (h : ∀ c ∈ t, c ≤ 26) : WI t.length (wdS t) := by
  have := WI.all t 0 ([], []) h ⟨by simp, fun w hw => by simp at hw, fun c hc => by simp at hc, by simp⟩
  rwa [Nat.zero_add] at this
/-- what holds of the words of a text -/
def WdI (ws : List (List Nat)) : Prop := (∀ w ∈ ws, lts w ∧ 1 ≤ w.length) ∧ ws.flatten.length + ws.length ≤ 81 ∧ ws.length ≤ 40 ∧ ws.flatten.length ≤ 80
theorem wd_I {t : List Nat} (h : ∀ c ∈ t, c ≤ 26) (hl : t.length ≤ 80) : WdI (wd t) := by
  obtain ⟨h1, h2, h3, h4⟩ := wdS_I h
  obtain ⟨i1, i2, i3, i4, i5⟩ := cutN_I h2 h3 h4
  exact ⟨i1, by unfold wd; omega, by unfold wd; omega, by unfold wd; omega⟩
theorem map_fl (ps : List (List Nat)) : (ps.map (List.map ch)).flatten = ps.flatten.map ch := by
  induction ps with
  | nil => rfl
  | cons p ps ih => rw [List.map_cons, List.flatten_cons, ih, List.flatten_cons, List.map_append]
theorem cutN_map (ps : List (List Nat)) (u : List Nat) : (cutN ps u).map (List.map ch) = cutP (ps.map (List.map ch)) (u.map ch) := by
  unfold cutN cutP
  by_cases e : u = []
  · rw [if_pos e, if_pos (by rw [e]; rfl)]
  · rw [if_neg e, if_neg (by simpa using e)]
    simp
theorem s_T_take_L1 {t pr : Nat} {g : Int32} {n : Nat} (hn : n ≤ 40) : ∀ (d m k : Nat) (σ : Hp) (mk : List Int32) (ps : List (List Int32)), TxtH σ t g → PieV σ (t + 1) 40 pr ps [] → ps.length = n → RowV σ (t + 11) 80 mk → mk = List.replicate k 45 → 2 * n - k = d → k ≤ 2 * n → d < m → ∃ τ, J_X4_take_L76 m t (nI k) σ = some (.inl none, τ) ∧ RowV τ (t + 11) 80 (List.replicate (2 * n) 45) ∧ ag (rw2 (t + 11)) σ τ := by
  intro d
  induction d with
  | zero =>
    intro m k σ mk ps hT hp hpn hk e hd hkn hm
    obtain ⟨m, rfl⟩ : ∃ z, m = z + 1 := ⟨m - 1, by omega⟩
    obtain ⟨k0, ⟨r0, r1, r2, r3, r4, r5⟩, k1⟩ := hT
    refine ⟨σ, ?_, by rw [e, show k = 2 * n by omega] at hk; exact hk, ag.rf⟩
    show J_X4_take_L76b (J_X4_take_L76 m) t (nI k) σ = _
    unfold J_X4_take_L76b
    rw [jgR_ok k0, r0, jdr_ok, jcv_ok hp.1 (s_P_count hp), jvI_ok, hpn, show (2 : Int32) * nI n = nI (2 * n) from pk_mul 2 n, if_pos (nI_le (by omega) (by omega))]
  | succ d ih =>
    intro m k σ mk ps hT hp hpn hk e hd hkn hm
    obtain ⟨m, rfl⟩ : ∃ z, m = z + 1 := ⟨m - 1, by omega⟩
    have hTT := hT
    obtain ⟨k0, ⟨r0, r1, r2, r3, r4, r5⟩, k1⟩ := hT
    obtain ⟨τ, a1, a2, a3⟩ := s_add hk (by rw [e, List.length_replicate]; omega) 45
    obtain ⟨υ, u1, u2, u3⟩ := ih m (k + 1) τ _ ps (hTT.keep a3 (fun z => by unfold rw2 at z; omega)) (hp.keep a3 (fun q z y => by unfold rw2 at z; unfold rg at y; omega)) hpn a2 (by rw [e]; exact List.replicate_succ'.symm) (by omega) (by omega) (by omega)
    refine ⟨υ, ?_, u2, a3.tr u3⟩
    show J_X4_take_L76b (J_X4_take_L76 m) t (nI k) σ = _
    unfold J_X4_take_L76b
    rw [jgR_ok k0, r0, jdr_ok, jcv_ok hp.1 (s_P_count hp), jvI_ok, hpn, show (2 : Int32) * nI n = nI (2 * n) from pk_mul 2 n, if_neg (nI_ge (by omega) (by omega)), jgR_ok k0, r2, jdr_ok, jcv_ok hk.1 a1, jvV_ok, nI_1]
    exact u1
theorem bc_32 {c : Nat} (h : c ≤ 26) : bc c = 32 ↔ c = 0 := by
  unfold bc
  have := nI_eq (a := if c = 0 then 32 else c + 96) (b := 32) (by split <;> omega) (by omega)
  refine this.trans ?_
  split <;> omega
theorem bc_ch {c : Nat} (h : c ≠ 0) : bc c = ch c := by
  unfold bc ch
  rw [if_neg h]
theorem s_T_take_L2 {t q : Nat} {g : Int32} {tx : List Nat} (htx : ∀ c ∈ tx, c ≤ 26) (ht8 : tx.length ≤ 80) (hq : ¬ rg t 25 q) (hq' : ¬ rg t 25 (q + 1)) : ∀ (d m k : Nat) (σ : Hp) (mk : List Int32), TxtH σ t g → RowV σ q 80 (tx.map bc) → PieV σ (t + 1) 40 80 ((wdS (tx.take k)).1.map (List.map ch)) ((wdS (tx.take k)).2.map ch) → RowV σ (t + 11) 80 mk → tx.length - k = d → k ≤ tx.length → d < m → ∃ τ, J_X4_take_L14 m t q (nI k) σ = some (.inl none, τ) ∧ PieV τ (t + 1) 40 80 ((wd tx).map (List.map ch)) [] ∧ RowV τ (t + 11) 80 (List.replicate (2 * (wd tx).length) 45) ∧ ag (fun q => rg (t + 1) 5 q ∨ rw2 (t + 11) q) σ τ := by
  have nq : ∀ q', ¬ rg t 25 q' → ¬ rg (t + 1) 5 q' := fun q' z y => z (by unfold rg at y ⊢; omega)
  intro d
  induction d with
  | zero =>
    intro m k σ mk hT hr hp hmk hd hk hm
    obtain ⟨m, rfl⟩ : ∃ z, m = z + 1 := ⟨m - 1, by omega⟩
    have hTT := hT
    obtain ⟨k0, ⟨r0, r1, r2, r3, r4, r5⟩, k1⟩ := hT
    rw [List.take_of_length_le (by omega)] at hp
    obtain ⟨h1, h2, h3, h4⟩ := wdS_I htx
    obtain ⟨i1, i2, i3, i4⟩ := wd_I htx ht8
    obtain ⟨τ, a1, a2, a3⟩ := s_P_cut hp (fun z => by
      rw [List.length_map]
      have : 0 < (wdS tx).2.length := List.length_pos_iff.mpr (fun y => z (by rw [y]; rfl))
      omega)
    rw [← cutN_map] at a2
    have nt : ¬ rg (t + 1) 5 t := fun z => by unfold rg at z; omega
    have T1 := hTT.keep a3 nt
    have M1 := hmk.keep a3 (fun z => by unfold rg at z; omega) (fun z => by unfold rg at z; omega)
    obtain ⟨υ, b1, b2, b3⟩ := s_empty M1
    have nt' : ¬ rw2 (t + 11) t := fun z => by unfold rw2 at z; omega
    have np : ∀ q, rw2 (t + 11) q → ¬ rg (t + 1) 5 q := fun q z y => by unfold rw2 at z; unfold rg at y; omega
    have P2 := a2.keep b3 np
    obtain ⟨φ, c1, c2, c3⟩ := s_T_take_L1 i3 (2 * (wd tx).length) jN 0 υ [] _ (T1.keep b3 nt') P2 (by rw [List.length_map]; rfl) b2 rfl rfl (Nat.zero_le _) (by unfold jN; omega)
    obtain ⟨y0, ⟨_, _, y2, _, _, _⟩, _⟩ := T1
    refine ⟨φ, ?_, P2.keep c3 np, c2, (a3.up (fun q z => Or.inl z)).tr ((b3.up (fun q z => Or.inr z)).tr (c3.up (fun q z => Or.inr z)))⟩
    show J_X4_take_L14b (J_X4_take_L14 m) t q (nI k) σ = _
    unfold J_X4_take_L14b
    rw [jcv_ok hr.1 (s_count hr), jvI_ok, List.length_map, if_pos (nI_le (by omega) (by omega)), jgR_ok k0, r0, jdr_ok, jcv_ok hp.1 a1, jvV_ok, jgR_ok y0, y2, jdr_ok, jcv_ok M1.1 b1, jvV_ok]
    exact c1
  | succ d ih =>
    intro m k σ mk hT hr hp hmk hd hk hm
    obtain ⟨m, rfl⟩ : ∃ z, m = z + 1 := ⟨m - 1, by omega⟩
    have hTT := hT
    obtain ⟨k0, ⟨r0, r1, r2, r3, r4, r5⟩, k1⟩ := hT
    have htk : ∀ c ∈ tx.take k, c ≤ 26 := fun c hc => htx c (List.mem_of_mem_take hc)
    obtain ⟨h1, h2, h3, h4⟩ := wdS_I htk
    have hkl : (tx.take k).length = k := by rw [List.length_take]; omega
    have hc26 := htx _ (getD_mem 0 (show k < tx.length by omega))
    have esn : tx.take (k + 1) = tx.take k ++ [tx.getD k 0] := by
      rw [List.take_add_one]
      simp [List.getD_eq_getElem?_getD, show k < tx.length by omega]
    have nt : ¬ rg (t + 1) 5 t := fun z => by unfold rg at z; omega
    have hstep : ∃ τ, J_X4_take_L14 (m + 1) t q (nI k) σ = J_X4_take_L14 m t q (nI k + 1) τ ∧ PieV τ (t + 1) 40 80 ((wdS (tx.take (k + 1))).1.map (List.map ch)) ((wdS (tx.take (k + 1))).2.map ch) ∧ ag (rg (t + 1) 5) σ τ := by
      rw [esn, wdS_snoc]
      show ∃ τ, J_X4_take_L14b (J_X4_take_L14 m) t q (nI k) σ = _ ∧ _
      unfold J_X4_take_L14b jj
      dsimp only
      rw [jcv_ok hr.1 (s_count hr), jvI_ok, List.length_map, if_neg (nI_ge (by omega) (by omega)), jcv_ok hr.1 (s_get' hr (by omega)), jvI_ok, getD_map 0 (by omega)]
      by_cases e : tx.getD k 0 = 0
      · have es : stT (wdS (tx.take k)) (tx.getD k 0) = (cutN (wdS (tx.take k)).1 (wdS (tx.take k)).2, []) := if_pos e
        obtain ⟨τ, a1, a2, a3⟩ := s_P_cut hp (fun z => by
          rw [List.length_map]
          have : 0 < (wdS (tx.take k)).2.length := List.length_pos_iff.mpr (fun y => z (by rw [y]; rfl))
          omega)
        rw [es, if_pos ((bc_32 hc26).mpr e), jgR_ok k0, r0, jdr_ok, jcv_ok hp.1 a1, jvV_ok, cutN_map]
        exact ⟨τ, rfl, a2, a3⟩
      · have es : stT (wdS (tx.take k)) (tx.getD k 0) = ((wdS (tx.take k)).1, (wdS (tx.take k)).2 ++ [tx.getD k 0]) := if_neg e
        obtain ⟨τ, a1, a2, a3⟩ := s_P_add hp (by rw [map_fl, List.length_map, List.length_map]; omega) (bc (tx.getD k 0))
        rw [es, if_neg (fun z => e ((bc_32 hc26).mp z)), jgR_ok k0, r0, jdr_ok, jcv_ok hr.1 (s_get' hr (by omega)), jvI_ok, getD_map 0 (by omega), jcv_ok hp.1 a1, jvV_ok]
        refine ⟨τ, rfl, ?_, a3⟩
        rw [bc_ch e] at a2
        rw [List.map_append]
        exact a2
    obtain ⟨τ, j1, j2, j3⟩ := hstep
    obtain ⟨υ, u1, u2, u3, u4⟩ := ih m (k + 1) τ mk (hTT.keep j3 nt) (hr.keep j3 (nq _ hq) (nq _ hq')) j2 (hmk.keep j3 (fun z => by unfold rg at z; omega) (fun z => by unfold rg at z; omega)) (by omega) (by omega) (by omega)
    refine ⟨υ, ?_, u2, u3, (j3.up (fun q z => Or.inl z)).tr u4⟩
    rw [j1, nI_1]
    exact u1
theorem s_T_take {σ : Hp} {t q : Nat} {g g' : Int32} {tx : List Nat} (htx : ∀ c ∈ tx, c ≤ 26) (ht8 : tx.length ≤ 80) (hq : ¬ rg t 25 q) (hq' : ¬ rg t 25 (q + 1)) {ps : List (List Int32)} {u mk : List Int32} (hT : TxtH σ t g) (hr : RowV σ q 80 (tx.map bc)) (hp : PieV σ (t + 1) 40 80 ps u) (hmk : RowV σ (t + 11) 80 mk) : ∃ τ, J_X4_take t q g' σ = some (.inl none, τ) ∧ TxtH τ t g' ∧ PieV τ (t + 1) 40 80 ((wd tx).map (List.map ch)) [] ∧ RowV τ (t + 11) 80 (List.replicate (2 * (wd tx).length) 45) ∧ ag (fun q => rg t 6 q ∨ rw2 (t + 11) q) σ τ := by
  obtain ⟨k0, ⟨r0, r1, r2, r3, r4, r5⟩, k1⟩ := hT
  have hg := ag_inS (P := fun x => x = t) σ 6 g' (rfl : t = t)
  have T1 : TxtH (inS σ t 6 g') t g' := ⟨k0, ⟨r0, r1, r2, r3, r4, r5⟩, by rw [in_inS, if_pos ⟨rfl, rfl⟩]⟩
  have P1 := hp.keep hg (fun x z y => by subst z; unfold rg at y; omega)
  have nt : ¬ rg (t + 1) 5 t := fun z => by unfold rg at z; omega
  have nq : ∀ q', ¬ rg t 25 q' → ¬ rg (t + 1) 5 q' := fun q' z y => z (by unfold rg at y ⊢; omega)
  have nq1 : ∀ q', ¬ rg t 25 q' → ¬ q' = t := fun q' z y => z (by subst y; unfold rg; omega)
  obtain ⟨τ, a1, a2, a3⟩ := s_P_empty P1
  obtain ⟨υ, u1, u2, u3, u4⟩ := s_T_take_L2 htx ht8 hq hq' tx.length jN 0 τ mk (T1.keep a3 nt) ((hr.keep hg (nq1 _ hq) (nq1 _ hq')).keep a3 (nq _ hq) (nq _ hq')) a2 ((hmk.keep hg (by omega) (by omega)).keep a3 (fun z => by unfold rg at z; omega) (fun z => by unfold rg at z; omega)) rfl (Nat.zero_le _) (by unfold jN; omega)
  refine ⟨υ, ?_, (T1.keep a3 nt).keep u4 (fun z => by unfold rg rw2 at z; omega), u2, u3, (hg.up (fun q z => Or.inl (by subst z; unfold rg; omega))).tr ((a3.up (fun q z => Or.inl (by unfold rg at z ⊢; omega))).tr (u4.up (fun q z => by unfold rg rw2 at z ⊢; omega)))⟩
  unfold J_X4_take
  rw [jpI_ok k0, jgR_ok T1.1, T1.2.1.1, jdr_ok, jcv_ok P1.1 a1, jvV_ok]
  exact u1
