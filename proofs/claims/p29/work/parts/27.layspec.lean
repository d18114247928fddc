/-! A text: its head and parts; its lines. -/
/-- the state of laying: the lines that are done, and the one that is not -/
def addC (W : Nat) (a : List (List Int32) × List Int32) (c : Int32) : List (List Int32) × List Int32 := if W ≤ a.2.length then (a.1 ++ [a.2], [c]) else (a.1, a.2 ++ [c])
def begW (W : Nat) (a : List (List Int32) × List Int32) (n : Nat) : List (List Int32) × List Int32 := if a.2 ≠ [] ∧ a.2.length + 1 + n ≤ W then (a.1, a.2 ++ [0]) else (cutP a.1 a.2, [])
def layW (W : Nat) (a : List (List Int32) × List Int32) (c : List Int32) : List (List Int32) × List Int32 := c.foldl (addC W) (begW W a c.length)
def layS (W : Nat) (cs : List (List Int32)) : List (List Int32) × List Int32 := cs.foldl (layW W) ([], [])
/-- the lines of a text -/
def lay (W : Nat) (cs : List (List Int32)) : List (List Int32) := cutP (layS W cs).1 (layS W cs).2
/-- in which lines words begin -/
def flS (W : Nat) : List (List Int32) × List Int32 → List (List Int32) → List Int32
  | _, [] => []
  | a, c :: cs => nI (begW W a c.length).1.length :: flS W (layW W a c) cs
theorem flS_len (W : Nat) : ∀ (cs : List (List Int32)) (a : List (List Int32) × List Int32), (flS W a cs).length = cs.length
  | [], _ => rfl
  | c :: cs, a => by simp [flS, flS_len W cs]
/-- what is known of a state after K words with n cells in all -/
def LI (W K n : Nat) (a : List (List Int32) × List Int32) : Prop := a.1.flatten.length + a.2.length ≤ n ∧ 8 * (a.1.length + 1) ≤ 8 * K + a.1.flatten.length ∧ (∀ l ∈ a.1, l.length ≤ W) ∧ a.2.length ≤ W
theorem LI.add {W K n : Nat} (hW : 8 ≤ W) {a : List (List Int32) × List Int32} (h : LI W K n a) (c : Int32) : LI W K (n + 1) (addC W a c) := by
  obtain ⟨h1, h2, h3, h4⟩ := h
  unfold addC LI
  by_cases e : W ≤ a.2.length
  · rw [if_pos e]
    dsimp only
    rw [List.flatten_append, List.length_append, List.length_append]
    simp only [List.flatten_cons, List.flatten_nil, List.append_nil, List.length_cons, List.length_nil]
    refine ⟨by omega, by omega, fun l hl => ?_, by omega⟩
    rcases List.mem_append.mp hl with z | z
    · exact h3 l z
    · rw [List.mem_singleton.mp z]; exact h4
  · rw [if_neg e]
    dsimp only
    rw [List.length_append]
    simp only [List.length_cons, List.length_nil]
    exact ⟨by omega, h2, h3, by omega⟩
theorem LI.adds {W K : Nat} (hW : 8 ≤ W) : ∀ (c : List Int32) (n : Nat) (a : List (List Int32) × List Int32), LI W K n a → LI W K (n + c.length) (c.foldl (addC W) a)
  | [], _, _, h => h
  | x :: c, n, a, h => by
    rw [List.foldl_cons, List.length_cons, show n + (c.length + 1) = n + 1 + c.length by omega]
    exact LI.adds hW c (n + 1) _ (h.add hW x)
/-- before the first word, or after one -/
def LB (W K n : Nat) (a : List (List Int32) × List Int32) : Prop := (K = 0 ∧ a = ([], [])) ∨ (1 ≤ K ∧ LI W K n a)
theorem LB.beg {W K n : Nat} (hW : 8 ≤ W) {a : List (List Int32) × List Int32} (h : LB W K n a) (k : Nat) : LI W (K + 1) (n + (if K = 0 then 0 else 1)) (begW W a k) := by
  rcases h with ⟨h0, rfl⟩ | ⟨h0, h1, h2, h3, h4⟩
  · subst h0
    unfold begW cutP LI
    rw [if_neg (fun z => z.1 rfl), if_pos rfl]
    simp
  · rw [if_neg (by omega)]
    unfold begW LI
    by_cases e : a.2 ≠ [] ∧ a.2.length + 1 + k ≤ W
    · rw [if_pos e]
      dsimp only
      rw [List.length_append]
      simp only [List.length_cons, List.length_nil]
      exact ⟨by omega, by omega, h3, by omega⟩
    · rw [if_neg e]
      unfold cutP
      by_cases z : a.2 = []
      · rw [if_pos z]
        dsimp only
        exact ⟨by simp only [List.length_nil]; omega, by omega, h3, by simp⟩
      · rw [if_neg z]
        dsimp only
        rw [List.flatten_append, List.length_append, List.length_append]
        simp only [List.flatten_cons, List.flatten_nil, List.append_nil, List.length_cons, List.length_nil]
        refine ⟨by omega, by omega, fun l hl => ?_, by omega⟩
        rcases List.mem_append.mp hl with y | y
        · exact h3 l y
        · rw [List.mem_singleton.mp y]; exact h4
theorem LB.lay {W K n : Nat} (hW : 8 ≤ W) {a : List (List Int32) × List Int32} (h : LB W K n a) (c : List Int32) : LB W (K + 1) (n + (if K = 0 then 0 else 1) + c.length) (layW W a c) :=
  Or.inr ⟨by omega, LI.adds hW c _ _ (h.beg hW c.length)⟩
/-- the head of a text -/
def TxtH (σ : Hp) (t : Nat) (g : Int32) : Prop := kdH σ t = (1, 4) ∧ (rfH σ t 0 = some (t + 1) ∧ rfH σ t 1 = some (t + 6) ∧ rfH σ t 2 = some (t + 11) ∧ rfH σ t 3 = some (t + 13) ∧ rfH σ t 4 = some (t + 18) ∧ rfH σ t 5 = some (t + 20)) ∧ inH σ t 6 = g
theorem TxtH.keep {P : Nat → Prop} {σ τ : Hp} {t : Nat} {g : Int32} (h : TxtH σ t g) (hg : ag P σ τ) (h0 : ¬ P t) : TxtH τ t g := by
  obtain ⟨k0, k1, k2⟩ := h
  refine ⟨by rw [hg.2.1]; exact k0, by rw [(hg.2.2.1 t h0).2]; exact k1, by rw [(hg.2.2.1 t h0).1]; exact k2⟩
theorem rg_no {a n : Nat} {P : Nat → Prop} (h : ∀ q, P q → ¬ rg a n q) {q : Nat} (h1 : a ≤ q) (h2 : q < a + n) : ¬ P q := fun z => h q z ⟨h1, h2⟩
theorem s_T_inner {t W i pr' r' : Nat} {cs : List (List Int32)} {g : Int32} (hW : 8 ≤ W) (hW2 : W ≤ 40) (hi : i < cs.length) {K : Nat} (hK : K ≤ 40) (kont : Nat → Int32 → Int32 → Hp → jR) : ∀ (d m j n : Nat) (σ : Hp) (a : List (List Int32) × List Int32), TxtH σ t g → PieV σ (t + 6) pr' r' cs [] → PieV σ (t + 13) 60 160 a.1 a.2 → LI W K n a → n + ((cs.getD i []).length - j) ≤ 160 → (cs.getD i []).length - j = d → j ≤ (cs.getD i []).length → d < m → ∃ τ, J_X4_lay_L56 kont m t (nI W) (nI i) (nI j) σ = kont t (nI W) (nI i) τ ∧ PieV τ (t + 13) 60 160 (((cs.getD i []).drop j).foldl (addC W) a).1 (((cs.getD i []).drop j).foldl (addC W) a).2 ∧ ag (rg (t + 13) 5) σ τ := by
  intro d
  induction d with
  | zero =>
    intro m j n σ a hT hc hl hI hn hd hj hm
    obtain ⟨m, rfl⟩ : ∃ z, m = z + 1 := ⟨m - 1, by omega⟩
    have hcb := hc.b
    have hs := sz_succ cs i
    have hs' := sz_le cs (i + 1)
    obtain ⟨k0, ⟨r0, r1, r2, r3, r4, r5⟩, k1⟩ := hT
    refine ⟨σ, ?_, by rw [List.drop_of_length_le (by omega)]; exact hl, ag.rf⟩
    show J_X4_lay_L56b kont (J_X4_lay_L56 kont m) t (nI W) (nI i) (nI j) σ = _
    unfold J_X4_lay_L56b
    rw [jgR_ok k0, r1, jdr_ok, jcv_ok hc.1 (s_P_sizeOf hc hi), jvI_ok, if_pos (nI_le (by omega) (by omega))]
  | succ d ih =>
    intro m j n σ a hT hc hl hI hn hd hj hm
    obtain ⟨m, rfl⟩ : ∃ z, m = z + 1 := ⟨m - 1, by omega⟩
    have hcb := hc.b
    have hs := sz_succ cs i
    have hs' := sz_le cs (i + 1)
    have hTT := hT
    obtain ⟨k0, ⟨r0, r1, r2, r3, r4, r5⟩, k1⟩ := hT
    obtain ⟨i1, i2, i3, i4⟩ := hI
    have nd : ∀ q, rg (t + 13) 5 q → ¬ rg (t + 6) 5 q := fun q z y => by unfold rg at z y; omega
    have nt : ¬ rg (t + 13) 5 t := fun z => by unfold rg at z; omega
    have hstep : ∃ τ, J_X4_lay_L56 kont (m + 1) t (nI W) (nI i) (nI j) σ = J_X4_lay_L56 kont m t (nI W) (nI i) (nI j + 1) τ ∧ PieV τ (t + 13) 60 160 (addC W a ((cs.getD i []).getD j 0)).1 (addC W a ((cs.getD i []).getD j 0)).2 ∧ ag (rg (t + 13) 5) σ τ := by
      show ∃ τ, J_X4_lay_L56b kont (J_X4_lay_L56 kont m) t (nI W) (nI i) (nI j) σ = _ ∧ _
      unfold J_X4_lay_L56b jj addC
      dsimp only
      rw [jgR_ok k0, r1, jdr_ok, jcv_ok hc.1 (s_P_sizeOf hc hi), jvI_ok, if_neg (nI_ge (by omega) (by omega)), jgR_ok k0, r3, jdr_ok, jcv_ok hl.1 (s_P_uncutSize hl), jvI_ok]
      by_cases e : W ≤ a.2.length
      · have hu : a.2 ≠ [] := fun z => by rw [z] at e; simp at e; omega
        obtain ⟨υ, b1, b2, b3⟩ := s_P_cut hl (fun _ => by omega)
        unfold cutP at b2
        rw [if_neg hu] at b2
        obtain ⟨τ, a1, a2, a3⟩ := s_P_add b2 (by rw [List.flatten_append, List.length_append]; simp only [List.flatten_cons, List.flatten_nil, List.append_nil, List.length_nil]; omega) ((cs.getD i []).getD j 0)
        have hc' := hc.keep b3 nd
        obtain ⟨v0, ⟨_, v1, _, v3, _, _⟩, _⟩ := hTT.keep b3 nt
        rw [if_pos e, if_neg (nI_nlt (by omega) (by omega)), jgR_ok k0, r3, jdr_ok, jcv_ok hl.1 b1, jvV_ok, jgR_ok v0, jgR_ok v0, v1, v3, jdr_ok, jdr_ok, jcv_ok hc'.1 (s_P_get hc' hi (by omega)), jvI_ok, jcv_ok b2.1 a1, jvV_ok]
        exact ⟨τ, rfl, a2, b3.tr a3⟩
      · obtain ⟨τ, a1, a2, a3⟩ := s_P_add hl (by omega) ((cs.getD i []).getD j 0)
        rw [if_neg e, if_pos (nI_lt (by omega) (by omega)), jgR_ok k0, jgR_ok k0, r1, r3, jdr_ok, jdr_ok, jcv_ok hc.1 (s_P_get hc hi (by omega)), jvI_ok, jcv_ok hl.1 a1, jvV_ok]
        exact ⟨τ, rfl, a2, a3⟩
    obtain ⟨τ, j1, j2, j3⟩ := hstep
    obtain ⟨υ, u1, u2, u3⟩ := ih m (j + 1) (n + 1) τ _ (hTT.keep j3 nt) (hc.keep j3 nd) j2 (LI.add hW ⟨i1, i2, i3, i4⟩ _) (by omega) (by omega) (by omega) (by omega)
    refine ⟨υ, ?_, ?_, j3.tr u3⟩
    · rw [j1, nI_1]
      exact u1
    · rw [drop_cons (by omega), List.foldl_cons]
      exact u2
theorem s_T_beginWord {σ : Hp} {t W k : Nat} {g : Int32} (hT : TxtH σ t g) {a : List (List Int32) × List Int32} (hl : PieV σ (t + 13) 60 160 a.1 a.2) (hW : W ≤ 40) (hk : k ≤ 160) (h60 : a.1.length < 60) (h160 : a.1.flatten.length + a.2.length < 160) : ∃ τ, J_X4_beginWord t (nI k) (nI W) σ = some (.inl none, τ) ∧ PieV τ (t + 13) 60 160 (begW W a k).1 (begW W a k).2 ∧ ag (rg (t + 13) 5) σ τ := by
  obtain ⟨k0, ⟨r0, r1, r2, r3, r4, r5⟩, k1⟩ := hT
  obtain ⟨υ, b1, b2, b3⟩ := s_P_cut hl (fun _ => h60)
  obtain ⟨τ, a1, a2, a3⟩ := s_P_add hl h160 0
  have hb := hl.b
  unfold J_X4_beginWord jj
  dsimp only
  rw [jgR_ok k0, r3, jdr_ok, jcv_ok hl.1 (s_P_uncutSize hl), jvI_ok]
  by_cases e : a.2 = []
  · have eb : begW W a k = (cutP a.1 a.2, []) := if_neg (fun z => z.1 e)
    rw [eb, if_pos (by rw [e]; exact nI_le (a := 0) (b := 0) (Nat.le_refl _) (by omega)), jgR_ok k0, r3, jdr_ok, jcv_ok hl.1 b1, jvV_ok]
    exact ⟨υ, rfl, b2, b3⟩
  · have hlp : 0 < a.2.length := List.length_pos_iff.mpr e
    rw [if_neg (nI_nle hlp (by omega)), nI_1, nI_add]
    by_cases f : a.2.length + 1 + k ≤ W
    · have eb : begW W a k = (a.1, a.2 ++ [0]) := if_pos ⟨e, f⟩
      rw [eb, if_neg (nI_nlt f (by omega)), jgR_ok k0, r3, jdr_ok, jcv_ok hl.1 a1, jvV_ok]
      exact ⟨τ, rfl, a2, a3⟩
    · have eb : begW W a k = (cutP a.1 a.2, []) := if_neg (fun z => f z.2)
      rw [eb, if_pos (nI_lt (by omega) (by omega)), jgR_ok k0, r3, jdr_ok, jcv_ok hl.1 b1, jvV_ok]
      exact ⟨υ, rfl, b2, b3⟩
theorem s_T_lay_L {t W pr' r' : Nat} {cs : List (List Int32)} {g : Int32} (hW : 8 ≤ W) (hW2 : W ≤ 40) (hcs : cs.length ≤ 40) (hcap : cs.flatten.length + cs.length ≤ 161) : ∀ (d m i : Nat) (σ : Hp) (a : List (List Int32) × List Int32) (fl : List Int32), TxtH σ t g → PieV σ (t + 6) pr' r' cs [] → PieV σ (t + 13) 60 160 a.1 a.2 → RowV σ (t + 18) 40 fl → fl.length = i → LB W i (sz cs i + (i - 1)) a → cs.length - i = d → i ≤ cs.length → d < m → ∃ τ, J_X4_lay_L16 m t (nI W) (nI i) σ = some (.inl none, τ) ∧ PieV τ (t + 13) 60 160 (cutP ((cs.drop i).foldl (layW W) a).1 ((cs.drop i).foldl (layW W) a).2) [] ∧ RowV τ (t + 18) 40 (fl ++ flS W a (cs.drop i)) ∧ ag (rg (t + 13) 7) σ τ := by
  intro d
  induction d with
  | zero =>
    intro m i σ a fl hT hc hl hf hfl hB hd hi hm
    obtain ⟨m, rfl⟩ : ∃ z, m = z + 1 := ⟨m - 1, by omega⟩
    obtain ⟨k0, ⟨r0, r1, r2, r3, r4, r5⟩, k1⟩ := hT
    have hlb := hl.b
    have hle := sz_le cs i
    obtain ⟨υ, b1, b2, b3⟩ := s_P_cut hl (fun z => by
      rcases hB with ⟨_, e⟩ | ⟨_, h1, h2, _⟩
      · rw [e] at z; exact (z rfl).elim
      · omega)
    have e : cs.drop i = [] := List.drop_of_length_le (by omega)
    refine ⟨υ, ?_, ?_, ?_, b3.up (fun q z => by unfold rg at z ⊢; omega)⟩
    · show J_X4_lay_L16b (J_X4_lay_L16 m) t (nI W) (nI i) σ = _
      unfold J_X4_lay_L16b
      rw [jgR_ok k0, r1, jdr_ok, jcv_ok hc.1 (s_P_count hc), jvI_ok, if_pos (nI_le (by omega) (by omega)), jgR_ok k0, r3, jdr_ok, jcv_ok hl.1 b1, jvV_ok]
    · rw [e]
      exact b2
    · rw [e]
      unfold flS
      rw [List.append_nil]
      exact hf.keep b3 (fun z => by unfold rg at z; omega) (fun z => by unfold rg at z; omega)
  | succ d ih =>
    intro m i σ a fl hT hc hl hf hfl hB hd hi hm
    obtain ⟨m, rfl⟩ : ∃ z, m = z + 1 := ⟨m - 1, by omega⟩
    have hTT := hT
    obtain ⟨k0, ⟨r0, r1, r2, r3, r4, r5⟩, k1⟩ := hT
    have hlb := hl.b
    have hs := sz_succ cs i
    have hle := sz_le cs (i + 1)
    have hil : i < cs.length := by omega
    have nd : ∀ q, rg (t + 13) 5 q → ¬ rg (t + 6) 5 q := fun q z y => by unfold rg at z y; omega
    have nd' : ∀ q, rw2 (t + 18) q → ¬ rg (t + 6) 5 q := fun q z y => by unfold rw2 at z; unfold rg at y; omega
    have nd2 : ∀ q, rw2 (t + 18) q → ¬ rg (t + 13) 5 q := fun q z y => by unfold rw2 at z; unfold rg at y; omega
    have nt : ¬ rg (t + 13) 5 t := fun z => by unfold rg at z; omega
    have nt' : ¬ rw2 (t + 18) t := fun z => by unfold rw2 at z; omega
    have n18 : ¬ rg (t + 13) 5 (t + 18) := fun z => by unfold rg at z; omega
    have n19 : ¬ rg (t + 13) 5 (t + 18 + 1) := fun z => by unfold rg at z; omega
    have hpre : a.1.length < 60 ∧ a.1.flatten.length + a.2.length < 160 ∨ (a = ([], [])) := by
      rcases hB with ⟨_, e⟩ | ⟨h0, h1, h2, _⟩
      · exact Or.inr e
      · left; omega
    have hp1 : a.1.length < 60 := by
      rcases hpre with h | h
      · exact h.1
      · rw [h]; simp
    have hp2 : a.1.flatten.length + a.2.length < 160 := by
      rcases hpre with h | h
      · exact h.2
      · rw [h]; simp
    have hbI := hB.beg hW (cs.getD i []).length
    obtain ⟨τ1, a1, a2, a3⟩ := s_T_beginWord hTT hl (k := (cs.getD i []).length) hW2 (by omega) hp1 hp2
    have T1 := hTT.keep a3 nt
    have C1 := hc.keep a3 nd
    have F1 := hf.keep a3 n18 n19
    obtain ⟨τ2, b1, b2, b3⟩ := s_add F1 (by omega) (nI (begW W a (cs.getD i []).length).1.length)
    have T2 := T1.keep b3 nt'
    have C2 := C1.keep b3 nd'
    have L2 := a2.keep b3 nd2
    obtain ⟨τ3, c1, c2, c3⟩ := s_T_inner hW hW2 hil (K := i + 1) (by omega) (fun x58 x59 x60 t61 => J_X4_lay_L16 m x58 x59 (x60 + 1) t61) (cs.getD i []).length jN 0 (sz cs i + i) τ2 _ T2 C2 L2 (by
      have : sz cs i + (i - 1) + (if i = 0 then 0 else 1) = sz cs i + i := by
        split
        · rename_i h; subst h; omega
        · omega
      rw [← this]; exact hbI) (by omega) rfl (Nat.zero_le _) (by unfold jN; omega)
    rw [List.drop_zero] at c2
    have hB' : LB W (i + 1) (sz cs (i + 1) + (i + 1 - 1)) (layW W a (cs.getD i [])) := by
      have := hB.lay hW (cs.getD i [])
      have e : sz cs i + (i - 1) + (if i = 0 then 0 else 1) + (cs.getD i []).length = sz cs (i + 1) + (i + 1 - 1) := by
        split
        · rename_i h; subst h; omega
        · omega
      rwa [e] at this
    obtain ⟨υ, u1, u2, u3, u4⟩ := ih m (i + 1) τ3 (layW W a (cs.getD i [])) _ (T2.keep c3 nt) (C2.keep c3 nd) c2 (b2.keep c3 n18 n19) (by rw [List.length_append]; simp only [List.length_cons, List.length_nil]; omega) hB' (by omega) (by omega) (by omega)
    have ed : cs.drop i = cs.getD i [] :: cs.drop (i + 1) := by
      rw [List.drop_eq_getElem_cons hil]
      simp [List.getD_eq_getElem?_getD, hil]
    refine ⟨υ, ?_, ?_, ?_, ((a3.up (fun q z => by unfold rg at z ⊢; omega)).tr (b3.up (rw2_rg (by omega) (by omega)))).tr ((c3.up (fun q z => by unfold rg at z ⊢; omega)).tr u4)⟩
    · show J_X4_lay_L16b (J_X4_lay_L16 m) t (nI W) (nI i) σ = _
      unfold J_X4_lay_L16b
      obtain ⟨y0, ⟨_, _, _, y3, y4, _⟩, _⟩ := T1
      rw [jgR_ok k0, r1, jdr_ok, jcv_ok hc.1 (s_P_count hc), jvI_ok, if_neg (nI_ge (by omega) (by omega)), jgR_ok k0, r1, jdr_ok, jcv_ok hc.1 (s_P_sizeOf hc hil), jvI_ok, jcv_ok k0 a1, jvV_ok, jgR_ok y0, jgR_ok y0, y3, y4, jdr_ok, jdr_ok, jcv_ok a2.1 (s_P_count a2), jvI_ok, jcv_ok F1.1 b1, jvV_ok]
      refine Eq.trans c1 ?_
      show J_X4_lay_L16 m t (nI W) (nI i + 1) τ3 = _
      rw [nI_1]
      exact u1
    · rw [ed, List.foldl_cons]
      exact u2
    · rw [ed]
      unfold flS
      rw [← List.append_cons] at u3
      exact u3
theorem s_T_lay {σ : Hp} {t W pr' r' : Nat} {cs : List (List Int32)} {g : Int32} (hW : 8 ≤ W) (hW2 : W ≤ 40) (hcs : cs.length ≤ 40) (hcap : cs.flatten.length + cs.length ≤ 161) (hT : TxtH σ t g) (hc : PieV σ (t + 6) pr' r' cs []) {ls : List (List Int32)} {u : List Int32} (hl : PieV σ (t + 13) 60 160 ls u) {fl : List Int32} (hf : RowV σ (t + 18) 40 fl) : ∃ τ, J_X4_lay t (nI W) σ = some (.inl none, τ) ∧ PieV τ (t + 13) 60 160 (lay W cs) [] ∧ RowV τ (t + 18) 40 (flS W ([], []) cs) ∧ ag (rg (t + 13) 7) σ τ := by
  have nd : ∀ q, rg (t + 13) 5 q → ¬ rg (t + 6) 5 q := fun q z y => by unfold rg at z y; omega
  have nd' : ∀ q, rw2 (t + 18) q → ¬ rg (t + 6) 5 q := fun q z y => by unfold rw2 at z; unfold rg at y; omega
  have nd2 : ∀ q, rw2 (t + 18) q → ¬ rg (t + 13) 5 q := fun q z y => by unfold rw2 at z; unfold rg at y; omega
  have nt : ¬ rg (t + 13) 5 t := fun z => by unfold rg at z; omega
  have nt' : ¬ rw2 (t + 18) t := fun z => by unfold rw2 at z; omega
  have n18 : ¬ rg (t + 13) 5 (t + 18) := fun z => by unfold rg at z; omega
  have n19 : ¬ rg (t + 13) 5 (t + 18 + 1) := fun z => by unfold rg at z; omega
  obtain ⟨τ1, a1, a2, a3⟩ := s_P_empty hl
  have T1 := hT.keep a3 nt
  have F1 := hf.keep a3 n18 n19
  obtain ⟨τ2, b1, b2, b3⟩ := s_empty F1
  obtain ⟨υ, u1, u2, u3, u4⟩ := s_T_lay_L hW hW2 hcs hcap cs.length jN 0 τ2 ([], []) [] (T1.keep b3 nt') ((hc.keep a3 nd).keep b3 nd') (a2.keep b3 nd2) b2 rfl (Or.inl ⟨rfl, rfl⟩) rfl (Nat.zero_le _) (by unfold jN; omega)
  obtain ⟨k0, ⟨r0, r1, r2, r3, r4, r5⟩, k1⟩ := hT
  obtain ⟨y0, ⟨_, _, _, y3, y4, _⟩, _⟩ := T1
  refine ⟨υ, ?_, u2, u3, ((a3.up (fun q z => by unfold rg at z ⊢; omega)).tr (b3.up (rw2_rg (by omega) (by omega)))).tr u4⟩
  unfold J_X4_lay
  rw [jgR_ok k0, r3, jdr_ok, jcv_ok hl.1 a1, jvV_ok, jgR_ok y0, y4, jdr_ok, jcv_ok F1.1 b1, jvV_ok]
  exact u1
