/-! The class as a whole. -/
/-- a text: its address, what was typed, its grade, its marks, the lines embossed last -/
abbrev Tx : Type := Nat × List Nat × Int32 × List Int32 × List (List Int32)
def tA (x : Tx) : Nat := x.1
def tX (x : Tx) : List Nat := x.2.1
def tG (x : Tx) : Int32 := x.2.2.1
def tM (x : Tx) : List Int32 := x.2.2.2.1
def tE (x : Tx) : List (List Int32) := x.2.2.2.2
/-- the cells of a text -/
def clO (ks : List Nat) (gs fs ss : List Int32) (E : List (List Nat)) (x : Tx) : List (List Int32) := (wd (tX x)).map (trC ks gs fs ss E (tG x))
def ClsH (σ : Hp) (d n W : Nat) : Prop := kdH σ d = (1, 5) ∧ rfH σ d 0 = some (d + 1) ∧ rfH σ d 1 = some (d + 3) ∧ rfH σ d 2 = some (d + 17) ∧ rfH σ d 3 = some (d + 22) ∧ rfH σ d 4 = some (d + 23) ∧ inH σ d 5 = nI n ∧ inH σ d 6 = nI W
theorem ClsH.keep {P : Nat → Prop} {σ τ : Hp} {d n W : Nat} (h : ClsH σ d n W) (hg : ag P σ τ) (h0 : ¬ P d) : ClsH τ d n W := by
  unfold ClsH at h ⊢
  rw [hg.2.1, (hg.2.2.1 d h0).1, (hg.2.2.1 d h0).2]
  exact h
def ArrV (σ : Hp) (d n : Nat) (T : Nat → Tx) : Prop := kdH σ (d + 22) = (5, 6) ∧ ∀ i, i < 6 → rfH σ (d + 22) i = if i < n then some (tA (T i)) else none
theorem ArrV.keep {P : Nat → Prop} {σ τ : Hp} {d n : Nat} {T : Nat → Tx} (h : ArrV σ d n T) (hg : ag P σ τ) (h0 : ¬ P (d + 22)) : ArrV τ d n T := by
  unfold ArrV at h ⊢
  rw [hg.2.1, (hg.2.2.1 (d + 22) h0).2]
  exact h
def TxsV (σ : Hp) (n : Nat) (T : Nat → Tx) (cs : Nat → List (List Int32)) (W : Nat) : Prop := ∀ i, i < n → TxtV σ (tA (T i)) (tG (T i)) (wd (tX (T i))) (cs i) (tM (T i)) (lay W (cs i)) (flS W ([], []) (cs i)) (tE (T i))
/-- where the texts lie -/
def TxsA (σ : Hp) (d n : Nat) (T : Nat → Tx) : Prop := (∀ i, i < n → d + 28 ≤ tA (T i) ∧ tA (T i) + 25 ≤ tpH σ) ∧ ∀ i j, i < j → j < n → tA (T i) + 25 ≤ tA (T j)
theorem TxsA.ne {σ : Hp} {d n : Nat} {T : Nat → Tx} (h : TxsA σ d n T) {i j : Nat} (hi : i < n) (hj : j < n) (hij : j ≠ i) : ∀ q, rg (tA (T i)) 25 q → ¬ rg (tA (T j)) 25 q := fun q y z => by
  unfold rg at y z
  rcases Nat.lt_or_gt_of_ne hij with c | c
  · have := h.2 j i c hi
    omega
  · have := h.2 i j c hj
    omega
def ClsG (σ : Hp) (d : Nat) (buf : List Nat) (ks : List Nat) (gs fs ss : List Int32) (E : List (List Nat)) (n : Nat) (T : Nat → Tx) (cs : Nat → List (List Int32)) (W : Nat) (wr : List Int32) (be : Int32) : Prop :=
  ClsH σ d n W ∧ RowV σ (d + 1) 80 (buf.map bc) ∧ RubV σ (d + 3) ks gs fs ss E ∧ (∃ pl, EmbV σ (d + 17) wr pl be) ∧ ArrV σ d n T ∧ (∃ ps u, PieV σ (d + 23) 40 160 ps u) ∧ TxsV σ n T cs W ∧ TxsA σ d n T
/-- what holds of a state of the class -/
def ClsI (buf : List Nat) (ks : List Nat) (gs fs ss : List Int32) (E : List (List Nat)) (n : Nat) (T : Nat → Tx) (W : Nat) : Prop :=
  ((∀ c ∈ buf, c ≤ 26) ∧ buf.length ≤ 80) ∧ RubI ks gs fs ss E ∧ n ≤ 6 ∧ (8 ≤ W ∧ W ≤ 40) ∧ ∀ i, i < n → ((∀ c ∈ tX (T i), c ≤ 26) ∧ (tX (T i)).length ≤ 80) ∧ (tM (T i)).length = 2 * (wd (tX (T i))).length ∧ ∀ x ∈ tM (T i), mkc x
theorem ClsG.keep {P : Nat → Prop} {σ τ : Hp} {d : Nat} {buf ks : List Nat} {gs fs ss : List Int32} {E : List (List Nat)} {n : Nat} {T : Nat → Tx} {cs : Nat → List (List Int32)} {W : Nat} {wr : List Int32} {be : Int32} (h : ClsG σ d buf ks gs fs ss E n T cs W wr be) (hg : ag P σ τ) (h0 : ∀ q, P q → ¬ rg d 28 q) (h1 : ∀ i, i < n → ∀ q, P q → ¬ rg (tA (T i)) 25 q) : ClsG τ d buf ks gs fs ss E n T cs W wr be := by
  obtain ⟨k0, k1, k2, ⟨pl, k3⟩, k4, ⟨ps, u, k5⟩, k6, k7⟩ := h
  exact ⟨k0.keep hg (rg_pt h0 (by omega) (by omega)), k1.keep hg (rg_pt h0 (by omega) (by omega)) (rg_pt h0 (by omega) (by omega)), k2.keep hg (rg_sub h0 (by omega) (by omega)), ⟨pl, k3.keep hg (rg_sub h0 (by omega) (by omega))⟩, k4.keep hg (rg_pt h0 (by omega) (by omega)), ⟨ps, u, k5.keep hg (rg_sub h0 (by omega) (by omega))⟩, fun i hi => (k6 i hi).keep hg (h1 i hi), fun i hi => ⟨(k7.1 i hi).1, Nat.le_trans (k7.1 i hi).2 hg.1⟩, k7.2⟩
theorem TxsV.keep {P : Nat → Prop} {σ τ : Hp} {d n W : Nat} {T : Nat → Tx} {cs : Nat → List (List Int32)} (h : TxsV σ n T cs W) (hA : TxsA σ d n T) (hg : ag P σ τ) (h0 : ∀ q, P q → rg d 28 q) : TxsV τ n T cs W := fun i hi => (h i hi).keep hg (fun q y z => by
  have h1 := (hA.1 i hi).1
  have h2 := h0 q y
  unfold rg at h2 z
  omega)
theorem TxsA.keep {P : Nat → Prop} {σ τ : Hp} {d n : Nat} {T : Nat → Tx} (hA : TxsA σ d n T) (hg : ag P σ τ) : TxsA τ d n T := ⟨fun i hi => ⟨(hA.1 i hi).1, Nat.le_trans (hA.1 i hi).2 hg.1⟩, hA.2⟩
theorem ClsG.sBuf {σ τ : Hp} {d : Nat} {buf buf' ks : List Nat} {gs fs ss : List Int32} {E : List (List Nat)} {n : Nat} {T : Nat → Tx} {cs : Nat → List (List Int32)} {W : Nat} {wr : List Int32} {be : Int32} (h : ClsG σ d buf ks gs fs ss E n T cs W wr be) (hg : ag (rw2 (d + 1)) σ τ) (hb : RowV τ (d + 1) 80 (buf'.map bc)) : ClsG τ d buf' ks gs fs ss E n T cs W wr be := by
  obtain ⟨k0, k1, k2, ⟨pl, k3⟩, k4, ⟨ps, u, k5⟩, k6, k7⟩ := h
  have nx : ∀ {a m : Nat}, d + 3 ≤ a → ∀ q, rw2 (d + 1) q → ¬ rg a m q := fun h1 q y z => by unfold rw2 at y; unfold rg at z; omega
  exact ⟨k0.keep hg (fun y => by unfold rw2 at y; omega), hb, k2.keep hg (nx (by omega)), ⟨pl, k3.keep hg (nx (by omega))⟩, k4.keep hg (fun y => by unfold rw2 at y; omega), ⟨ps, u, k5.keep hg (nx (by omega))⟩, k6.keep k7 hg (fun q y => by unfold rw2 at y; unfold rg; omega), k7.keep hg⟩
theorem ClsG.sRub {σ τ : Hp} {d : Nat} {buf ks ks' : List Nat} {gs fs ss gs' fs' ss' : List Int32} {E E' : List (List Nat)} {n : Nat} {T : Nat → Tx} {cs : Nat → List (List Int32)} {W : Nat} {wr : List Int32} {be : Int32} (h : ClsG σ d buf ks gs fs ss E n T cs W wr be) (hg : ag (rg (d + 3) 14) σ τ) (hb : RubV τ (d + 3) ks' gs' fs' ss' E') : ClsG τ d buf ks' gs' fs' ss' E' n T cs W wr be := by
  obtain ⟨k0, k1, k2, ⟨pl, k3⟩, k4, ⟨ps, u, k5⟩, k6, k7⟩ := h
  have nx : ∀ {a m : Nat}, d + 17 ≤ a → ∀ q, rg (d + 3) 14 q → ¬ rg a m q := fun h1 q y z => by unfold rg at y z; omega
  exact ⟨k0.keep hg (fun y => by unfold rg at y; omega), k1.keep hg (fun y => by unfold rg at y; omega) (fun y => by unfold rg at y; omega), hb, ⟨pl, k3.keep hg (nx (by omega))⟩, k4.keep hg (fun y => by unfold rg at y; omega), ⟨ps, u, k5.keep hg (nx (by omega))⟩, k6.keep k7 hg (fun q y => by unfold rg at y ⊢; omega), k7.keep hg⟩
theorem ClsG.sEmb {σ τ : Hp} {d : Nat} {buf ks : List Nat} {gs fs ss : List Int32} {E : List (List Nat)} {n : Nat} {T : Nat → Tx} {cs : Nat → List (List Int32)} {W : Nat} {wr wr' pl' : List Int32} {be be' : Int32} (h : ClsG σ d buf ks gs fs ss E n T cs W wr be) (hg : ag (rg (d + 17) 5) σ τ) (hb : EmbV τ (d + 17) wr' pl' be') : ClsG τ d buf ks gs fs ss E n T cs W wr' be' := by
  obtain ⟨k0, k1, k2, ⟨pl, k3⟩, k4, ⟨ps, u, k5⟩, k6, k7⟩ := h
  exact ⟨k0.keep hg (fun y => by unfold rg at y; omega), k1.keep hg (fun y => by unfold rg at y; omega) (fun y => by unfold rg at y; omega), k2.keep hg (fun q y z => by unfold rg at y z; omega), ⟨pl', hb⟩, k4.keep hg (fun y => by unfold rg at y; omega), ⟨ps, u, k5.keep hg (fun q y z => by unfold rg at y z; omega)⟩, k6.keep k7 hg (fun q y => by unfold rg at y ⊢; omega), k7.keep hg⟩
theorem ClsG.sTxt {σ τ : Hp} {d : Nat} {buf ks : List Nat} {gs fs ss : List Int32} {E : List (List Nat)} {n : Nat} {T : Nat → Tx} {cs : Nat → List (List Int32)} {W : Nat} {wr : List Int32} {be : Int32} (h : ClsG σ d buf ks gs fs ss E n T cs W wr be) {i : Nat} (hi : i < n) (hg : ag (fun q => rg (d + 23) 5 q ∨ rg (tA (T i)) 25 q) σ τ) (hf : ∃ ps u, PieV τ (d + 23) 40 160 ps u) {x : Tx} (hx : tA x = tA (T i)) {c : List (List Int32)} (ht : TxtV τ (tA x) (tG x) (wd (tX x)) c (tM x) (lay W c) (flS W ([], []) c) (tE x)) : ClsG τ d buf ks gs fs ss E n (fun j => if j = i then x else T j) (fun j => if j = i then c else cs j) W wr be := by
  obtain ⟨k0, k1, k2, ⟨pl, k3⟩, k4, k5, k6, k7⟩ := h
  have hA := (k7.1 i hi).1
  have nx : ∀ {a m : Nat}, a + m ≤ d + 23 → ∀ q, (rg (d + 23) 5 q ∨ rg (tA (T i)) 25 q) → ¬ rg a m q := fun h1 q y z => by unfold rg at y z; omega
  have np : ∀ {a : Nat}, a < d + 23 → ¬ (rg (d + 23) 5 a ∨ rg (tA (T i)) 25 a) := fun h1 y => by unfold rg at y; omega
  have eA : ∀ j, tA (if j = i then x else T j) = tA (T j) := fun j => by
    by_cases e : j = i
    · rw [if_pos e, e, hx]
    · rw [if_neg e]
  refine ⟨k0.keep hg (np (by omega)), k1.keep hg (np (by omega)) (np (by omega)), k2.keep hg (nx (by omega)), ⟨pl, k3.keep hg (nx (by omega))⟩, ⟨(k4.keep hg (np (by omega))).1, fun j hj => ?_⟩, hf, fun j hj => ?_, ⟨fun j hj => ?_, fun a b hab hb => ?_⟩⟩
  · rw [eA]
    exact (k4.keep hg (np (by omega))).2 j hj
  · dsimp only
    by_cases e : j = i
    · rw [if_pos e, if_pos e]
      exact ht
    · rw [if_neg e, if_neg e]
      refine (k6 j hj).keep hg (fun q y z => ?_)
      rcases y with y | y
      · have := (k7.1 j hj).1
        unfold rg at y z
        omega
      · exact k7.ne hi hj e q y z
  · rw [eA]
    exact (k7.keep hg).1 j hj
  · rw [eA, eA]
    exact k7.2 a b hab hb
/-- nothing lies behind the top -/
def kz (σ : Hp) : Prop := ∀ q, tpH σ ≤ q → kdH σ q = (0, 0)
theorem kz.keep {P : Nat → Prop} {σ τ : Hp} (h : kz σ) (hg : ag P σ τ) : kz τ := fun q hq => by
  rw [hg.2.1]
  exact h q (Nat.le_trans hg.1 hq)
theorem ag_thS {σ : Hp} (h : kz σ) : ag (fun _ => False) σ (thS σ) := by
  refine ⟨Nat.le_succ _, ?_, fun q _ => ⟨rfl, rfl⟩, rfl, rfl⟩
  show u1 (kdH σ) (tpH σ) (0, 0) = kdH σ
  funext q
  unfold u1
  by_cases e : q = tpH σ
  · rw [if_pos e, h q (by omega)]
  · rw [if_neg e]
theorem ClsG.th {σ : Hp} {d : Nat} {buf ks : List Nat} {gs fs ss : List Int32} {E : List (List Nat)} {n : Nat} {T : Nat → Tx} {cs : Nat → List (List Int32)} {W : Nat} {wr : List Int32} {be : Int32} (h : ClsG σ d buf ks gs fs ss E n T cs W wr be) (hz : kz σ) : ClsG (thS σ) d buf ks gs fs ss E n T cs W wr be := h.keep (ag_thS hz) (fun q y => y.elim) (fun i _ q y => y.elim)
theorem jaR_ok {σ : Hp} {a r j : Nat} {K : Option Nat → jR} (h : kdH σ a = (5, r)) (hj : j < r) (hr : r < 100000) : jaR σ a (nI j) K = K (rfH σ a j) := by
  unfold jaR
  rw [h, if_pos ⟨rfl, ix_ok hj hr⟩, nI_clamp (by omega)]
theorem jnu_s {a : Nat} {A : jR} {B : Nat → jR} : jnu (some a) A B = B a := rfl
theorem jnu_n {A : jR} {B : Nat → jR} : jnu none A B = A := rfl
theorem inN_not {x : Int32} {n : Nat} (h : ¬ inN x n) (hn : n < 2 ^ 31) : x < 0 ∨ nI n ≤ x := by
  rcases pk_ix x hn with c | c | ⟨j, hj, e⟩
  · exact Or.inl c
  · exact Or.inr c
  · exact (h ⟨j, hj, e⟩).elim
theorem s_D_textNumbered {σ : Hp} {d : Nat} {buf ks : List Nat} {gs fs ss : List Int32} {E : List (List Nat)} {n : Nat} {T : Nat → Tx} {cs : Nat → List (List Int32)} {W : Nat} {wr : List Int32} {be : Int32} (h : ClsG σ d buf ks gs fs ss E n T cs W wr be) (hn : n ≤ 6) (x : Int32) : (∃ i, i < n ∧ x = nI i ∧ J_X5_textNumbered d x σ = some (.inl (some (.ref (tA (T i)))), σ)) ∨ (¬ inN x n ∧ J_X5_textNumbered d x σ = some (.inr "java/lang/IndexOutOfBoundsException", thS σ)) := by
  obtain ⟨⟨k0, r0, r1, r2, r3, r4, i5, i6⟩, k1, k2, k3, ⟨a0, a1⟩, k5, k6, k7⟩ := h
  unfold J_X5_textNumbered jj
  dsimp only
  rcases pk_ix x (n := 6) (by omega) with c | c | ⟨j, hj, rfl⟩
  · refine Or.inr ⟨fun ⟨j, j1, j2⟩ => ?_, by rw [if_pos c, jnu_n]⟩
    rw [j2] at c
    exact nI_pos (by omega) c
  · refine Or.inr ⟨fun ⟨j, j1, j2⟩ => ?_, ?_⟩
    · rw [j2] at c
      exact nI_ge (by omega) (by omega) c
    · by_cases c0 : x < 0
      · rw [if_pos c0, jnu_n]
      · have : ¬ x < nI 6 := fun z => by
          rw [Int32.lt_iff_toInt_lt] at z
          rw [Int32.le_iff_toInt_le] at c
          omega
        rw [if_neg c0, jgR_ok k0, r3, jdr_ok, jal_ok a0, if_neg this, jnu_n]
  · by_cases hjn : j < n
    · refine Or.inl ⟨j, hjn, rfl, ?_⟩
      rw [if_neg (nI_pos (by omega)), jgR_ok k0, r3, jdr_ok, jal_ok a0, if_pos (nI_lt hj (by omega)), jgR_ok k0, r3, jdr_ok, jaR_ok a0 hj (by omega), a1 j hj, if_pos hjn, jnu_s]
    · refine Or.inr ⟨fun ⟨i, j1, j2⟩ => hjn ?_, ?_⟩
      · have := (nI_eq (by omega) (by omega)).mp j2
        omega
      · rw [if_neg (nI_pos (by omega)), jgR_ok k0, r3, jdr_ok, jal_ok a0, if_pos (nI_lt hj (by omega)), jgR_ok k0, r3, jdr_ok, jaR_ok a0 hj (by omega), a1 j hj, if_neg hjn, jnu_n]
/-- a text's number and one of a word of it -/
def inW (x y : Int32) (n : Nat) (T : Nat → Tx) : Prop := ∃ i j, i < n ∧ j < (wd (tX (T i))).length ∧ x = nI i ∧ y = nI j
theorem s_D_textWithWord {σ : Hp} {d : Nat} {buf ks : List Nat} {gs fs ss : List Int32} {E : List (List Nat)} {n : Nat} {T : Nat → Tx} {cs : Nat → List (List Int32)} {W : Nat} {wr : List Int32} {be : Int32} (h : ClsG σ d buf ks gs fs ss E n T cs W wr be) (hn : n ≤ 6) (x y : Int32) : (∃ i j, i < n ∧ j < (wd (tX (T i))).length ∧ x = nI i ∧ y = nI j ∧ J_X5_textWithWord d x y σ = some (.inl (some (.ref (tA (T i)))), σ)) ∨ (¬ inW x y n T ∧ J_X5_textWithWord d x y σ = some (.inr "java/lang/IndexOutOfBoundsException", thS σ)) := by
  have hh := h
  obtain ⟨⟨k0, r0, r1, r2, r3, r4, i5, i6⟩, k1, k2, k3, ⟨a0, a1⟩, k5, k6, k7⟩ := h
  unfold J_X5_textWithWord jj
  dsimp only
  rcases s_D_textNumbered hh hn x with ⟨i, hi, rfl, hT⟩ | ⟨hx, hT⟩
  · have hV := k6 i hi
    have hb := hV.2.1.b
    rw [List.length_map] at hb
    rw [jcv_ok k0 hT, jvA_ok]
    rcases pk_ix y (n := (wd (tX (T i))).length) (by omega) with c | c | ⟨j, hj, rfl⟩
    · refine Or.inr ⟨fun ⟨i', j, j1, j2, j3, j4⟩ => ?_, by rw [if_pos c]⟩
      rw [j4] at c
      have : j < 2 ^ 31 := by
        have hb' := (k6 i' j1).2.1.b
        rw [List.length_map] at hb'
        omega
      exact nI_pos this c
    · refine Or.inr ⟨fun ⟨i', j, j1, j2, j3, j4⟩ => ?_, ?_⟩
      · have e := (nI_eq (by omega) (by omega)).mp j3
        subst e
        rw [j4] at c
        exact nI_ge j2 (by omega) c
      · by_cases c0 : y < 0
        · rw [if_pos c0]
        · have : ¬ y < nI (wd (tX (T i))).length := fun z => by
            rw [Int32.lt_iff_toInt_lt] at z
            rw [Int32.le_iff_toInt_le] at c
            omega
          rw [if_neg c0, jcv_ok hV.1.1 (s_T_wordCount hV), jvI_ok, if_neg this]
    · refine Or.inl ⟨i, j, hi, hj, rfl, rfl, ?_⟩
      rw [if_neg (nI_pos (by omega)), jcv_ok hV.1.1 (s_T_wordCount hV), jvI_ok, if_pos (nI_lt hj (by omega))]
  · exact Or.inr ⟨fun ⟨i, j, j1, j2, j3, j4⟩ => hx ⟨i, j1, j3⟩, by rw [jcv_x k0 hT]⟩
