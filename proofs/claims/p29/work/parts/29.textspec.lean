/-! A text translated; what it answers. -/
theorem s_T_putMark {σ : Hp} {t i e : Nat} {g : Int32} {mk : List Int32} (hT : TxtH σ t g) (hm : RowV σ (t + 11) 80 mk) (h : 2 * i + e < mk.length) (x : Int32) : ∃ τ, J_X4_putMark t (nI e) (nI i) x σ = some (.inl none, τ) ∧ RowV τ (t + 11) 80 (mk.set (2 * i + e) x) ∧ ag (rw2 (t + 11)) σ τ := by
  obtain ⟨k0, ⟨r0, r1, r2, r3, r4, r5⟩, k1⟩ := hT
  obtain ⟨τ, a1, a2, a3⟩ := s_set hm h x
  refine ⟨τ, ?_, a2, a3⟩
  unfold J_X4_putMark
  rw [jgR_ok k0, r2, jdr_ok, show (2 : Int32) * nI i + nI e = nI (2 * i + e) from (congrArg (· + nI e) (pk_mul 2 i)).trans (nI_add _ _), jcv_ok hm.1 a1, jvV_ok]
/-- the marks of a word are gone -/
def unm (mk : List Int32) (i : Nat) : List Int32 := (mk.set (2 * i) 45).set (2 * i + 1) 45
theorem s_T_unmark {σ : Hp} {t i : Nat} {g : Int32} {mk : List Int32} (hT : TxtH σ t g) (hm : RowV σ (t + 11) 80 mk) (h : 2 * i + 1 < mk.length) : ∃ τ, J_X4_unmark t (nI i) σ = some (.inl none, τ) ∧ RowV τ (t + 11) 80 (unm mk i) ∧ ag (rw2 (t + 11)) σ τ := by
  have nt : ¬ rw2 (t + 11) t := fun z => by unfold rw2 at z; omega
  obtain ⟨τ, a1, a2, a3⟩ := s_T_putMark hT hm (i := i) (e := 0) (by omega) 45
  have T1 := hT.keep a3 nt
  obtain ⟨υ, b1, b2, b3⟩ := s_T_putMark T1 a2 (i := i) (e := 1) (by rw [List.length_set]; exact h) 45
  refine ⟨υ, ?_, b2, a3.tr b3⟩
  show J_X4_unmark_L2b (J_X4_unmark_L2b (J_X4_unmark_L2b (J_X4_unmark_L2 99997))) t (nI i) (nI 0) σ = _
  unfold J_X4_unmark_L2b
  rw [if_neg (show ¬ (2 : Int32) ≤ nI 0 from nI_ge (b := 2) (by omega) (by omega)), jcv_ok hT.1 a1, jvV_ok, nI_1, if_neg (show ¬ (2 : Int32) ≤ nI 1 from nI_ge (b := 2) (by omega) (by omega)), jcv_ok T1.1 b1, jvV_ok, nI_1, if_pos (show (2 : Int32) ≤ nI 2 from nI_le (a := 2) (Nat.le_refl _) (by omega))]
theorem unm_len (mk : List Int32) (i : Nat) : (unm mk i).length = mk.length := by simp [unm]
theorem unm_get {mk : List Int32} {i k : Nat} (h : 2 * i + 1 < mk.length) : (unm mk i).getD k 0 = if k = 2 * i ∨ k = 2 * i + 1 then 45 else mk.getD k 0 := by
  unfold unm
  rw [getD_set (by rw [List.length_set]; exact h), getD_set (by omega)]
  by_cases e1 : k = 2 * i + 1
  · rw [if_pos e1, if_pos (Or.inr e1)]
  · rw [if_neg e1]
    by_cases e2 : k = 2 * i
    · rw [if_pos e2, if_pos (Or.inl e2)]
    · rw [if_neg e2, if_neg (fun z => z.elim e2 e1)]
theorem shr_take {ns os : List (List Int32)} {i : Nat} (h : i < ns.length) : shr (ns.take (i + 1)) os i = shr ns os i := by
  unfold shr
  congr 1
  have : (ns.take (i + 1)).getD i [] = ns.getD i [] := by simp [List.getD_eq_getElem?_getD, List.getElem?_take]
  rw [this, List.length_take]
  apply propext
  constructor
  · rintro ⟨a, b, c⟩; exact ⟨h, b, c⟩
  · rintro ⟨a, b, c⟩; exact ⟨by omega, b, c⟩
theorem fl_take_le (ns : List (List Int32)) (i : Nat) : (ns.take i).flatten.length ≤ ns.flatten.length := sz_le ns i
/-- one of d numbers from i on has it -/
def anyD (f : Nat → Bool) : Nat → Nat → Bool
  | 0, _ => false
  | d + 1, i => f i || anyD f d (i + 1)
theorem s_T_translate_L {t b z : Nat} {g : Int32} {ks : List Nat} {gs fs ss : List Int32} {E : List (List Nat)} (hI : RubI ks gs fs ss E) {ws : List (List Nat)} (hW : WdI ws) {os : List (List Int32)} {ns : List (List Int32)} (hns : ns = ws.map (trC ks gs fs ss E g)) (hlen : ∀ w ∈ ws, 1 ≤ (trC ks gs fs ss E g w).length ∧ (trC ks gs fs ss E g w).length ≤ 2 * w.length) (hzb : ∀ q, rg z 5 q → ¬ rg b 14 q) (hzt : ∀ q, rg z 5 q → ¬ rg t 25 q) (htb : ∀ q, rg t 25 q → ¬ rg b 14 q) : ∀ (d m i : Nat) (σ : Hp) (f : Bool) (mk : List Int32), TxtH σ t g → RubV σ b ks gs fs ss E → PieV σ (t + 1) 40 80 (ws.map (List.map ch)) [] → PieV σ (t + 6) 40 160 os [] → RowV σ (t + 11) 80 mk → mk.length = 2 * ws.length → PieV σ z 40 160 (ns.take i) [] → ws.length - i = d → i ≤ ws.length → d < m → ∃ τ mk', J_X4_translate_L9 m t b z (bI f) (nI i) σ = some (.inl (some (.int (bI (f || anyD (fun j => !shr ns os j) d i)))), τ) ∧ PieV τ (t + 6) 40 160 ns [] ∧ RowV τ (t + 11) 80 mk' ∧ mk'.length = 2 * ws.length ∧ (∀ k, k < 2 * ws.length → mk'.getD k 0 = if i ≤ k / 2 ∧ shr ns os (k / 2) = false then 45 else mk.getD k 0) ∧ PieV τ z 40 160 ns [] ∧ ag (fun q => rg z 5 q ∨ rg (t + 6) 7 q) σ τ := by
  have hnl : ns.length = ws.length := by rw [hns, List.length_map]
  have nz : ∀ {a n : Nat}, t ≤ a → a + n ≤ t + 25 → ∀ q, rg z 5 q → ¬ rg a n q := fun h1 h2 q h3 h4 => hzt q h3 (by unfold rg at h4 ⊢; omega)
  have nzt : ¬ rg z 5 t := fun y => hzt t y (by unfold rg; omega)
  obtain ⟨W1, W2, W3, W4⟩ := hW
  have cap : ∀ j, j ≤ ws.length → (ns.take j).flatten.length + 2 * (ws.drop j).flatten.length ≤ 2 * ws.flatten.length := by
    intro j
    induction j with
    | zero => intro _; simp
    | succ j ih =>
      intro hj
      have := ih (by omega)
      have e1 := sz_succ ns j
      have hjl : j < ws.length := by omega
      rw [List.drop_eq_getElem_cons hjl, List.flatten_cons, List.length_append] at this
      have e2 : ns.getD j [] = trC ks gs fs ss E g ws[j] := by rw [hns]; simp [List.getD_eq_getElem?_getD, hjl]
      have e3 := (hlen ws[j] (List.getElem_mem hjl)).2
      rw [e2] at e1
      unfold sz at e1
      omega
  intro d
  induction d with
  | zero =>
    intro m i σ f mk hT hR hp hc hmk hmkl hz hd hi hm
    obtain ⟨m, rfl⟩ : ∃ z, m = z + 1 := ⟨m - 1, by omega⟩
    obtain ⟨k0, ⟨r0, r1, r2, r3, r4, r5⟩, k1⟩ := hT
    have hpb := hp.b
    rw [List.length_map] at hpb
    rw [List.take_of_length_le (by omega)] at hz
    have hzB := hz.b
    obtain ⟨τ, a1, a2, a3⟩ := s_P_takeOver hc hz (fun q y x => nz (by omega) (by omega) q x y) (by omega) (by omega)
    refine ⟨τ, mk, ?_, a2, hmk.keep a3 (fun y => by unfold rg at y; omega) (fun y => by unfold rg at y; omega), hmkl, fun k hk => by rw [if_neg (fun y => by omega)], hz.keep a3 (fun q y x => nz (by omega) (by omega) q x y), a3.up (fun q y => Or.inr (by unfold rg at y ⊢; omega))⟩
    show J_X4_translate_L9b (J_X4_translate_L9 m) t b z (bI f) (nI i) σ = _
    unfold J_X4_translate_L9b
    rw [jgR_ok k0, r0, jdr_ok, jcv_ok hp.1 (s_P_count hp), jvI_ok, List.length_map, if_pos (nI_le (by omega) (by omega)), jgR_ok k0, r1, jdr_ok, jcv_ok hc.1 a1, jvV_ok, anyD, Bool.or_false, bI_nar]
  | succ d ih =>
    intro m i σ f mk hT hR hp hc hmk hmkl hz hd hi hm
    obtain ⟨m, rfl⟩ : ∃ z, m = z + 1 := ⟨m - 1, by omega⟩
    have hTT := hT
    obtain ⟨k0, ⟨r0, r1, r2, r3, r4, r5⟩, k1⟩ := hT
    have hil : i < ws.length := by omega
    have hpl : i < (ws.map (List.map ch)).length := by rw [List.length_map]; exact hil
    have hs1 := sz_succ (ws.map (List.map ch)) i
    have hs2 := sz_le (ws.map (List.map ch)) (i + 1)
    have hwm := getl_mem hil
    have hpr := hp.2.2.2.1
    have hfs := fl_slc (ws.map (List.map ch)) hpl []
    rw [getD_mapl hil] at hfs
    have hcap := cap i (by omega)
    rw [List.drop_eq_getElem_cons hil, List.flatten_cons, List.length_append] at hcap
    have hgi : ws[i] = ws.getD i [] := by simp [List.getD_eq_getElem?_getD, hil]
    rw [hgi] at hcap
    have hnt : ns.getD i [] = trC ks gs fs ss E g (ws.getD i []) := by rw [hns]; simp [List.getD_eq_getElem?_getD, hil]
    have hroom : (ns.take i).flatten.length + ([] : List Int32).length + 2 * (ws.getD i []).length ≤ 160 := by
      rw [List.length_nil]
      omega
    obtain ⟨τ1, a1, a2, a3⟩ := s_R_translate hR hI hpr (w := ws.getD i []) (by omega) (by rw [List.append_nil]; exact hs2) (W1 _ hwm).1 hfs g hz hroom hzb (fun y => nz (a := t + 1) (n := 5) (by omega) (by omega) _ y (by unfold rg; omega)) (fun y => nz (a := t + 1) (n := 5) (by omega) (by omega) _ y (by unfold rg; omega))
    rw [List.nil_append, ← hnt] at a2
    obtain ⟨τ2, b1, b2, b3⟩ := s_P_cut a2 (fun _ => by rw [List.length_take]; omega)
    have hne : ns.getD i [] ≠ [] := fun y => by
      have := (hlen _ hwm).1
      rw [← hnt, y] at this
      simp at this
    have ecut : cutP (ns.take i) (ns.getD i []) = ns.take (i + 1) := by
      unfold cutP
      rw [if_neg hne, List.take_add_one]
      simp [List.getD_eq_getElem?_getD, show i < ns.length by omega]
    rw [ecut] at b2
    have hag := a3.tr b3
    have T2 := hTT.keep hag nzt
    have C2 := hc.keep hag (nz (by omega) (by omega))
    have hsh := s_P_shares b2 C2 (i := i) (by omega)
    rw [shr_take (by omega)] at hsh
    have P2 := hp.keep hag (nz (by omega) (by omega))
    have M2 := hmk.keep hag (fun y => nz (a := t + 11) (n := 2) (by omega) (by omega) _ y (by unfold rg; omega)) (fun y => nz (a := t + 11) (n := 2) (by omega) (by omega) _ y (by unfold rg; omega))
    have R2 := hR.keep hag hzb
    have hhead : J_X4_translate_L9 (m + 1) t b z (bI f) (nI i) σ = jj (fun (x37 : Int32) (t38 : Hp) => J_X4_translate_L9 m t b z x37 (nI i + 1) t38) (fun j80 => (if bI (shr ns os i) = 0 then jcv τ2 t 4 (J_X4_unmark t (nI i) τ2) (fun w40 t39 => jvV w40 (j80 1 t39)) (fun E t => some (.inr E, t)) else j80 (bI f) τ2)) := by
      show J_X4_translate_L9b (J_X4_translate_L9 m) t b z (bI f) (nI i) σ = _
      unfold J_X4_translate_L9b
      have hpst := s_P_startOf hp (Nat.le_of_lt hpl)
      have hpen := s_P_endOf hp hpl
      obtain ⟨y0, ⟨_, y1, _, _, _, _⟩, _⟩ := T2
      rw [jgR_ok k0, r0, jdr_ok, jcv_ok hp.1 (s_P_count hp), jvI_ok, List.length_map, if_neg (nI_ge (by omega) (by omega)), jgR_ok k0, r0, jdr_ok, jcv_ok hp.1 (s_P_uncut hp), jvA_ok, jgR_ok k0, r0, jdr_ok, jcv_ok hp.1 hpst, jvI_ok, jgR_ok k0, r0, jdr_ok, jcv_ok hp.1 hpen, jvI_ok, jgI_ok k0, k1, jcv_ok hR.1 a1, jvV_ok, jcv_ok a2.1 b1, jvV_ok, jgR_ok y0, y1, jdr_ok, jcv_ok b2.1 hsh, jvI_ok]
    unfold jj at hhead
    dsimp only at hhead
    cases hsi : shr ns os i
    · obtain ⟨τ3, c1, c2, c3⟩ := s_T_unmark T2 M2 (i := i) (by omega)
      have nu : ∀ {a n : Nat}, a + n ≤ t + 11 ∨ t + 13 ≤ a → ∀ q, rw2 (t + 11) q → ¬ rg a n q := fun h q y x => by unfold rw2 at y; unfold rg at x; omega
      obtain ⟨υ, mk', u1, u2, u3, u4, u5, u6, u7⟩ := ih m (i + 1) τ3 true (unm mk i) (T2.keep c3 (fun y => by unfold rw2 at y; omega)) (R2.keep c3 (fun q y x => htb q (by unfold rw2 at y; unfold rg; omega) x)) (P2.keep c3 (nu (by omega))) (C2.keep c3 (nu (by omega))) c2 (by rw [unm_len]; exact hmkl) (b2.keep c3 (fun q y x => hzt q x (by unfold rw2 at y; unfold rg; omega))) (by omega) (by omega) (by omega)
      refine ⟨υ, mk', ?_, u2, u3, u4, fun k hk => ?_, u6, (hag.up (fun q y => Or.inl y)).tr ((c3.up (fun q y => Or.inr (by unfold rw2 at y; unfold rg; omega))).tr u7)⟩
      · rw [hhead, hsi, if_pos (by decide), jcv_ok T2.1 c1, jvV_ok, nI_1, anyD, hsi, show (1 : Int32) = bI true from rfl, u1]
        simp
      · rw [u5 k hk, unm_get (by omega)]
        by_cases e : k / 2 = i
        · rw [if_neg (fun y => by omega), if_pos (by omega), if_pos ⟨by omega, by rw [e]; exact hsi⟩]
        · rw [if_neg (c := k = 2 * i ∨ k = 2 * i + 1) (by omega)]
          by_cases e2 : i + 1 ≤ k / 2 ∧ shr ns os (k / 2) = false
          · rw [if_pos e2, if_pos ⟨by omega, e2.2⟩]
          · rw [if_neg e2, if_neg (fun y => e2 ⟨by omega, y.2⟩)]
    · obtain ⟨υ, mk', u1, u2, u3, u4, u5, u6, u7⟩ := ih m (i + 1) τ2 f mk T2 R2 P2 C2 M2 hmkl b2 (by omega) (by omega) (by omega)
      refine ⟨υ, mk', ?_, u2, u3, u4, fun k hk => ?_, u6, (hag.up (fun q y => Or.inl y)).tr u7⟩
      · rw [hhead, hsi, if_neg (by decide), nI_1, anyD, hsi, u1]
        simp
      · rw [u5 k hk]
        by_cases e2 : i + 1 ≤ k / 2 ∧ shr ns os (k / 2) = false
        · rw [if_pos e2, if_pos ⟨by omega, e2.2⟩]
        · rw [if_neg e2, if_neg (fun y => e2 ⟨by
            by_cases e : k / 2 = i
            · rw [e, hsi] at y; exact absurd y.2 (by simp)
            · omega, y.2⟩)]
