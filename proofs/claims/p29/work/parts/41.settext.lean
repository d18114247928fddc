/-! The class takes a text. -/
theorem RubV.gw {P : Nat → Prop} {c : Nat} {σ τ : Hp} {b : Nat} {ks : List Nat} {gs fs ss : List Int32} {E : List (List Nat)} (h : RubV σ b ks gs fs ss E) (hg : gw P c σ τ) (hb : b + 14 ≤ c) (h0 : ∀ q, P q → ¬ rg b 14 q) : RubV τ b ks gs fs ss E := by
  obtain ⟨k0, k1, k2, k3, k4, k5, k6⟩ := h
  have hn : ∀ i, i < 14 → ¬ P (b + i) := fun i hi z => h0 _ z ⟨by omega, by omega⟩
  obtain ⟨g1, g2⟩ := hg.2 b (by omega)
  exact ⟨by rw [g1]; exact k0, by rw [(g2 (hn 0 (by omega))).2.1]; exact k1, k2.gw hg (by omega) (hn 1 (by omega)) (hn 2 (by omega)), k3.gw hg (by omega) (hn 3 (by omega)) (hn 4 (by omega)), k4.gw hg (by omega) (hn 5 (by omega)) (hn 6 (by omega)), k5.gw hg (by omega) (hn 7 (by omega)) (hn 8 (by omega)), k6.gw hg (by omega) (rg_sub h0 (by omega) (by omega))⟩
theorem EmbV.gw {P : Nat → Prop} {c : Nat} {σ τ : Hp} {e : Nat} {wr pl : List Int32} {be : Int32} (h : EmbV σ e wr pl be) (hg : gw P c σ τ) (hb : e + 5 ≤ c) (h0 : ∀ q, P q → ¬ rg e 5 q) : EmbV τ e wr pl be := by
  obtain ⟨k0, k1, k2, k3, k4, k5⟩ := h
  have n0 := rg_pt h0 (a := e) (by omega) (by omega)
  obtain ⟨g1, g2⟩ := hg.2 e (by omega)
  exact ⟨by rw [g1]; exact k0, by rw [(g2 n0).2.1]; exact k1, by rw [(g2 n0).1]; exact k2, k3.gw hg (by omega) (rg_pt h0 (by omega) (by omega)) (rg_pt h0 (by omega) (by omega)), k4.gw hg (by omega) (rg_pt h0 (by omega) (by omega)) (rg_pt h0 (by omega) (by omega)), k5⟩
theorem TxtV.gw {P : Nat → Prop} {c : Nat} {σ τ : Hp} {t : Nat} {g : Int32} {ws : List (List Nat)} {cs : List (List Int32)} {mk : List Int32} {ls : List (List Int32)} {fl : List Int32} {em : List (List Int32)} (h : TxtV σ t g ws cs mk ls fl em) (hg : gw P c σ τ) (hb : t + 25 ≤ c) (h0 : ∀ q, P q → ¬ rg t 25 q) : TxtV τ t g ws cs mk ls fl em := by
  obtain ⟨⟨a0, a1, a2⟩, k1, k2, k3, k4, k5, k6⟩ := h
  have n0 := rg_pt h0 (a := t) (by omega) (by omega)
  obtain ⟨g1, g2⟩ := hg.2 t (by omega)
  exact ⟨⟨by rw [g1]; exact a0, by rw [(g2 n0).2.1]; exact a1, by rw [(g2 n0).1]; exact a2⟩, k1.gw hg (by omega) (rg_sub h0 (by omega) (by omega)), k2.gw hg (by omega) (rg_sub h0 (by omega) (by omega)), k3.gw hg (by omega) (rg_pt h0 (by omega) (by omega)) (rg_pt h0 (by omega) (by omega)), k4.gw hg (by omega) (rg_sub h0 (by omega) (by omega)), k5.gw hg (by omega) (rg_pt h0 (by omega) (by omega)) (rg_pt h0 (by omega) (by omega)), k6.gw hg (by omega) (rg_sub h0 (by omega) (by omega))⟩
theorem ClsG.gw {P : Nat → Prop} {c : Nat} {σ τ : Hp} {d : Nat} {buf ks : List Nat} {gs fs ss : List Int32} {E : List (List Nat)} {n : Nat} {T : Nat → Tx} {cs : Nat → List (List Int32)} {W : Nat} {wr : List Int32} {be : Int32} (h : ClsG σ d buf ks gs fs ss E n T cs W wr be) (hg : gw P c σ τ) (hc : c = tpH σ) (hd : d + 28 ≤ tpH σ) (h0 : ∀ q, P q → ¬ rg d 28 q) (h1 : ∀ i, i < n → ∀ q, P q → ¬ rg (tA (T i)) 25 q) : ClsG τ d buf ks gs fs ss E n T cs W wr be := by
  subst hc
  obtain ⟨k0, k1, k2, ⟨pl, k3⟩, ⟨a0, a1⟩, ⟨ps, u, k5⟩, k6, k7⟩ := h
  obtain ⟨g1, g2⟩ := hg.2 d (by omega)
  obtain ⟨f1, f2⟩ := hg.2 (d + 22) (by omega)
  obtain ⟨e1, e2, e3, e4⟩ := g2 (rg_pt h0 (by omega) (by omega))
  obtain ⟨c1, c2, c3, c4⟩ := f2 (rg_pt h0 (by omega) (by omega))
  refine ⟨?_, k1.gw hg (by omega) (rg_pt h0 (by omega) (by omega)) (rg_pt h0 (by omega) (by omega)), k2.gw hg (by omega) (rg_sub h0 (by omega) (by omega)), ⟨pl, k3.gw hg (by omega) (rg_sub h0 (by omega) (by omega))⟩, ⟨by rw [f1]; exact a0, fun i hi => by rw [c2]; exact a1 i hi⟩, ⟨ps, u, k5.gw hg (by omega) (rg_sub h0 (by omega) (by omega))⟩, fun i hi => (k6 i hi).gw hg (k7.1 i hi).2 (h1 i hi), ⟨fun i hi => ⟨(k7.1 i hi).1, Nat.le_trans (k7.1 i hi).2 hg.1⟩, k7.2⟩⟩
  unfold ClsH at k0 ⊢
  rw [g1, e1, e2]
  exact k0
/-- a new text -/
def nTx (a : Nat) : Tx := (a, [], 1, [], [])
theorem jsT_ok {σ : Hp} {a r j v : Nat} {K : Hp → jR} (h : kdH σ a = (5, r)) (hv : kdH σ v = (1, 4)) (hj : j < r) (hr : r < 100000) : jsT σ a (nI j) v K = K (rfS σ a j (some v)) := by
  unfold jsT
  rw [h, if_pos ⟨rfl, hv, ix_ok hj hr⟩, nI_clamp (by omega)]
theorem s_D_fresh {σ : Hp} {d : Nat} {buf ks : List Nat} {gs fs ss : List Int32} {E : List (List Nat)} {n : Nat} {T : Nat → Tx} {W : Nat} {wr : List Int32} {be : Int32} (h : ClsV σ d buf ks gs fs ss E n T W wr be) (hI : ClsI buf ks gs fs ss E n T W) (hz : kz σ) (hd : d + 28 ≤ tpH σ) (hn : n < 6) : ∃ τ, (∀ (K : Option Nat → Hp → jR) (KX : String → Hp → jR), jnw σ 4 (fun b37 t38 => jcv t38 b37 4 (J_X4_init b37 t38) (fun w40 t39 => jvV w40 (jgR t39 d 5 3 (fun r41 => jdr r41 (fun b42 => jsT t39 b42 (nI n) b37 (fun t43 => jgI t43 d 5 5 (fun x44 => jpI t43 d 5 5 (x44 + 1) (fun t45 => K (some b37) t45))))))) KX) = K (some (tpH σ)) τ) ∧ ClsV τ d buf ks gs fs ss E (n + 1) (fun k => if k = n then nTx (tpH σ) else T k) W wr be ∧ ClsI buf ks gs fs ss E (n + 1) (fun k => if k = n then nTx (tpH σ) else T k) W ∧ gw (fun q => rg d 28 q) (tpH σ) σ τ ∧ kz τ := by
  obtain ⟨τ1, a1, a2, a3, a4, a5⟩ := s_T_init (kz_nw hz (1, 4)) (t := tpH σ) rfl u1_s
  have g1 : gw (fun _ => False) (tpH σ) σ τ1 := (gw_nw σ (1, 4)).tr a3
  have h1 : ClsV τ1 d buf ks gs fs ss E n T W wr be := ClsG.gw h g1 rfl hd (fun q z => z.elim) (fun i _ q z => z.elim)
  have hA := h1.2.2.2.2.2.2.2
  have hA0 := h.2.2.2.2.2.2.2
  obtain ⟨⟨k0, r0, r1, r2, r3, r4, i5, i6⟩, k1, k2, ⟨pl, k3⟩, ⟨b0, b1⟩, ⟨ps, u, k5⟩, k6, k7⟩ := h1
  have p1 := ag_rfS (P := fun q => q = d + 22) τ1 n (some (tpH σ)) rfl
  have p2 := ag_inS (P := fun q => q = d) (rfS τ1 (d + 22) n (some (tpH σ))) 5 (nI (n + 1)) rfl
  have nx : ∀ {a m c : Nat}, (a + m ≤ c ∨ c < a) → ∀ q, q = c → ¬ rg a m q := fun h1 q y z => by subst y; unfold rg at z; omega
  refine ⟨inS (rfS τ1 (d + 22) n (some (tpH σ))) d 5 (nI (n + 1)), fun K KX => ?_, ⟨⟨k0, ?_, ?_, ?_, ?_, ?_, ?_, ?_⟩, (k1.keep p1 (by omega) (by omega)).keep p2 (by omega) (by omega), (k2.keep p1 (nx (by omega))).keep p2 (nx (by omega)), ⟨pl, (k3.keep p1 (nx (by omega))).keep p2 (nx (by omega))⟩, ⟨b0, fun i hi => ?_⟩, ⟨ps, u, (k5.keep p1 (nx (by omega))).keep p2 (nx (by omega))⟩, fun i hi => ?_, ⟨fun i hi => ?_, fun i j hij hj => ?_⟩⟩, ⟨hI.1, hI.2.1, by omega, hI.2.2.2.1, fun i hi => ?_⟩, ?_, a5⟩
  · unfold jnw
    dsimp only
    rw [jcv_ok (show kdH (nwS σ (1, 4)) (tpH σ) = (1, 4) from u1_s) a1, jvV_ok, jgR_ok k0, r3, jdr_ok, jsT_ok b0 a2.1.1 hn (by omega), jgI_ok (by exact k0), in_rfS, i5, jpI_ok (by exact k0), nI_1]
  · rw [rf_inS, rf_rfS, if_neg (by omega)]; exact r0
  · rw [rf_inS, rf_rfS, if_neg (by omega)]; exact r1
  · rw [rf_inS, rf_rfS, if_neg (by omega)]; exact r2
  · rw [rf_inS, rf_rfS, if_neg (by omega)]; exact r3
  · rw [rf_inS, rf_rfS, if_neg (by omega)]; exact r4
  · rw [in_inS, if_pos ⟨rfl, rfl⟩]
  · rw [in_inS, if_neg (by omega), in_rfS]; exact i6
  · rw [rf_inS, rf_rfS]
    dsimp only
    by_cases e : i = n
    · rw [if_pos ⟨rfl, e⟩, if_pos (by omega), if_pos e]
      rfl
    · rw [if_neg (fun z => e z.2), b1 i hi, if_neg e]
      by_cases c : i < n
      · rw [if_pos c, if_pos (by omega)]
      · rw [if_neg c, if_neg (by omega)]
  · dsimp only
    by_cases e : i = n
    · rw [if_pos e]
      exact (a2.keep p1 (nx (by omega))).keep p2 (nx (by omega))
    · rw [if_neg e]
      have hAi := (hA.1 i (by omega)).1
      exact ((k6 i (by omega)).keep p1 (nx (by omega))).keep p2 (nx (by omega))
  · dsimp only
    have e4 : tpH (inS (rfS τ1 (d + 22) n (some (tpH σ))) d 5 (nI (n + 1))) = tpH σ + 25 := a4
    rw [e4]
    by_cases e : i = n
    · rw [if_pos e]
      exact ⟨hd, Nat.le_refl _⟩
    · rw [if_neg e]
      have := hA0.1 i (by omega)
      exact ⟨this.1, by omega⟩
  · dsimp only
    by_cases e : j = n
    · rw [if_pos e, if_neg (by omega)]
      exact (hA0.1 i (by omega)).2
    · rw [if_neg e, if_neg (by omega)]
      exact hA0.2 i j hij (by omega)
  · dsimp only
    by_cases e : i = n
    · rw [if_pos e]
      exact ⟨⟨fun c hc => by simp [nTx, tX] at hc, by simp [nTx, tX]⟩, rfl, fun c hc => by simp [nTx, tM] at hc⟩
    · rw [if_neg e]
      exact hI.2.2.2.2 i (by omega)
  · exact (g1.up (Nat.le_refl _) (fun q _ z => z.elim)).tr (((p1.up (fun q z => by subst z; unfold rg; omega)).tr (p2.up (fun q z => by subst z; unfold rg; omega))).gw)
theorem rep_of {l : List Int32} {n : Nat} (h : l.length = n) (hx : ∀ k, k < n → l.getD k 0 = 45) : l = List.replicate n 45 := by
  apply List.ext_getElem (by rw [List.length_replicate, h])
  intro k h1 h2
  have := hx k (by omega)
  simpa [List.getD_eq_getElem?_getD, h1] using this
/-- what setText does with a text -/
def sBody (d : Nat) (v2 : Int32) (x12 : Option Nat) (t13 : Hp) : jR := jgR t13 d 5 0 (fun r14 => jdr r14 (fun b15 => jdr x12 (fun b16 => jcv t13 b16 4 (J_X4_take b16 b15 v2 t13) (fun w18 t17 => jvV w18 (jgR t17 d 5 1 (fun r19 => jgR t17 d 5 4 (fun r20 => jdr r20 (fun b21 => jdr r19 (fun b22 => jcv t17 b16 4 (J_X4_translate b16 b22 b21 t17) (fun w24 t23 => jvI w24 (fun x25 => jgI t23 d 5 6 (fun x26 => jcv t23 b16 4 (J_X4_lay b16 x26 t23) (fun w28 t27 => jvV w28 (jgR t27 d 5 0 (fun r29 => jdr r29 (fun b30 => jcv t27 b30 2 (J_X2_empty b30 t27) (fun w32 t31 => jvV w32 (jcv t31 b16 4 (J_X4_wordCount b16 t31) (fun w34 t33 => jvI w34 (fun x35 => some (.inl (some (.int x35)), t33))) (fun E t => some (.inr E, t)))) (fun E t => some (.inr E, t)))))) (fun E t => some (.inr E, t))))) (fun E t => some (.inr E, t)))))))) (fun E t => some (.inr E, t)))))
/-- a text typed anew -/
def sTx (x : Tx) (buf : List Nat) (g : Int32) : Tx := (tA x, buf, g, List.replicate (2 * (wd buf).length) 45, tE x)
theorem s_D_setBody {σ : Hp} {d : Nat} {buf ks : List Nat} {gs fs ss : List Int32} {E : List (List Nat)} {n : Nat} {T : Nat → Tx} {W : Nat} {wr : List Int32} {be : Int32} (h : ClsV σ d buf ks gs fs ss E n T W wr be) (hI : ClsI buf ks gs fs ss E n T W) {i : Nat} (hi : i < n) (g : Int32) : ∃ τ, sBody d g (some (tA (T i))) σ = some (.inl (some (.int (nI (wd buf).length))), τ) ∧ ClsV τ d [] ks gs fs ss E n (fun k => if k = i then sTx (T i) buf g else T k) W wr be ∧ ClsI [] ks gs fs ss E n (fun k => if k = i then sTx (T i) buf g else T k) W ∧ ag (clP d n T) σ τ := by
  have hh := h
  have hwd := wd_I hI.1.1 hI.1.2
  obtain ⟨⟨k0, r0, r1, r2, r3, r4, i5, i6⟩, k1, k2, ⟨pl, k3⟩, k4, ⟨ps, u, k5⟩, k6, k7⟩ := h
  have hA := (k7.1 i hi).1
  obtain ⟨t0, t1, t2, t3, t4, t5, t6⟩ := k6 i hi
  obtain ⟨τ1, a1, a2, a3, a4, a5⟩ := s_T_take (g' := g) hI.1.1 hI.1.2 (fun z => by unfold rg at z; omega) (fun z => by unfold rg at z; omega) t0 k1 t1 t3
  have nx : ∀ {a m : Nat}, (tA (T i) + 13 ≤ a ∨ a + m ≤ tA (T i) ∨ (tA (T i) + 6 ≤ a ∧ a + m ≤ tA (T i) + 11)) → ∀ q, (rg (tA (T i)) 6 q ∨ rw2 (tA (T i) + 11) q) → ¬ rg a m q := fun h1 q y z => by unfold rg rw2 at y; unfold rg at z; omega
  have a5' : ag (fun q => rg (tA (T i)) 25 q) σ τ1 := a5.up (fun q y => by unfold rg rw2 at y; unfold rg; omega)
  have V1 : TxtV τ1 (tA (T i)) g (wd buf) (clO ks gs fs ss E (T i)) (List.replicate (2 * (wd buf).length) 45) (lay W (clO ks gs fs ss E (T i))) (flS W ([], []) (clO ks gs fs ss E (T i))) (tE (T i)) := ⟨a2, a3, t2.keep a5 (nx (by omega)), a4, t4.keep a5 (nx (by omega)), t5.keep a5 (fun y => by unfold rg rw2 at y; omega) (fun y => by unfold rg rw2 at y; omega), t6.keep a5 (nx (by omega))⟩
  have nd : ∀ {a m : Nat}, a + m ≤ tA (T i) → ∀ q, rg (tA (T i)) 25 q → ¬ rg a m q := fun h1 q y z => by unfold rg at y z; omega
  have K1 := k2.keep a5' (nd (by omega))
  have F1 := k5.keep a5' (nd (by omega))
  obtain ⟨τ2, mk2, b1, b2, b3, b4, b5, b6⟩ := s_T_translate K1 hI.2.1 hwd V1 (by rw [List.length_replicate]) F1 (fun q y z => by unfold rg at y z; omega) (fun q y z => by unfold rg at y z; omega) (fun q y z => by unfold rg at y z; omega)
  have hmk : mk2 = List.replicate (2 * (wd buf).length) 45 := rep_of b3 (fun k hk => by
    rw [b4 k hk]
    split
    · rfl
    · simp [List.getD_eq_getElem?_getD, hk])
  rw [hmk] at b2
  have hcl : (wd buf).map (trC ks gs fs ss E g) = clO ks gs fs ss E (sTx (T i) buf g) := rfl
  rw [hcl] at b2
  have hcap := cl_cap ks gs fs ss E (x := sTx (T i) buf g) hwd
  obtain ⟨v0, v1, v2, v3, v4, v5, v6⟩ := b2
  obtain ⟨τ3, c1, c2, c3, c4⟩ := s_T_lay hI.2.2.2.1.1 hI.2.2.2.1.2 hcap.2.1 hcap.2.2 v0 v2 v4 v5
  have ny : ∀ {a m : Nat}, (tA (T i) + 20 ≤ a ∨ a + m ≤ tA (T i) + 13) → ∀ q, rg (tA (T i) + 13) 7 q → ¬ rg a m q := fun h1 q y z => by unfold rg at y z; omega
  have V3 : TxtV τ3 (tA (T i)) g (wd buf) (clO ks gs fs ss E (sTx (T i) buf g)) (List.replicate (2 * (wd buf).length) 45) (lay W (clO ks gs fs ss E (sTx (T i) buf g))) (flS W ([], []) (clO ks gs fs ss E (sTx (T i) buf g))) (tE (T i)) := ⟨v0.keep c4 (fun y => by unfold rg at y; omega), v1.keep c4 (ny (by omega)), v2.keep c4 (ny (by omega)), v3.keep c4 (fun y => by unfold rg at y; omega) (fun y => by unfold rg at y; omega), c2, c3, v6.keep c4 (ny (by omega))⟩
  have gA : ag (fun q => rg (d + 23) 5 q ∨ rg (tA (T i)) 25 q) σ τ3 := (a5'.up (fun q y => Or.inr y)).tr ((b6.up (fun q y => by
    rcases y with y | y
    · exact Or.inl y
    · exact Or.inr (by unfold rg at y ⊢; omega))).tr (c4.up (fun q y => Or.inr (by unfold rg at y ⊢; omega))))
  have hG3 := hh.sTxt hi gA ⟨_, _, b5.keep c4 (ny (by omega))⟩ (x := sTx (T i) buf g) rfl V3
  obtain ⟨τ4, e1, e2, e3⟩ := s_empty hG3.2.1
  have hG4 := hG3.sBuf (buf' := []) e3 e2
  have V4 := V3.keep e3 (fun q y z => by unfold rw2 at y; unfold rg at z; omega)
  have kd1 : kdH τ1 d = (1, 5) := by rw [a5.2.1]; exact k0
  have n1 : ¬ (rg (tA (T i)) 6 d ∨ rw2 (tA (T i) + 11) d) := fun y => by unfold rg rw2 at y; omega
  have rf1 : rfH τ1 d = rfH σ d := (a5.2.2.1 d n1).2
  have kd2 : kdH τ2 d = (1, 5) := by rw [b6.2.1]; exact kd1
  have n2 : ¬ (rg (d + 23) 5 d ∨ rg (tA (T i) + 6) 7 d) := fun y => by unfold rg at y; omega
  have in2 : inH τ2 d 6 = nI W := by rw [(b6.2.2.1 d n2).1, (a5.2.2.1 d n1).1]; exact i6
  refine ⟨τ4, ?_, hG4.cs (fun k hk => ?_), ⟨⟨fun c hc => by simp at hc, by simp⟩, hI.2.1, hI.2.2.1, hI.2.2.2.1, fun k hk => ?_⟩, (gA.up (fun q y => ?_)).tr (e3.up clP_b)⟩
  · unfold sBody
    rw [jgR_ok k0, r0, jdr_ok, jdr_ok, jcv_ok t0.1 a1, jvV_ok, jgR_ok kd1, jgR_ok kd1, rf1, r1, r4, jdr_ok, jdr_ok, jcv_ok V1.1.1 b1, jvI_ok, jgI_ok kd2, in2, jcv_ok v0.1 c1, jvV_ok, jgR_ok hG3.1.1, hG3.1.2.1, jdr_ok, jcv_ok hG3.2.1.1 e1, jvV_ok, jcv_ok V4.1.1 (s_T_wordCount V4), jvI_ok]
  · dsimp only
    by_cases q : k = i
    · rw [if_pos q, if_pos q]
    · rw [if_neg q, if_neg q]
  · dsimp only
    by_cases q : k = i
    · rw [if_pos q]
      exact ⟨hI.1, List.length_replicate .., fun x hx => Or.inl (List.eq_of_mem_replicate hx)⟩
    · rw [if_neg q]
      exact hI.2.2.2.2 k hk
  · rcases y with y | y
    · exact Or.inl (by unfold rg at y ⊢; omega)
    · exact Or.inr ⟨i, hi, y⟩
