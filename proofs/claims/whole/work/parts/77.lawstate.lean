/-! The law's state: the class and the model show the same house. -/
theorem ModV.same {σ τ : Hp} {M : Nat} {buf ks : List Nat} {gs fs ss : List Int32} {E : List (List Nat)} {n : Nat} {T : Nat → Tx} {W : Nat} {wr : List Int32} {be : Int32} (h : ModV σ M buf ks gs fs ss E n T W wr be) (hs : ∀ a, M ≤ a → a ≤ M + 19 → kdH τ a = kdH σ a ∧ inH τ a = inH σ a ∧ rfH τ a = rfH σ a) : ModV τ M buf ks gs fs ss E n T W wr be := by
  obtain ⟨⟨⟨a1, a2⟩, ⟨b1, b2⟩, ⟨c1, c2, c3⟩, ⟨d1, d2, d3⟩, ⟨⟨e1, e2⟩, e3, e4⟩, f1, f2, f3⟩, g1⟩ := h
  have i0 : inH τ M = inH σ M := (hs M (by omega) (by omega)).2.1
  have i : ∀ c, c ≤ 19 → inH τ (M + c) = inH σ (M + c) := fun c hc => (hs (M + c) (by omega) (by omega)).2.1
  have hc19 : ∀ p ∈ mAr, p.2.1 ≤ 19 := by decide
  refine ⟨⟨⟨by rw [(hs M (by omega) (by omega)).1]; exact a1, fun p hp => ?_⟩, ⟨by rw [i0]; exact b1, fun k hk => by rw [i 1 (by omega)]; exact b2 k hk⟩, ⟨by rw [i0]; exact c1, c2, fun k hk => ?_⟩, ⟨by rw [i0]; exact d1, d2, fun e he => ?_⟩, ⟨⟨by rw [i0]; exact e1, e2⟩, fun x hx => ?_, fun x h1 h2 => by rw [i 13 (by omega)]; exact e4 x h1 h2⟩, by rw [i0]; exact f1, by rw [i0]; exact f2, fun j hj => by rw [i 15 (by omega)]; exact f3 j hj⟩, fun x hx w e he hw => by rw [i 14 (by omega)]; exact g1 x hx w e he hw⟩
  · obtain ⟨q1, q2, q3⟩ := a2 p hp
    have := hc19 p hp
    exact ⟨by rw [(hs M (by omega) (by omega)).2.2]; exact q1, by rw [(hs (M + p.2.1) (by omega) (by omega)).1]; exact q2, q3⟩
  · rw [i 2 (by omega), i 3 (by omega), i 4 (by omega), i 5 (by omega)]
    exact c3 k hk
  · obtain ⟨q1, q2, q3, q4⟩ := d3 e he
    exact ⟨q1, q2, by rw [i 7 (by omega)]; exact q3, fun k hk => by rw [i 6 (by omega)]; exact q4 k hk⟩
  · obtain ⟨⟨q1, q2, q3, q4⟩, ⟨r1, r2, r3⟩⟩ := e3 x hx
    exact ⟨⟨q1, by rw [i 9 (by omega)]; exact q2, by rw [i 10 (by omega)]; exact q3, fun k hk => by rw [i 8 (by omega)]; exact q4 k hk⟩, ⟨r1, by rw [i 13 (by omega)]; exact r2, fun j hj => ⟨by rw [i 12 (by omega)]; exact (r3 j hj).1, fun k hk => by rw [i 11 (by omega)]; exact (r3 j hj).2 k hk⟩⟩⟩
theorem clO_perm {ks : List Nat} {gs fs ss : List Int32} {E Em : List (List Nat)} (h : E.Perm Em) (x : Tx) : clO ks gs fs ss E x = clO ks gs fs ss Em x := by
  unfold clO
  refine List.map_congr_left (fun w _ => ?_)
  unfold trC
  by_cases c : w ∈ E
  · rw [if_pos c, if_pos (h.mem_iff.mp c)]
  · rw [if_neg c, if_neg (fun z => c (h.mem_iff.mpr z))]
theorem RubI.perm {ks : List Nat} {gs fs ss : List Int32} {E Em : List (List Nat)} (h : RubI ks gs fs ss E) (hp : E.Perm Em) : RubI ks gs fs ss Em := by
  obtain ⟨a, b, c, d, e, f, g, i⟩ := h
  exact ⟨a, b, c, d, e, f, fun w hw => g w (hp.mem_iff.mpr hw), hp.nodup_iff.mp i⟩
/-- where things lie -/
def Lay (d M o q : Nat) : Prop := d + 28 ≤ M ∧ M + 20 ≤ o ∧ o < q
/-- what both rest on -/
def S1 (buf ks : List Nat) (gs fs ss : List Int32) (E Em : List (List Nat)) (n : Nat) (T : Nat → Tx) (W : Nat) (wr : List Int32) (q : Nat) : Prop := ClsI buf ks gs fs ss E n T W ∧ E.Perm Em ∧ (∀ s ∈ ss, ¬ s < 0) ∧ wr.length = 6 ∧ ∀ i, i < n → q < tA (T i)
/-- what the heap keeps beside them -/
def S2 (σ : Hp) (o q : Nat) : Prop := kz σ ∧ kdH σ o = (3, 1) ∧ kdH σ q = (4, 1) ∧ q < tpH σ
def St (d M o q : Nat) (σ : Hp) : Prop := ∃ (buf ks : List Nat) (gs fs ss : List Int32) (E Em : List (List Nat)) (n : Nat) (T : Nat → Tx) (W : Nat) (wr : List Int32) (be : Int32), ClsV σ d buf ks gs fs ss E n T W wr be ∧ ModV σ M buf ks gs fs ss Em n T W wr be ∧ S1 buf ks gs fs ss E Em n T W wr q ∧ S2 σ o q
section LAWST
variable {σ τ : Hp} {d M o q : Nat} {buf ks buf' ks' : List Nat} {gs fs ss gs' fs' ss' : List Int32} {E Em E' Em' : List (List Nat)} {n n' : Nat} {T T' : Nat → Tx} {W W' : Nat} {wr wr' : List Int32} {be be' : Int32}
theorem St.kM (h : St d M o q σ) : kdH σ M = (1, 6) := by
  obtain ⟨_, _, _, _, _, _, _, _, _, _, _, _, _, h, _⟩ := h
  exact h.1.1.1
theorem St.kd (h : St d M o q σ) : kdH σ d = (1, 5) := by
  obtain ⟨_, _, _, _, _, _, _, _, _, _, _, _, h, _⟩ := h
  exact h.1.1
theorem S1.mc (h : S1 buf ks gs fs ss E Em n T W wr q) : MCx ks gs fs ss Em n T W := ⟨h.1.2.1.perm h.2.1, h.2.2.1, fun i hi => wd_I ((h.1.2.2.2.2 i hi).1.1) ((h.1.2.2.2.2 i hi).1.2), fun i hi => (h.1.2.2.2.2 i hi).2.1, h.1.2.2.2.1.1, h.1.2.2.2.1.2⟩
/-- the model bears what the class does -/
theorem mod_ag (hL : Lay d M o q) (h1 : ∀ i, i < n → q < tA (T i)) (h : ModV σ M buf ks gs fs ss E n' T' W wr be) (hg : ag (clP d n T) σ τ) : ModV τ M buf ks gs fs ss E n' T' W wr be := by
  refine h.same (fun a ha ha2 => ?_)
  have hn : ¬ clP d n T a := fun z => by
    unfold Lay at hL
    rcases z with z | ⟨j, hj, z⟩
    · unfold rg at z; omega
    · have := h1 j hj
      unfold rg at z; omega
  exact ⟨by rw [hg.2.1], (hg.2.2.1 a hn).1, (hg.2.2.1 a hn).2⟩
theorem s2_ag {P : Nat → Prop} (h : S2 σ o q) (hg : ag P σ τ) : S2 τ o q := ⟨h.1.keep hg, by rw [hg.2.1]; exact h.2.1, by rw [hg.2.1]; exact h.2.2.1, Nat.lt_of_lt_of_le h.2.2.2 hg.1⟩
/-- the class bears what the model does -/
theorem cls_ai (hL : Lay d M o q) (h1 : ∀ i, i < n → q < tA (T i)) (h : ClsV σ d buf ks gs fs ss E n T W wr be) (hg : ai (qA M) σ τ) : ClsV τ d buf ks gs fs ss E n T W wr be := by
  refine ClsG.keep h (hg.ag (P := rg M 20) (fun a k z => by unfold qA at z; unfold rg; omega)) (fun x y z => ?_) (fun i hi x y z => ?_)
  · unfold Lay at hL
    unfold rg at y z
    omega
  · unfold Lay at hL
    have := h1 i hi
    unfold rg at y z
    omega
theorem s2_ai {Q : Nat → Nat → Prop} (h : S2 σ o q) (hg : ai Q σ τ) : S2 τ o q := ⟨fun a ha => by rw [hg.2.1]; exact h.1 a (by rw [← hg.1]; exact ha), by rw [hg.2.1]; exact h.2.1, by rw [hg.2.1]; exact h.2.2.1, by rw [hg.1]; exact h.2.2.2⟩
theorem jsJ_0 {a : Nat} {v : Int64} {K : Hp → jR} (h : kdH σ a = (3, 1)) : jsJ σ a 0 v K = K (lgS σ a 0 v) := by
  unfold jsJ
  rw [h, if_pos (by decide)]
  rfl
theorem jaJ_0 {a : Nat} {K : Int64 → jR} (h : kdH σ a = (3, 1)) : jaJ σ a 0 K = K (lgH σ a 0) := by
  unfold jaJ
  rw [h, if_pos (by decide)]
  rfl
theorem jsD_0 {a : Nat} {v : UInt64} {K : Hp → jR} (h : kdH σ a = (4, 1)) : jsD σ a 0 v K = K (dbS σ a 0 v) := by
  unfold jsD
  rw [h, if_pos (by decide)]
  rfl
theorem jaD_0 {a : Nat} {K : UInt64 → jR} (h : kdH σ a = (4, 1)) : jaD σ a 0 K = K (dbH σ a 0) := by
  unfold jaD
  rw [h, if_pos (by decide)]
  rfl
theorem lg_lgS (σ : Hp) (a : Nat) (v : Int64) : lgH (lgS σ a 0 v) a 0 = v := if_pos ⟨rfl, rfl⟩
theorem db_dbS (σ : Hp) (a : Nat) (v : UInt64) : dbH (dbS σ a 0 v) a 0 = v := if_pos ⟨rfl, rfl⟩
/-- both sides of a call: the class's outcome k, the model's answer b -/
def Lw (B : Int32 → Prop) (d M o q : Nat) (σ : Hp) (J : Hp → jR) (Jm : Hp → jR) : Prop := ∃ k b τ1 τ2, J σ = some (.inl (some (.int k)), τ1) ∧ kdH τ1 M = (1, 6) ∧ Jm τ1 = some (.inl (some (.int b)), τ2) ∧ inH τ2 M 0 = k ∧ (k = 0 → lgH τ2 o 0 = b.toInt64 ∧ B b) ∧ St d M o q τ2
/-- the class answered v, its new state stands; the model is asked then -/
theorem go_ok {B : Int32 → Prop} (hL : Lay d M o q) (hM : ModV σ M buf ks gs fs ss Em n T W wr be) (hS : S2 σ o q) (h1 : ∀ i, i < n → q < tA (T i)) (hg : ag (clP d n T) σ τ) (hV : ClsV τ d buf' ks' gs' fs' ss' E' n' T' W' wr' be') (hS1 : S1 buf' ks' gs' fs' ss' E' Em' n' T' W' wr' q) {v : Int32} (hB : B v) {J Jm : Hp → jR} (hJ : J σ = some (.inl (some (.int 0)), lgS τ o 0 v.toInt64)) (hm : ∀ τ1, ModV τ1 M buf ks gs fs ss Em n T W wr be → mrs τ1 M (Jm τ1) 0 v (fun τ2 => ModV τ2 M buf' ks' gs' fs' ss' Em' n' T' W' wr' be')) : Lw B d M o q σ J Jm := by
  have m1 : ModV (lgS τ o 0 v.toInt64) M buf ks gs fs ss Em n T W wr be := (mod_ag hL h1 hM hg).same (fun a _ _ => ⟨rfl, rfl, rfl⟩)
  obtain ⟨τ2, b1, b2, b3, b4⟩ := hm _ m1
  have c1 : ClsV (lgS τ o 0 v.toInt64) d buf' ks' gs' fs' ss' E' n' T' W' wr' be' := hV
  have s0 := s2_ag hS hg
  have s1 : S2 (lgS τ o 0 v.toInt64) o q := s0
  exact ⟨0, v, _, τ2, hJ, m1.1.1.1, b1, b2, fun _ => ⟨by rw [b4.2.2.2.1]; exact lg_lgS _ _ _, hB⟩, _, _, _, _, _, _, _, _, _, _, _, _, cls_ai hL hS1.2.2.2.2 c1 b4, b3, hS1, s2_ai s1 b4⟩
/-- the class threw: nothing changed -/
theorem go_x {B : Int32 → Prop} (hL : Lay d M o q) (hM : ModV σ M buf ks gs fs ss Em n T W wr be) (hS : S2 σ o q) (hg : ag (clP d n T) σ τ) (hV : ClsV τ d buf ks gs fs ss E n T W wr be) (hS1 : S1 buf ks gs fs ss E Em n T W wr q) {k b : Int32} (hk : k ≠ 0) {J Jm : Hp → jR} (hJ : J σ = some (.inl (some (.int k)), τ)) (hm : ∀ τ1, ModV τ1 M buf ks gs fs ss Em n T W wr be → mrs τ1 M (Jm τ1) k b (fun τ2 => ModV τ2 M buf ks gs fs ss Em n T W wr be)) : Lw B d M o q σ J Jm := by
  have m1 := mod_ag hL hS1.2.2.2.2 hM hg
  obtain ⟨τ2, b1, b2, b3, b4⟩ := hm _ m1
  exact ⟨k, b, τ, τ2, hJ, m1.1.1.1, b1, b2, fun z => (hk z).elim, _, _, _, _, _, _, _, _, _, _, _, _, cls_ai hL hS1.2.2.2.2 hV b4, b3, hS1, s2_ai (s2_ag hS hg) b4⟩
/-- thrown, over the state with a new cell -/
theorem go_t {B : Int32 → Prop} (hL : Lay d M o q) (hC : ClsV σ d buf ks gs fs ss E n T W wr be) (hM : ModV σ M buf ks gs fs ss Em n T W wr be) (hS : S2 σ o q) (hS1 : S1 buf ks gs fs ss E Em n T W wr q) {k b : Int32} (hk : k ≠ 0) {J Jm : Hp → jR} (hJ : J σ = some (.inl (some (.int k)), thS σ)) (hm : ∀ τ1, ModV τ1 M buf ks gs fs ss Em n T W wr be → mrs τ1 M (Jm τ1) k b (fun τ2 => ModV τ2 M buf ks gs fs ss Em n T W wr be)) : Lw B d M o q σ J Jm := go_x hL hM hS ((ag_thS hS.1).up (fun _ z => z.elim)) (ClsG.th hC hS.1) hS1 hk hJ hm
/-- a text was typed -/
theorem go_s {B : Int32 → Prop} (hL : Lay d M o q) (hM : ModV σ M buf ks gs fs ss Em n T W wr be) (hS : S2 σ o q) (h1 : ∀ i, i < n → q < tA (T i)) (hg : gw (clP d n T) (tpH σ) σ τ) (hz : kz τ) (hV : ClsV τ d buf' ks' gs' fs' ss' E' n' T' W' wr' be') (hS1 : S1 buf' ks' gs' fs' ss' E' Em' n' T' W' wr' q) {v : Int32} (hB : B v) {J Jm : Hp → jR} (hJ : J σ = some (.inl (some (.int 0)), lgS τ o 0 v.toInt64)) (hm : ∀ τ1, ModV τ1 M buf ks gs fs ss Em n T W wr be → mrs τ1 M (Jm τ1) 0 v (fun τ2 => ModV τ2 M buf' ks' gs' fs' ss' Em' n' T' W' wr' be')) : Lw B d M o q σ J Jm := by
  have hq := hS.2.2.2
  have m0 : ModV τ M buf ks gs fs ss Em n T W wr be := by
    refine hM.same (fun a ha ha2 => ?_)
    have hn : ¬ clP d n T a := fun z => by
      unfold Lay at hL
      rcases z with z | ⟨j, hj, z⟩
      · unfold rg at z; omega
      · have := h1 j hj
        unfold rg at z; omega
    unfold Lay at hL
    have h2 := hg.2 a (by omega)
    exact ⟨h2.1, (h2.2 hn).1, (h2.2 hn).2.1⟩
  have m1 : ModV (lgS τ o 0 v.toInt64) M buf ks gs fs ss Em n T W wr be := m0.same (fun a _ _ => ⟨rfl, rfl, rfl⟩)
  obtain ⟨τ2, b1, b2, b3, b4⟩ := hm _ m1
  have c1 : ClsV (lgS τ o 0 v.toInt64) d buf' ks' gs' fs' ss' E' n' T' W' wr' be' := hV
  have s0 : S2 τ o q := ⟨hz, by unfold Lay at hL; rw [(hg.2 o (by omega)).1]; exact hS.2.1, by rw [(hg.2 q hq).1]; exact hS.2.2.1, Nat.lt_of_lt_of_le hq hg.1⟩
  have s1 : S2 (lgS τ o 0 v.toInt64) o q := s0
  exact ⟨0, v, _, τ2, hJ, m1.1.1.1, b1, b2, fun _ => ⟨by rw [b4.2.2.2.1]; exact lg_lgS _ _ _, hB⟩, _, _, _, _, _, _, _, _, _, _, _, _, cls_ai hL hS1.2.2.2.2 c1 b4, b3, hS1, s2_ai s1 b4⟩
end LAWST
