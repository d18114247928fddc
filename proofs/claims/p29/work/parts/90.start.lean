/-! The start: what holds at the law's entry, over any state with the script; the walk to the end, and how many cells are there then. -/
def lw_Q (s : State) (_ : Outcome) (t : State) : Prop := s.heap.size + 7233 * 34 ≤ t.heap.size
def lw_Z (below : List Frame) (s : State) : State → Prop := fun t => ∃ o, t.status = .running ∧ Ended t below o ∧ lw_Q s o t
theorem lw_ret {p : Program} {l : Launch} {e : Env} {s : State} {m : MethodId} {below : List Frame} {meth : Method} {c : Code} {b : Nat} (hx : p.tables.exec = Jvm.exec) (hb : c.code = code) (hr : meth.sig.returnType = ret) (hlocks : meth.locks = false) {pc : Nat} {H : Heap} {locs : List Loc} {k n : Nat} {ls : Array Slot} (hdg : decode code pc = .ok (.ireturn, 1)) (hH : s.heap.size + 7233 * 34 ≤ H.size) : W p l e jRoom s m #[Value.ref b] below meth c H locs k n (lw_Z below s) (F0 m pc ls [.int 1]) := by
  intro T hT X
  obtain ⟨fs, hret, hrun, hended, hW, hframe⟩ := X.leave (v := some (.int 1)) (hlocks := hlocks) (fun h => by rw [hr] at h; cases h)
  have hmeth' : T.vm.method? m = some meth := X.method'
  refine ⟨T.setFrames fs, ?_, .returned (some (.int 1)), hrun, hended, by show _ ≤ T.heap.size; rw [hT]; exact hH⟩
  jvm_step X.here [X.here.top, hx, hb, hdg, hmeth', hr, ret, narrow_b1]
  (try refine ⟨rfl, ?_⟩); (try refine ⟨rfl, ?_⟩)
  first | (intro acts; rw [hret _ acts rfl rfl rfl]) | rw [hret _ _ rfl rfl rfl]
  exact Steps.refl _
/-- the private methods of AbstractStringBuilder, as a StringBuilder calls them -/
def jSel (args : Array Value) (s : State) : Prop := ∀ y ∈ jPr, (Cond.selects RJ4 y y).before args s = true
/-- the constants -/
def kTm (i : Nat) : Term := if i = 0 then .string RL 54 else .string RL 21
theorem jStart {s : State} {b L : Nat} {xs : Nat → Int32} (hts : ∀ w ∈ jTbl, w.before #[Value.ref b] s = true) (hX : va_X b L xs s s.heap) (hbl : b < s.heap.size) (hgv : (Jvm.Cond.and given_1 narrow_1).before #[Value.ref b] s = true) (hNl : ∀ q ∈ jNl, (Cond.not (.castable q.1 q.2)).before #[Value.ref b] s = true) :
    ∃ g : jG, gB g = s.heap.size ∧ gSa g = b ∧ gSn g = L ∧ gSx g = xs ∧ jSt g s ∧ jZt g s s.heap ∧ (gKa g 0 < s.heap.size ∧ gKv g 0 < s.heap.size ∧ gKa g 1 < s.heap.size ∧ gKv g 1 < s.heap.size ∧ gKa g 0 ≠ gKa g 1) := by
  have hg : ∀ w ∈ gT, w.before #[Value.ref b] s = true := fun w hw => hts w (gT_sub w hw)
  have hs := flat_of_before _ hgv
  obtain ⟨c0, i0, k0⟩ := u_known (C := RX0) (T := TX0) (N := 3) (n := 3) hg lay_X0 (hg _ ins_X0)
  obtain ⟨c1, i1, k1⟩ := u_known (C := RX1) (T := TX1) (N := 2) (n := 2) hg lay_X1 (hg _ ins_X1)
  obtain ⟨c2, i2, k2⟩ := u_known (C := RX2) (T := TX2) (N := 2) (n := 2) hg lay_X2 (hg _ ins_X2)
  obtain ⟨c3, i3, k3⟩ := u_known (C := RX3) (T := TX3) (N := 5) (n := 5) hg lay_X3 (hg _ ins_X3)
  obtain ⟨c4, i4, k4⟩ := u_known (C := RX4) (T := TX4) (N := 7) (n := 7) hg lay_X4 (hg _ ins_X4)
  obtain ⟨c5, i5, k5⟩ := u_known (C := RX5) (T := TX5) (N := 7) (n := 7) hg lay_X5 (hg _ ins_X5)
  obtain ⟨c6, i6, k6⟩ := u_known (C := RJ4) (T := TJ4) (N := 4) (n := 4) hg lay_J4 (hg _ ins_J4)
  obtain ⟨c7, i7, k7⟩ := u_known (C := RJ0) (T := TJ0) (N := 4) (n := 4) hg lay_J0 (hg _ ins_J0)
  obtain ⟨cI, kI, mI, aI1, aI2, aI3⟩ := Cond.arrayClass_spec (hg _ ac_int)
  obtain ⟨cB, kB, mB, aB1, aB2, aB3⟩ := Cond.arrayClass_spec (hg _ ac_byte)
  obtain ⟨cC, kC, mC, aC1, aC2, aC3⟩ := Cond.arrayClass_spec (hg _ ac_char)
  obtain ⟨mT, cT, kT, aT0, -, aT2, aT3, aT1⟩ := Cond.arrayOver_spec (hts _ ao_Text)
  obtain ⟨mS, cS, kS, aS0, -, aS2, aS3, aS1⟩ := Cond.arrayOver_spec (hts _ ao_S)
  have hA : ∀ a : Nat, a < s.heap.size → ¬ (s.heap.size ≤ a) := fun a ha => Nat.not_le.mpr ha
  obtain ⟨adK, adV, hS, hev⟩ := vk_Sof (args := #[Value.ref b]) (s := s) (N := 2) (tm := kTm) (len := kLen) (byt := kByt) (A := fun q => s.heap.size ≤ q)
    (fun i hi => by match i, hi with | 0, _ => decide | 1, _ => decide)
    (fun i hi => by match i, hi with | 0, _ => exact hs _ (by decide +kernel) | 1, _ => exact hs _ (by decide +kernel))
    (fun i hi => by match i, hi with | 0, _ => exact hs _ (by decide +kernel) | 1, _ => exact hs _ (by decide +kernel))
    (fun i hi => by match i, hi with | 0, _ => exact hs _ (by decide +kernel) | 1, _ => exact hs _ (by decide +kernel))
    (fun i hi => by match i, hi with | 0, _ => exact hs _ (by decide +kernel) | 1, _ => exact hs _ (by decide +kernel))
    (fun i hi j hj => by
      match i, hi with
      | 0, _ => exact absurd hj (Nat.not_lt_zero j)
      | 1, _ =>
        match j, hj with
        | 0, _ => exact hs _ (by decide +kernel)
        | 1, _ => exact hs _ (by decide +kernel)
        | 2, _ => exact hs _ (by decide +kernel)
        | 3, _ => exact hs _ (by decide +kernel)
        | j + 4, hj => exact absurd hj (by show ¬ j + 4 < 4; omega))
    (fun i j hi hj hij => by
      have hall : Cond.not (Cond.eq (kTm 0) (kTm 1)) ∈ flatC (Jvm.Cond.and given_1 narrow_1) ∨ Cond.not (Cond.eq (kTm 1) (kTm 0)) ∈ flatC (Jvm.Cond.and given_1 narrow_1) := by decide +kernel
      match i, j, hi, hj with
      | 0, 0, _, _ => exact absurd rfl hij
      | 1, 1, _, _ => exact absurd rfl hij
      | 0, 1, _, _ => exact hall.imp (hs _) (hs _)
      | 1, 0, _, _ => exact hall.symm.imp (hs _) (hs _))
    hA
  have hz := va_Zqof (args := #[Value.ref b]) (A := fun q => s.heap.size ≤ q) (hts _ ls_J3_SIOOBE_FORMATTER) (hg _ ini_J3) (hs (Cond.isRef (.static RJ3 "SIOOBE_FORMATTER" "Ljava/util/function/BiFunction;")) (by decide +kernel)) hA
  obtain ⟨fm, hz⟩ : ∃ fm : Option Nat, va_Z RJ3 "SIOOBE_FORMATTER" "Ljava/util/function/BiFunction;" (va_rf fm) (fun q => s.heap.size ≤ q) s s.heap := by
    rcases hz with h | ⟨t, h⟩
    · exact ⟨none, h⟩
    · exact ⟨some t, h⟩
  have hcs := va_Zof (args := #[Value.ref b]) (A := fun q => s.heap.size ≤ q) (v := .int 1) (hts _ ls_J0_COMPACT_STRINGS) (hg _ ini_J0) (va_eqt (hs (Cond.eq (.static RJ0 "COMPACT_STRINGS" "Z") (.int 1)) (by decide +kernel))) hA
  have hlt : ∀ i, i < 2 → adK i < s.heap.size ∧ adV i < s.heap.size := fun i hi => by
    obtain ⟨⟨cell, o1, -⟩, -, -, hT⟩ := hS.1 i hi
    refine ⟨(Array.getElem?_eq_some_iff.mp o1).1, ?_⟩
    obtain ⟨cell, t1, -⟩ := hT
    exact (Array.getElem?_eq_some_iff.mp t1).1
  refine ⟨((fun k => if k = 0 then c0 else if k = 1 then c1 else if k = 2 then c2 else if k = 3 then c3 else if k = 4 then c4 else if k = 5 then c5 else if k = 6 then c6 else c7, fun k => if k = 0 then i0 else if k = 1 then i1 else if k = 2 then i2 else if k = 3 then i3 else if k = 4 then i4 else if k = 5 then i5 else if k = 6 then i6 else i7), (fun k => if k = 0 then cI else if k = 1 then cB else if k = 2 then cC else if k = 3 then cT else cS), s.heap.size, (b, L, xs), adK, adV, fm), rfl, rfl, rfl, rfl, ⟨⟨?_, ?_⟩, ?_, ?_, ?_, ?_, ?_, ?_, ?_⟩, ⟨?_, ?_, hX, hbl, Nat.le_refl _, hS, hcs, hz⟩, (hlt 0 (by omega)).1, (hlt 0 (by omega)).2, (hlt 1 (by omega)).1, (hlt 1 (by omega)).2, fun e => by have := hS.2 0 1 (by omega) (by omega) e; omega⟩
  · intro k q hq
    match k, hq with
    | 0, hq => cases hq; exact k0
    | 1, hq => cases hq; exact k1
    | 2, hq => cases hq; exact k2
    | 3, hq => cases hq; exact k3
    | 4, hq => cases hq; exact k4
    | 5, hq => cases hq; exact k5
    | 6, hq => cases hq; exact k6
    | 7, hq => cases hq; exact k7
    | k + 8, hq => simp [jCl] at hq
  · intro k q hq
    match k, hq with
    | 0, hq => cases hq; exact ⟨fun n z => ⟨fun k h => (by cases h), kI, aI2, mI, aI3⟩, aI1⟩
    | 1, hq => cases hq; exact ⟨fun n z => ⟨fun k h => (by cases h), kB, aB2, mB, aB3⟩, aB1⟩
    | 2, hq => cases hq; exact ⟨fun n z => ⟨fun k h => (by cases h), kC, aC2, mC, aC3⟩, aC1⟩
    | 3, hq => cases hq; exact ⟨fun n z => ⟨fun k h => (by cases h), kT, aT2, mT, aT3⟩, kT, mT, aT2, aT3, aT0, aT1⟩
    | 4, hq => cases hq; exact ⟨fun n z => ⟨fun k h => (by cases h), kS, aS2, mS, aS3⟩, kS, mS, aS2, aS3, aS0, aS1⟩
    | k + 5, hq => simp [gTy] at hq
  · have hall : ∀ w ∈ jNt, w ∈ jTbl ∧ w.onTables = true := by decide +kernel
    exact fun w hw => va_Nw.of (hall w hw).2 (hts w (hall w hw).1)
  · have hall : ∀ q ∈ jSr, q.1 = RX5 ∧ Cond.stringRef q.1 q.2.1 q.2.2 ∈ jTbl := by decide +kernel
    intro q hq
    obtain ⟨h1, h2⟩ := hall q hq
    have h3 := hts _ h2
    obtain ⟨-, -, -, a, -, -, -, -, -, hev⟩ := Cond.stringRef_spec (by rw [h1]; exact k5.2.1) h3
    exact ⟨a, vk_R.of h3 hev⟩
  · exact va_AO.of (hts _ ao_Text)
  · exact fun q hq => va_Nc.of (hNl q hq)
  · exact va_AO.of (hts _ ao_S)
  · have hw : Cond.stringRef RL 54 "" ∈ jTbl := by decide +kernel
    exact vk_R.of (hts _ hw) (hev 0 (by omega))
  · have hw : Cond.stringRef RL 21 "abcd" ∈ jTbl := by decide +kernel
    exact vk_R.of (hts _ hw) (hev 1 (by omega))
  · exact vx_Zqof (hts _ (by decide +kernel)) (hts _ (by decide +kernel)) (hs _ (by decide +kernel)) hA
  · exact vx_Zqof (hts _ (by decide +kernel)) (hts _ (by decide +kernel)) (hs _ (by decide +kernel)) hA
/-- the heap's value at the start: nothing of ours but the two constants -/
def sig0 (g : jG) (B : Nat) : Hp := (B, fun q => if q = gKa g 0 ∨ q = gKa g 1 then (17, 0) else if q = gKv g 0 then (16, 0) else if q = gKv g 1 then (16, 4) else (0, 0), fun q j => if q = gKa g 0 ∨ q = gKa g 1 then 0 else if q = gKv g 0 then 0 else if q = gKv g 1 then ([97, 98, 99, 100] : List Int32).getD j 0 else 0, fun q j => if q = gKa g 0 then some (gKv g 0) else if q = gKa g 1 then some (gKv g 1) else none, fun _ _ => 0, fun _ _ => 0)
theorem sig0_ok (g : jG) (B : Nat) (hB : gB g = B) (h : gKa g 0 < B ∧ gKv g 0 < B ∧ gKa g 1 < B ∧ gKv g 1 < B ∧ gKa g 0 ≠ gKa g 1) (hd : gKv g 0 ≠ gKa g 0 ∧ gKv g 0 ≠ gKa g 1 ∧ gKv g 1 ≠ gKa g 0 ∧ gKv g 1 ≠ gKa g 1 ∧ gKv g 0 ≠ gKv g 1) : kz (sig0 g B) ∧ StrV (sig0 g B) 0 (gB g) (gKa g 0) [] ∧ StrV (sig0 g B) 0 (gB g) (gKa g 1) [97, 98, 99, 100] ∧ ∀ H : Heap, H.size = B → jRel g (sig0 g B) H := by
  obtain ⟨h1, h2, h3, h4, h5⟩ := h
  obtain ⟨d1, d2, d3, d4, d5⟩ := hd
  have kd : ∀ q, kdH (sig0 g B) q = if q = gKa g 0 ∨ q = gKa g 1 then (17, 0) else if q = gKv g 0 then (16, 0) else if q = gKv g 1 then (16, 4) else (0, 0) := fun q => rfl
  have iv : ∀ q j, inH (sig0 g B) q j = if q = gKa g 0 ∨ q = gKa g 1 then 0 else if q = gKv g 0 then 0 else if q = gKv g 1 then ([97, 98, 99, 100] : List Int32).getD j 0 else 0 := fun q j => rfl
  have rv : ∀ q j, rfH (sig0 g B) q j = if q = gKa g 0 then some (gKv g 0) else if q = gKa g 1 then some (gKv g 1) else none := fun q j => rfl
  have ka0 : kdH (sig0 g B) (gKa g 0) = (17, 0) := by rw [kd, if_pos (Or.inl rfl)]
  have ka1 : kdH (sig0 g B) (gKa g 1) = (17, 0) := by rw [kd, if_pos (Or.inr rfl)]
  have kv0 : kdH (sig0 g B) (gKv g 0) = (16, 0) := by rw [kd, if_neg (fun z => z.elim d1 d2), if_pos rfl]
  have kv1 : kdH (sig0 g B) (gKv g 1) = (16, 4) := by rw [kd, if_neg (fun z => z.elim d3 d4), if_neg (fun z => d5 z.symm), if_pos rfl]
  have iv0 : ∀ j, inH (sig0 g B) (gKv g 0) j = 0 := fun j => by rw [iv, if_neg (fun z => z.elim d1 d2), if_pos rfl]
  have iv1 : ∀ j, inH (sig0 g B) (gKv g 1) j = ([97, 98, 99, 100] : List Int32).getD j 0 := fun j => by rw [iv, if_neg (fun z => z.elim d3 d4), if_neg (fun z => d5 z.symm), if_pos rfl]
  have by4 : ∀ j, fits .byte (.int (([97, 98, 99, 100] : List Int32).getD j 0)) = true := fun j => by
    match j with
    | 0 => decide
    | 1 => decide
    | 2 => decide
    | 3 => decide
    | j + 4 => exact (show fits .byte (.int (0 : Int32)) = true by decide)
  refine ⟨fun q hq => ?_, ⟨Or.inr (by rw [ka0]), by rw [iv, if_pos (Or.inl rfl)], Nat.zero_le _, by rw [hB]; exact h1, by rw [hB]; exact Nat.le_refl _, fun c hc => absurd hc List.not_mem_nil, gKv g 0, by rw [rv, if_pos rfl], Nat.zero_le _, by rw [hB]; exact h2, Or.inr (by rw [kv0]), by rw [kv0]; rfl, fun i => by rw [iv0]; exact fit0, fun i hi => absurd hi (Nat.not_lt_zero i)⟩, ⟨Or.inr (by rw [ka1]), by rw [iv, if_pos (Or.inr rfl)], Nat.zero_le _, by rw [hB]; exact h3, by rw [hB]; exact Nat.le_refl _, by decide, gKv g 1, by rw [rv, if_neg (fun z => h5 z.symm), if_pos rfl], Nat.zero_le _, by rw [hB]; exact h4, Or.inr (by rw [kv1]), by rw [kv1]; rfl, fun i => by rw [iv1]; exact by4 i, fun i hi => ?_⟩, fun H hH => ⟨hH, by rw [hB]; exact Nat.le_refl _, fun a h0 hn => absurd ?_ hn, fun a ha => ?_⟩⟩
  · have hq' : B ≤ q := hq
    rw [kd, if_neg (by omega), if_neg (by omega), if_neg (by omega)]
  · have hi : i < 4 := hi
    rw [iv1]
    match i, hi with
    | 0, _ => decide
    | 1, _ => decide
    | 2, _ => decide
    | 3, _ => decide
  · rw [kd] at h0 ⊢
    by_cases c1 : a = gKa g 0 ∨ a = gKa g 1
    · rw [if_pos c1]
      exact Or.inr rfl
    · rw [if_neg c1] at h0 ⊢
      by_cases c2 : a = gKv g 0
      · rw [if_pos c2]
        exact Or.inl rfl
      · rw [if_neg c2] at h0 ⊢
        by_cases c3 : a = gKv g 1
        · rw [if_pos c3]
          exact Or.inl rfl
        · rw [if_neg c3] at h0
          exact absurd rfl h0
  · rw [hB]
    by_cases c1 : a = gKa g 0
    · subst c1
      exact ⟨h1, Or.inr ⟨by rw [ka0], 0, by omega, rfl, by rw [iv, if_pos (Or.inl rfl)], by rw [rv, if_pos rfl]⟩⟩
    · by_cases c2 : a = gKa g 1
      · subst c2
        exact ⟨h3, Or.inr ⟨by rw [ka1], 1, by omega, rfl, by rw [iv, if_pos (Or.inr rfl)], by rw [rv, if_neg c1, if_pos rfl]⟩⟩
      · by_cases c3 : a = gKv g 0
        · subst c3
          exact ⟨h2, Or.inl ⟨by rw [kv0], 0, by omega, rfl, by rw [kv0]; rfl, fun j => by rw [iv0]; rfl⟩⟩
        · by_cases c4 : a = gKv g 1
          · subst c4
            exact ⟨h4, Or.inl ⟨by rw [kv1], 1, by omega, rfl, by rw [kv1]; rfl, fun j => by rw [iv1]; rfl⟩⟩
          · rw [kd, if_neg (fun z => z.elim c1 c2), if_neg c3, if_neg c4] at ha
            rcases ha with ha | ha <;> cases ha
