/-! The walk from the method's entry to its end, over a state with the script 1, six times 122789275, 34 times 5. -/
def scr : List Int32 := 1 :: (List.replicate 6 122789275 ++ List.replicate 34 5)
/-- what the walk asks of the state besides the Statement's own words -/
def jMore (args : Array Value) (s : State) : Prop := jSel args s ∧ (∀ q ∈ jNl, (Cond.not (.castable q.1 q.2)).before args s = true) ∧ ∀ (c : ClassId) (k : Class) (comp : ClassId) (ty : FieldType), s.vm.findClass RJ0 = some c → s.vm.classes[c]? = some k → k.kind ≠ .array comp ty
def lw_P (b : Addr) (args : Array Value) (s : State) : Prop := args = #[.ref b] ∧ s.IntsAt b scr ∧ (Jvm.Cond.and given_1 narrow_1).before args s = true ∧ jMore args s
theorem scr_len : scr.length = 41 := by decide +kernel
theorem scr_0 : scr.getD 0 0 = 1 := by decide +kernel
theorem scr_1 : ∀ i, i < 41 → (1 ≤ i ∧ i ≤ 6 → scr.getD i 0 = 122789275) ∧ (7 ≤ i → scr.getD i 0 = 5) := by decide +kernel
theorem jKv {s : State} {g : jG} (hZ : jZt g s s.heap) (hK : ∀ (c : ClassId) (k : Class) (comp : ClassId) (ty : FieldType), s.vm.findClass RJ0 = some c → s.vm.classes[c]? = some k → k.kind ≠ .array comp ty) : gKv g 0 ≠ gKa g 0 ∧ gKv g 0 ≠ gKa g 1 ∧ gKv g 1 ≠ gKa g 0 ∧ gKv g 1 ≠ gKa g 1 ∧ gKv g 0 ≠ gKv g 1 := by
  have hS := hZ.2.2.2.2.2.1
  have no : ∀ i j, i < 2 → j < 2 → gKv g i ≠ gKa g j := fun i j hi hj e => by
    obtain ⟨-, -, -, cell, t1, ⟨-, k, t2, comp, t3⟩, -⟩ := hS.1 i hi
    obtain ⟨⟨cell', o1, -, o2, -⟩, -⟩ := hS.1 j hj
    rw [e, o1] at t1
    cases t1
    exact hK _ k comp _ o2 t2 t3
  refine ⟨no 0 0 (by omega) (by omega), no 0 1 (by omega) (by omega), no 1 0 (by omega) (by omega), no 1 1 (by omega) (by omega), fun e => ?_⟩
  obtain ⟨-, -, -, cell, t1, -, -, -, t5, -⟩ := hS.1 0 (by omega)
  obtain ⟨-, -, -, cell', u1, -, -, -, u5, -⟩ := hS.1 1 (by omega)
  rw [e, u1] at t1
  cases t1
  rw [t5] at u5
  exact absurd u5 (by decide)
theorem jTbl_all {s : State} {args : Array Value} (hts : ∀ w ∈ lw_tbl, w.before args s = true) (h : jSel args s) : ∀ w ∈ jTbl, w.before args s = true := by
  intro w hw
  rcases List.mem_append.mp hw with q | q
  · obtain ⟨y, hy, rfl⟩ := List.mem_map.mp q
    exact h y hy
  · exact hts w q
set_option maxHeartbeats 4000000 in
set_option maxRecDepth 100000 in
theorem p29_start {p : Program} {e : Env} {s : State} {m : MethodId} {below : List Frame} {meth : Method} {c : Code} (l : Launch) (hflags : l.flags = flags0) {b : Nat} (hx : p.tables.exec = Jvm.exec) (hb : c.code = code) (hr : meth.sig.returnType = ret) (hml : c.maxLocals = 15) (hown : s.vm.findClass RL = some m.cls) (hts : ∀ w ∈ lw_tbl, w.before #[Value.ref b] s = true) (hX : va_X b 41 (fun j => scr.getD j 0) s s.heap) (hbl : b < s.heap.size) (hlocks : meth.locks = false) (hgv : (Jvm.Cond.and given_1 narrow_1).before #[Value.ref b] s = true) (hM : jMore #[Value.ref b] s) : W p l e jRoom s m #[Value.ref b] below meth c s.heap [] 0 0 (lw_Z below s) (entryFrame m ([Value.ref b] : List Value).toArray 15) := by
  have hst : l.stackTraces = false := by
    unfold Launch.stackTraces
    rw [hflags]
    decide
  have htb := jTbl_all hts hM.1
  obtain ⟨g, g1, g2, g3, g4, hS, hZ, hk⟩ := jStart htb hX hbl hgv hM.2.1
  obtain ⟨z0, s0, s1, r0⟩ := sig0_ok g s.heap.size g1 hk (jKv hZ hM.2.2)
  obtain ⟨τ, hJ, ht⟩ := s_law (g := g) g3 (by rw [g4]; exact scr_0) (fun i h1 h2 => by rw [g4]; exact (scr_1 i (by omega)).1 ⟨h1, h2⟩) (fun i h1 h2 => by rw [g4]; exact (scr_1 i (by omega)).2 h1) z0 (by rw [g1]; exact Nat.le_refl _) s0 s1
  have C : jC p l s m #[Value.ref b] meth c g RL cL_law 15 (some .boolean) := ⟨hx, hb, hml, hown, fun w hw => htb w (gT_sub w hw), hlocks, hst, hr, hS, hZ⟩
  have hl := lv_entry ([.ref b]) (n := 15) (Nat.le_of_ble_eq_true rfl)
  rw [lg_entry_eq]
  have K := w_L_law l hst (e := e) (below := below) (Q := lw_Z below s) C (htb _ ao_SA) (fun k n lv t _ _ he => by
    have et : t = τ := by injection he with he; exact (Prod.mk.inj he).2
    intro H locs ls h1 h2 h3
    refine lw_ret hx hb hr hlocks dL_law_493 ?_
    have hh : H.size = tpH t := h1.1
    rw [hh, et]
    exact ht) (sig0 g s.heap.size) hJ
  refine K s.heap [] _ (r0 s.heap rfl) va_S.rf ?_
  rw [hml, g2]
  exact hl
set_option maxHeartbeats 4000000 in
theorem lw_walk (l : Launch) (hflags : l.flags = flags0) (b : Addr) : MetFree l x (headSpec (Jvm.Cond.code x code maxLocals ret :: tables_1) jRoom) (lw_P b) (fun _ _ _ _ _ => True) (fun _ s o t => lw_Q s o t) := by
  refine MetFree.of_bodyS (code := code) (maxLocals := maxLocals) (ret := ret) (by decide) ?_ ?_
  · intro args s m h hn
    obtain ⟨meth, c, h1, h2, h3, h4, h5, h6, -, -⟩ := Cond.code_spec hn (atoms_spec (ws := Jvm.Cond.code x code maxLocals ret :: tables_1) h _ List.mem_cons_self)
    exact ⟨meth, c, h1, h2, h3, h4, h5, h6⟩
  · intro p e s m args below meth c s₁ B hml0 hP _
    obtain ⟨rfl, hx, hgv, hM⟩ := hP
    obtain ⟨scr', harrAt, hlist, hof, hsmall⟩ := hx
    obtain ⟨hcb, hkn, -, -⟩ := State.arrayAt?_spec harrAt
    have hown : s.vm.findClass RL = some m.cls := findClass_of_methodNamed B.named
    have hts0 : ∀ c ∈ (Jvm.Cond.code x code maxLocals ret :: tables_1), c.before #[Value.ref b] s = true := atoms_spec (ws := Jvm.Cond.code x code maxLocals ret :: tables_1) B.pre
    have hts : ∀ w ∈ lw_tbl, w.before #[Value.ref b] s = true := k2_hts_sels lw_privs (fun w hw => hts0 w (List.mem_cons_of_mem _ hw)) lw_privs_ok
    have hml : c.maxLocals = 15 := B.maxLocals_eq (hts0 _ List.mem_cons_self)
    have X₀ : Stand p l e jRoom s m #[Value.ref b] below meth c s₁ [] 0 0 := Stand.of_body B
    have hh0 : s₁.heap = s.heap := by rw [B.state]; rfl
    have hsz : scr'.slots.size = scr.length := by rw [← Array.length_toList, hlist, List.length_map]
    have hval : ∀ j : Nat, j < scr.length → scr'.slots[j]? = some (.int (scr.getD j 0)) := fun j hj => by
      rw [← Array.getElem?_toList, hlist]
      simp [hj]
    have hbl : b < s.heap.size := (Array.getElem?_eq_some_iff.mp hcb).1
    have hX : va_X b 41 (fun j => scr.getD j 0) s s.heap := ⟨scr', hcb, hof, hkn, by rw [hsz, scr_len], fun j hj => hval j (by rw [scr_len]; exact hj)⟩
    have K : W p l e jRoom s m #[Value.ref b] below meth c s₁.heap [] 0 0 (lw_Z below s) (entryFrame m ([Value.ref b] : List Value).toArray 15) := by
      rw [hh0]
      exact p29_start l hflags B.exec B.bytes B.returns hml hown hts hX hbl B.notSynchronized hgv hM
    obtain ⟨t, a1, o, b1, b2, b3⟩ := K s₁ rfl X₀
    exact ⟨t, o, a1, b1, b2, b3⟩
/-- FROM ANY STATE: where the Statement's own premises hold, the script is this one, and there is room enough (jRoom), the law ends with at least 245922 new cells: more than the 243177 that the Statement grants -/
theorem too_many (l : Launch) (hflags : l.flags = flags0) {p : Program} {e : Env} (ha : l.admits e) (hc : FairCas e.choices) (hk : FairClock e.choices) {s : State} {m : MethodId} {b : Addr} {below : List Frame} (hf : s.frames = Frame.invoking m #[Value.ref b] :: below) (happ : (headSpec (Jvm.Cond.code x code maxLocals ret :: tables_1) jRoom).applies x e.platform s = true) (hP : lw_P b #[Value.ref b] s) {n : Nat} {o : Outcome} (hw : ∀ k, k < n → Within (stepsAlone p.tables e k s) below) (he : Ended (stepsAlone p.tables e n s) below o) {L : List Loc} {z : Nat} (hF : Framed s o (stepsAlone p.tables e n s) L 243177 z) : False := by
  obtain ⟨n', o', w', -, e', hQ⟩ := lw_walk l hflags b p e ha hc hk s m _ below hf ((Spec.applies_iff_loose hf).mp happ).1 hP trivial
  have hn : n' = n := by
    rcases Nat.lt_trichotomy n' n with q | q | q
    · exact absurd (hw n' q) e'.not_within
    · exact q
    · exact absurd (w' n q) he.not_within
  rw [hn] at hQ
  have h1 : (stepsAlone p.tables e n s).heap.size ≤ s.heap.size + 243177 := hF.2.2.2.2.1
  have h2 : s.heap.size + 7233 * 34 ≤ (stepsAlone p.tables e n s).heap.size := hQ
  omega
