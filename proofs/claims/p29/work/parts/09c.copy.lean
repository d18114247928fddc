/-! bytes copied, arrays cloned -/
section JCPY
variable {p : Program} {l : Launch} {e : Env} {R : Room} {s : State} {m : MethodId} {args : Array Value} {below : List Frame} {meth : Method} {c : Code} {g : jG} {Q : State → Prop} {own : String} {cc : ByteArray} {nL k n pc : Nat} {rt : Option FieldType} {lv lv' : List (Nat × Value)} {st : List Value} {σ τ : Hp} {X : jO × Hp} {o : jO} {mc ms : Nat}
/-- the cell of an array of bytes, of ours or a text's -/
theorem jSrc (C : jC p l s m args meth c g own cc nL rt) {H : Heap} {locs : List Loc} (h1 : jRel g σ H) (h2 : va_S (jA g) s.heap H locs) {a : Nat} (hk : jByt σ a) : ∃ scr : Cell, H[a]? = some scr ∧ s.isArrayOf scr .byte ∧ scr.vm ≠ .unknown ∧ (kdH σ a).2 ≤ scr.slots.size ∧ ∀ j : Nat, j < (kdH σ a).2 → scr.slots[j]? = some (.int (inH σ a j)) := by
  rcases hk with hk | hk
  · have hc := (h1.my (jk2 hk)).2
    rw [jEl_byt (jk2 hk)] at hc
    have hc1 : H[a]? = some (vp_cell (gcB g) ((kdH σ a).2, .inl (inH σ a))) := hc
    refine ⟨_, hc1, (C.2.2.2.2.2.2.2.2.1.1.2 1 _ rfl).1 _ _, (fun q => by cases q), ?_, fun j hj => ?_⟩
    · rw [vp_cell_i, arrV_size]
      exact Nat.le_refl _
    · rw [vp_cell_i, arrV_read _ _ hj]
  · obtain ⟨cell, g1, g2, g3, g4, g5, g6, g7⟩ := jTxt C h1 hk
    exact ⟨cell, by rw [h2.2.1 a (Array.getElem?_eq_some_iff.mp g1).1 g7]; exact g1, g2, g3, g4, g6⟩
theorem r_copyB (C : jC p l s m args meth c g own cc nL rt) {index a b : Nat} {sp dp z : Int32} {K : Hp → jR} (pc' : Nat) (hp : pc + 3 = pc') (hlink : Cond.methodLink own index arraycopyName ∈ gT) (hnat : Cond.native arraycopyName ∈ gT) (hstat : Cond.static arraycopyName ∈ gT) (hini : Cond.initialized "java/lang/System" ∈ gT) (hd : decode cc pc = .ok (.invokestatic index, 3))
    (hframes : 1 ≤ R.frames) (hlocals : (st.map fun v => v.category).sum + (nativeFrameWords "java/lang/System" "arraycopy" 5 + 11) ≤ R.locals) (h : jcpB σ a b sp dp z K = some X)
    (kk : ∀ τ, K τ = some X → jW p l e R s m args below meth c g Q k n pc' lv st τ) : jW p l e R s m args below meth c g Q k n pc lv (.int z :: .int dp :: .ref b :: .int sp :: .ref a :: st) σ := by
  subst hp
  obtain ⟨⟨ha, hb, hfit, g1, g2, g3, g4, g5⟩, h'⟩ := ite_some h
  have nn : ∀ z : Int32, ¬ z < 0 → z.toInt = (z.toNatClampNeg : Int) := by
    intro z hz
    have hz0 : (0 : Int) ≤ z.toInt := by
      have := Int32.not_lt.mp hz
      simpa using Int32.le_iff_toInt_le.mp this
    show z.toInt = ((z.toInt.toNat : Nat) : Int)
    omega
  intro H locs ls h1 h2 h3 T hT XX
  obtain ⟨scr, hc0, hs2, hs3, hs4, hs5⟩ := jSrc C h1 h2 ha
  have hc := (h1.my (jk2 hb)).2
  rw [jEl_byt (jk2 hb)] at hc
  have hc1 : H[b]? = some (vp_cell (gcB g) ((kdH σ b).2, .inl (inH σ b))) := hc
  have hts := C.2.2.2.2.1
  obtain ⟨hs6, k0, hk0, cm0, hkk0⟩ := hs2
  obtain ⟨-, k1, hk1, cm1, hkk1⟩ := (C.2.2.2.2.2.2.2.2.1.1.2 1 (gcB g, .byte) rfl).1 (kdH σ b).2 (fun j => .int (inH σ b j))
  obtain ⟨vm', X', step⟩ := XX.arraycopy C.1 C.2.2.2.1 (hts _ hlink) (hts _ hnat) (hts _ hstat) (hts _ hini) (src := a) (dst := b) (cs := scr) (cd := vp_cell (gcB g) ((kdH σ b).2, .inl (inH σ b))) (srcPos := sp) (destPos := dp) (n := z) (by rw [hT]; exact hc0) (by rw [hT]; exact hc1)
    hs6 (fun _ h => by cases h) hs3 (fun h => by cases h) hk0 hk1 hkk0 hkk1 (by simp [refKind]) g1 g2 g3
    (by rw [nn sp g1, nn z g3]; omega)
    (by rw [nn dp g2, nn z g3]; show ¬ _ > ((arrV (gcB g) (kdH σ b).2 (fun j => .int (inH σ b j))).slots.size : Int); rw [arrV_size]; omega)
    (fun vm₁ _ i hi => by
      have e : scr.slots.getD (sp.toNatClampNeg + i) .null = .int (inH σ a (sp.toNatClampNeg + i)) := by
        rw [Array.getD_eq_getD_getElem?, hs5 _ (by omega)]
        rfl
      refine ⟨?_, ?_⟩
      · rw [e]
        exact hfit _
      · rw [e]
        exact trivial)
    (g := F0 m pc ls (.int z :: .int dp :: .ref b :: .int sp :: .ref a :: st)) rfl (by rw [h3.1]) (rest := st) rfl (by rw [C.2.1]; exact hd) hframes (by show 2 * 0 + _ + _ ≤ _; omega)
  have e1 : copied scr (vp_cell (gcB g) ((kdH σ b).2, .inl (inH σ b))) sp dp z = vp_cell (gcB g) ((kdH σ b).2, .inl (va_cpy (inH σ a) (inH σ b) sp.toNatClampNeg dp.toNatClampNeg z.toNatClampNeg)) := va_copiedX (fun z => .int z) scr (gcB g) (inH σ a) (inH σ b) hs5 g4
  rw [e1] at X' step
  have hl : b < H.size := (Array.getElem?_eq_some_iff.mp hc1).1
  generalize hnw : vp_cell (gcB g) ((kdH σ b).2, .inl (va_cpy (inH σ a) (inH σ b) sp.toNatClampNeg dp.toNatClampNeg z.toNatClampNeg)) = nw at X' step
  have hheap : ((T.setVm vm').setCell b nw).heap = H.setIfInBounds b nw := by rw [← hT]; rfl
  have oq : ∀ q : Nat, q ≠ b → (H.setIfInBounds b nw)[q]? = H[q]? := fun q hq => by simp [Array.getElem?_setIfInBounds, Ne.symm hq]
  have hA : jA g b := (h1.my (jk2 hb)).1
  have hat : va_at (gDs g) jCl (b, jEl g (cpB σ a b sp.toNatClampNeg dp.toNatClampNeg z.toNatClampNeg) b) (H.setIfInBounds b nw) := by
    rw [jEl_byt (σ := cpB σ a b sp.toNatClampNeg dp.toNatClampNeg z.toNatClampNeg) (jk2 hb)]
    have e9 : inH (cpB σ a b sp.toNatClampNeg dp.toNatClampNeg z.toNatClampNeg) b = va_cpy (inH σ a) (inH σ b) sp.toNatClampNeg dp.toNatClampNeg z.toNatClampNeg := by simp [inH, cpB, u1]
    rw [e9]
    show (H.setIfInBounds b nw)[b]? = some _
    rw [← hnw]
    simp [Array.getElem?_setIfInBounds, hl]
    rfl
  obtain ⟨t, a1, b1⟩ := kk _ h' _ _ ls (h1.upd (τ := cpB σ a b sp.toNatClampNeg dp.toNatClampNeg z.toNatClampNeg) hA rfl rfl hat (by simp) oq (fun q hq j => by simp only [inH, cpB, u1]; rw [if_neg hq]) (fun q hq j => rfl)) ⟨by simp; exact h2.1, fun q g1 g2 => by
      rw [oq q (fun e => g2 (by rw [e]; exact hA))]
      exact h2.2.1 q g1 g2, fun q hq => by
      rcases List.mem_append.mp hq with h | h
      · exact h2.2.2 q h
      · obtain ⟨z, -, hz⟩ := List.mem_map.mp h
        rw [← hz]
        exact hA⟩ h3 _ hheap X'
  exact ⟨t, step t a1, b1⟩
/-- a new cell like an old one -/
theorem jRel.cl {H H1 : Heap} (h : jRel g σ H) {a : Nat} (hk : (kdH σ a).1 = 6) (hz : H1.size = H.size + 1) (oq : ∀ q : Nat, q < H.size → H1[q]? = H[q]?) (he : H1[H.size]? = some (vp_cell (gcB g) ((kdH σ a).2, .inl (inH σ a)))) : jRel g (clB σ a) H1 := by
  have k0 : kdH (clB σ a) (tpH σ) = kdH σ a := by show u1 (kdH σ) (tpH σ) (kdH σ a) (tpH σ) = _; simp [u1]
  have kq : ∀ q, q ≠ tpH σ → kdH (clB σ a) q = kdH σ q := fun q e => by show u1 (kdH σ) (tpH σ) _ q = _; simp [u1, e]
  have iq : ∀ q, q ≠ tpH σ → ∀ j, inH (clB σ a) q j = inH σ q j := fun q e j => by simp only [inH, clB, u1]; rw [if_neg e]
  have rq : ∀ q, q ≠ tpH σ → ∀ j, rfH (clB σ a) q j = rfH σ q j := fun q e j => by simp only [rfH, clB, u1]; rw [if_neg e]
  refine ⟨by rw [hz, h.1]; rfl, Nat.le_succ_of_le h.2.1, fun q hq hn => ?_, fun q hq => ?_⟩
  · by_cases e : q = tpH σ
    · subst e
      refine ⟨h.2.1, ?_⟩
      rw [jEl_byt (σ := clB σ a) (n := (kdH σ a).2) (by rw [k0]; exact jk2 hk)]
      have e9 : inH (clB σ a) (tpH σ) = inH σ a := by simp [inH, clB, u1]
      rw [e9]
      show H1[tpH σ]? = some _
      rw [← h.1]
      exact he
    · rw [kq q e] at hq hn
      have h9 := h.2.2.1 q hq hn
      rw [jEl_congr (kq q e) (iq q e) (rq q e)]
      exact ⟨h9.1, h9.2.kept (oq q h9.2.lt)⟩
  · by_cases e : q = tpH σ
    · subst e
      rw [k0] at hq
      rcases hq with hq | hq <;> rw [hk] at hq <;> cases hq
    · rw [kq q e] at hq
      exact ⟨(h.2.2.2 q hq).1, jKc_congr (kq q e) (iq q e) (rq q e) (h.2.2.2 q hq).2⟩
theorem r_clone (C : jC p l s m args meth c g own cc nL rt) {index a M : Nat} {K : Nat → Hp → jR} (pc' : Nat) (hp : pc + 3 = pc') (hlink : Cond.methodLink own index ⟨"[B", "clone", "()Ljava/lang/Object;"⟩ ∈ gT) (hd : decode cc pc = .ok (.invokevirtual index, 3))
    (hframes : 1 ≤ R.frames) (hlocals : (st.map fun v => v.category).sum + 14 ≤ R.locals) (hk' : k + 1 ≤ R.cells) (hn' : n + M ≤ R.slots) (h : jcl σ a M K = some X)
    (kk : ∀ a τ, K a τ = some X → jW p l e R s m args below meth c g Q (k + 1) (n + M) pc' lv (.ref a :: st) τ) : jW p l e R s m args below meth c g Q k n pc lv (.ref a :: st) σ := by
  subst hp
  obtain ⟨⟨hk, hfit, hM⟩, h'⟩ := ite_some h
  intro H locs ls h1 h2 h3
  have hc := (h1.my (jk2 hk)).2
  rw [jEl_byt (jk2 hk)] at hc
  have hc1 : H[a]? = some (vp_cell (gcB g) ((kdH σ a).2, .inl (inH σ a))) := hc
  have hts := C.2.2.2.2.1
  have hK := C.2.2.2.2.2.2.2.2.1.1
  have hca := C.2.2.2.2.2.2.2.2.1.2.1 (.castable "[B" "java/lang/Cloneable") (by simp [jNt])
  obtain ⟨c0, t0', f1, f2, f3⟩ := Cond.castable_spec (va_Nw.use (A := args) rfl hca)
  have hnm := (hK.2 1 (gcB g, .byte) rfl).2
  have hnm' : s.vm.findClass "[B" = some (gcB g) := hnm
  cases hnm'.symm.trans f1
  intro T hT XX
  have hcellT : T.heap[a]? = some (vp_cell (gcB g) ((kdH σ a).2, .inl (inH σ a))) := by rw [hT]; exact hc1
  have hsz : (vp_cell (gcB g) ((kdH σ a).2, .inl (inH σ a))).slots.size = (kdH σ a).2 := arrV_size _ _ _
  obtain ⟨-, kA, hkA, comp, hkind⟩ := State.isArrayOf_alike XX.warmed.alike ((hK.2 1 (gcB g, .byte) rfl).1 0 (fun _ => .null))
  obtain ⟨-, kS, hkS, compS, hkindS⟩ := (hK.2 1 (gcB g, .byte) rfl).1 0 (fun _ => .null)
  obtain ⟨vm', X', st9⟩ := XX.cloneArray C.1 C.2.2.2.1 (hts _ hlink) (hts _ sm_B_clone) (hts _ nat_clone) (hts _ im_clone) (hts _ se_B_clone) (a := a) (cell := vp_cell (gcB g) ((kdH σ a).2, .inl (inH σ a))) hcellT (fun k h => by cases h) (fun h => by cases h) hnm' f2 f3
    (fun i v hv => by
      have hk' : T.vm.classes[gcB g]? = some kA := hkA
      have hv' : (arrV (gcB g) (kdH σ a).2 (fun j => .int (inH σ a j))).slots[i]? = some v := hv
      have hi : i < (kdH σ a).2 := by
        have := (Array.getElem?_eq_some_iff.mp hv').1
        rw [arrV_size] at this
        exact this
      rw [arrV_read _ _ hi] at hv'
      cases hv'
      have := hfit i
      show T.fitsSlot (gcB g) _ i _ = true
      simpa [State.fitsSlot, State.slotType?, hk', hkind, vp_cell, arrV] using this)
    (g := F0 m pc ls (.ref a :: st)) rfl (by rw [h3.1]) rfl (by rw [C.2.1]; exact hd) hframes (by show 2 * 0 + _ + 14 ≤ _; omega) hk' (by rw [hsz]; omega) (hloader := Vm.clonesLoader_of_array hkS hkindS)
  have hcellE : ({ cls := (vp_cell (gcB g) ((kdH σ a).2, .inl (inH σ a))).cls, slots := (vp_cell (gcB g) ((kdH σ a).2, .inl (inH σ a))).slots } : Cell) = vp_cell (gcB g) ((kdH σ a).2, .inl (inH σ a)) := rfl
  rw [hcellE, hsz] at X'
  generalize hH1 : H.push (vp_cell (gcB g) ((kdH σ a).2, .inl (inH σ a))) = H1
  have z1 : H1.size = H.size + 1 := by rw [← hH1, Array.size_push]
  have e1 : H1[H.size]? = some (vp_cell (gcB g) ((kdH σ a).2, .inl (inH σ a))) := by rw [← hH1, Array.getElem?_push_size]
  have o1 : ∀ q : Nat, q < H.size → H1[q]? = H[q]? := fun q hq => by rw [← hH1, Array.getElem?_push, if_neg (Nat.ne_of_lt hq)]
  have e0 : tpH σ = H.size := h1.1.symm
  have h'' : K H.size (clB σ a) = some X := by rw [← e0]; exact h'
  obtain ⟨t, b1, b2⟩ := W.widen (Nat.le_refl _) (show n + (kdH σ a).2 ≤ n + M by omega) (kk _ _ h'' H1 locs ls (h1.cl hk z1 o1 e1) ⟨by rw [z1]; exact Nat.le_succ_of_le h2.1, fun q a b => (o1 q (Nat.lt_of_lt_of_le a h2.1)).trans (h2.2.1 q a b), h2.2.2⟩ h3) ((T.setVm vm').pushCell (vp_cell (gcB g) ((kdH σ a).2, .inl (inH σ a)))) (by rw [← hH1, ← hT]; rfl) X'
  refine ⟨t, st9 t ?_, b2⟩
  rw [hcellE, hT]
  exact b1
end JCPY
