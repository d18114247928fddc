section JCALLS
variable {p : Program} {l : Launch} {e : Env} {R : Room} {s : State} {m : MethodId} {args : Array Value} {below : List Frame} {meth : Method} {c : Code} {g : jG} {Q : State → Prop} {own : String} {cc : ByteArray} {nL k n pc : Nat} {rt : Option FieldType} {lv lv' : List (Nat × Value)} {st : List Value} {σ τ : Hp} {X : jO × Hp} {o : jO} {mc ms : Nat}
theorem r_newI (C : jC p l s m args meth c g own cc nL rt) {i : Int32} {M : Nat} {K : Nat → Hp → jR} (pc' : Nat) (hp : pc + 2 = pc') (hw : Cond.arrayClass .int ∈ gT) (hd : decode cc pc = .ok (.newarray .int, 2)) (hM : M ≤ 100000) (hk' : k + 1 ≤ R.cells) (hn' : n + M ≤ R.slots) (h : jnA σ 2 M i K = some X)
    (kk : ∀ a τ, K a τ = some X → jW p l e R s m args below meth c g Q (k + 1) (n + M) pc' lv (.ref a :: st) τ) : jW p l e R s m args below meth c g Q k n pc lv (.int i :: st) σ := by
  subst hp
  obtain ⟨⟨hi, hm⟩, h⟩ := jif_some h
  intro H locs ls h1 h2 h3
  refine va_newaK C.1 C.2.1 (atype := .int) (C.2.2.2.2.1 _ hw) rfl hd rfl hi rfl (by show i.toNatClampNeg * 4 ≤ 536870912; omega) hk' (by omega) rfl fun H1 cA e1 z1 o1 hAr hNm => ?_
  have hI : cA = gcI g := Option.some.inj (hNm.symm.trans (C.2.2.2.2.2.2.2.2.1.1.2 0 _ rfl).2)
  subst hI
  have e0 : tpH σ = H.size := h1.1.symm
  refine W.widen (Nat.le_refl _) (show n + i.toNatClampNeg ≤ n + M by omega) ?_
  have h' : K H.size (nwS σ (2, i.toNatClampNeg)) = some X := by rw [← e0]; exact h
  refine kk _ _ h' H1 locs ls (h1.new (2, i.toNatClampNeg) z1 o1 (by simp [jOld]) (fun _ => ?_)) ⟨by rw [z1]; exact Nat.le_succ_of_le h2.1, fun q a b => (o1 q (Nat.lt_of_lt_of_le a h2.1)).trans (h2.2.1 q a b), h2.2.2⟩ h3
  have hkd : kdH (nwS σ (2, i.toNatClampNeg)) H.size = (2, i.toNatClampNeg) := by show u1 (kdH σ) (tpH σ) _ H.size = _; simp [u1, e0]
  rw [jEl_int hkd]
  show H1[H.size]? = some (vp_cell _ _)
  rw [e1, vp_cell_i]
  congr 2
  funext j
  have : inH (nwS σ (2, i.toNatClampNeg)) H.size j = 0 := by simp [inH, nwS, u1, e0]
  rw [this]
  rfl
theorem r_newT (C : jC p l s m args meth c g own cc nL rt) {index : Nat} {i : Int32} {M : Nat} {K : Nat → Hp → jR} (pc' : Nat) (hp : pc + 3 = pc') (hw : Cond.classLink own index RX4 ∈ gT) (hd : decode cc pc = .ok (.anewarray index, 3)) (hM : M ≤ 100000) (hk' : k + 1 ≤ R.cells) (hn' : n + M ≤ R.slots) (h : jnA σ 5 M i K = some X)
    (kk : ∀ a τ, K a τ = some X → jW p l e R s m args below meth c g Q (k + 1) (n + M) pc' lv (.ref a :: st) τ) : jW p l e R s m args below meth c g Q k n pc lv (.int i :: st) σ := by
  subst hp
  obtain ⟨⟨hi, hm⟩, h⟩ := jif_some h
  intro H locs ls h1 h2 h3
  refine W.anew C.1 C.2.1 C.2.2.2.1 (C.2.2.2.2.1 _ hw) (va_AO.use (A := args) C.2.2.2.2.2.2.2.2.1.2.2.2.1) rfl hd rfl hi (by omega) hk' (by omega) fun cA kA comp g1 g2 g3 g4 => ?_
  obtain ⟨kA', comp', -, -, -, g5⟩ := (C.2.2.2.2.2.2.2.2.1.1.2 3 (gcT g, .object RX4) rfl).2
  have hI : cA = gcT g := Option.some.inj (g1.symm.trans g5)
  subst hI
  have e0 : tpH σ = H.size := h1.1.symm
  refine W.widen (Nat.le_refl _) (show n + i.toNatClampNeg ≤ n + M by omega) ?_
  have h' : K H.size (nwS σ (5, i.toNatClampNeg)) = some X := by rw [← e0]; exact h
  have o1 : ∀ (x : Cell) (q : Nat), q < H.size → (H.push x)[q]? = H[q]? := fun x q hq => by rw [Array.getElem?_push, if_neg (Nat.ne_of_lt hq)]
  refine kk _ _ h' _ locs ls (h1.new (5, i.toNatClampNeg) (by simp) (o1 _) (by simp [jOld]) (fun _ => ?_)) ⟨by simp only [Array.size_push]; exact Nat.le_succ_of_le h2.1, fun q a b => (o1 _ q (Nat.lt_of_lt_of_le a h2.1)).trans (h2.2.1 q a b), h2.2.2⟩ h3
  have hkd : kdH (nwS σ (5, i.toNatClampNeg)) H.size = (5, i.toNatClampNeg) := by show u1 (kdH σ) (tpH σ) _ H.size = _; simp [u1, e0]
  rw [jEl_txt hkd]
  show (H.push _)[H.size]? = some (vp_cell _ _)
  rw [vp_cell_q]
  have e8 : (fun j => va_rf (rfH (nwS σ (5, i.toNatClampNeg)) H.size j)) = fun _ => Value.null := by
    funext j
    have : rfH (nwS σ (5, i.toNatClampNeg)) H.size j = none := by simp [rfH, nwS, u1, e0]
    rw [this]
    rfl
  rw [e8, ← arrV_new]
  simp
theorem r_newB (C : jC p l s m args meth c g own cc nL rt) {i : Int32} {M : Nat} {K : Nat → Hp → jR} (pc' : Nat) (hp : pc + 2 = pc') (hw : Cond.arrayClass .byte ∈ gT) (hd : decode cc pc = .ok (.newarray .byte, 2)) (hM : M ≤ 100000) (hk' : k + 1 ≤ R.cells) (hn' : n + M ≤ R.slots) (h : jnA σ 6 M i K = some X)
    (kk : ∀ a τ, K a τ = some X → jW p l e R s m args below meth c g Q (k + 1) (n + M) pc' lv (.ref a :: st) τ) : jW p l e R s m args below meth c g Q k n pc lv (.int i :: st) σ := by
  subst hp
  obtain ⟨⟨hi, hm⟩, h⟩ := jif_some h
  intro H locs ls h1 h2 h3
  refine va_newaK C.1 C.2.1 (atype := .byte) (C.2.2.2.2.1 _ hw) rfl hd rfl hi rfl (by show i.toNatClampNeg * 1 ≤ 536870912; omega) hk' (by omega) rfl fun H1 cA e1 z1 o1 hAr hNm => ?_
  have hI : cA = gcB g := Option.some.inj (hNm.symm.trans (C.2.2.2.2.2.2.2.2.1.1.2 1 _ rfl).2)
  subst hI
  have e0 : tpH σ = H.size := h1.1.symm
  refine W.widen (Nat.le_refl _) (show n + i.toNatClampNeg ≤ n + M by omega) ?_
  have h' : K H.size (nwS σ (6, i.toNatClampNeg)) = some X := by rw [← e0]; exact h
  refine kk _ _ h' H1 locs ls (h1.new (6, i.toNatClampNeg) z1 o1 (by simp [jOld]) (fun _ => ?_)) ⟨by rw [z1]; exact Nat.le_succ_of_le h2.1, fun q a b => (o1 q (Nat.lt_of_lt_of_le a h2.1)).trans (h2.2.1 q a b), h2.2.2⟩ h3
  have hkd : kdH (nwS σ (6, i.toNatClampNeg)) H.size = (6, i.toNatClampNeg) := by show u1 (kdH σ) (tpH σ) _ H.size = _; simp [u1, e0]
  rw [jEl_byt hkd]
  show H1[H.size]? = some (vp_cell _ _)
  rw [e1, vp_cell_i]
  congr 2
  funext j
  have : inH (nwS σ (6, i.toNatClampNeg)) H.size j = 0 := by simp [inH, nwS, u1, e0]
  rw [this]
  rfl
theorem r_newC (C : jC p l s m args meth c g own cc nL rt) {i : Int32} {M : Nat} {K : Nat → Hp → jR} (pc' : Nat) (hp : pc + 2 = pc') (hw : Cond.arrayClass .char ∈ gT) (hd : decode cc pc = .ok (.newarray .char, 2)) (hM : M ≤ 100000) (hk' : k + 1 ≤ R.cells) (hn' : n + M ≤ R.slots) (h : jnA σ 7 M i K = some X)
    (kk : ∀ a τ, K a τ = some X → jW p l e R s m args below meth c g Q (k + 1) (n + M) pc' lv (.ref a :: st) τ) : jW p l e R s m args below meth c g Q k n pc lv (.int i :: st) σ := by
  subst hp
  obtain ⟨⟨hi, hm⟩, h⟩ := jif_some h
  intro H locs ls h1 h2 h3
  refine va_newaK C.1 C.2.1 (atype := .char) (C.2.2.2.2.1 _ hw) rfl hd rfl hi rfl (by show i.toNatClampNeg * 2 ≤ 536870912; omega) hk' (by omega) rfl fun H1 cA e1 z1 o1 hAr hNm => ?_
  have hI : cA = gcC g := Option.some.inj (hNm.symm.trans (C.2.2.2.2.2.2.2.2.1.1.2 2 _ rfl).2)
  subst hI
  have e0 : tpH σ = H.size := h1.1.symm
  refine W.widen (Nat.le_refl _) (show n + i.toNatClampNeg ≤ n + M by omega) ?_
  have h' : K H.size (nwS σ (7, i.toNatClampNeg)) = some X := by rw [← e0]; exact h
  refine kk _ _ h' H1 locs ls (h1.new (7, i.toNatClampNeg) z1 o1 (by simp [jOld]) (fun _ => ?_)) ⟨by rw [z1]; exact Nat.le_succ_of_le h2.1, fun q a b => (o1 q (Nat.lt_of_lt_of_le a h2.1)).trans (h2.2.1 q a b), h2.2.2⟩ h3
  have hkd : kdH (nwS σ (7, i.toNatClampNeg)) H.size = (7, i.toNatClampNeg) := by show u1 (kdH σ) (tpH σ) _ H.size = _; simp [u1, e0]
  rw [jEl_chr hkd]
  show H1[H.size]? = some (vp_cell _ _)
  rw [e1, vp_cell_i]
  congr 2
  funext j
  have : inH (nwS σ (7, i.toNatClampNeg)) H.size j = 0 := by simp [inH, nwS, u1, e0]
  rw [this]
  rfl
theorem r_newS (C : jC p l s m args meth c g own cc nL rt) {index : Nat} {i : Int32} {M : Nat} {K : Nat → Hp → jR} (pc' : Nat) (hp : pc + 3 = pc') (hw : Cond.classLink own index RJ0 ∈ gT) (hd : decode cc pc = .ok (.anewarray index, 3)) (hM : M ≤ 100000) (hk' : k + 1 ≤ R.cells) (hn' : n + M ≤ R.slots) (h : jnA σ 8 M i K = some X)
    (kk : ∀ a τ, K a τ = some X → jW p l e R s m args below meth c g Q (k + 1) (n + M) pc' lv (.ref a :: st) τ) : jW p l e R s m args below meth c g Q k n pc lv (.int i :: st) σ := by
  subst hp
  obtain ⟨⟨hi, hm⟩, h⟩ := jif_some h
  intro H locs ls h1 h2 h3
  refine W.anew C.1 C.2.1 C.2.2.2.1 (C.2.2.2.2.1 _ hw) (va_AO.use (A := args) C.2.2.2.2.2.2.2.2.1.2.2.2.2.2.1) rfl hd rfl hi (by omega) hk' (by omega) fun cA kA comp g1 g2 g3 g4 => ?_
  obtain ⟨kA', comp', -, -, -, g5⟩ := (C.2.2.2.2.2.2.2.2.1.1.2 4 (gcS g, .object RJ0) rfl).2
  have hI : cA = gcS g := Option.some.inj (g1.symm.trans g5)
  subst hI
  have e0 : tpH σ = H.size := h1.1.symm
  refine W.widen (Nat.le_refl _) (show n + i.toNatClampNeg ≤ n + M by omega) ?_
  have h' : K H.size (nwS σ (8, i.toNatClampNeg)) = some X := by rw [← e0]; exact h
  have o1 : ∀ (x : Cell) (q : Nat), q < H.size → (H.push x)[q]? = H[q]? := fun x q hq => by rw [Array.getElem?_push, if_neg (Nat.ne_of_lt hq)]
  refine kk _ _ h' _ locs ls (h1.new (8, i.toNatClampNeg) (by simp) (o1 _) (by simp [jOld]) (fun _ => ?_)) ⟨by simp only [Array.size_push]; exact Nat.le_succ_of_le h2.1, fun q a b => (o1 _ q (Nat.lt_of_lt_of_le a h2.1)).trans (h2.2.1 q a b), h2.2.2⟩ h3
  have hkd : kdH (nwS σ (8, i.toNatClampNeg)) H.size = (8, i.toNatClampNeg) := by show u1 (kdH σ) (tpH σ) _ H.size = _; simp [u1, e0]
  rw [jEl_str hkd]
  show (H.push _)[H.size]? = some (vp_cell _ _)
  rw [vp_cell_q]
  have e8 : (fun j => va_rf (rfH (nwS σ (8, i.toNatClampNeg)) H.size j)) = fun _ => Value.null := by
    funext j
    have : rfH (nwS σ (8, i.toNatClampNeg)) H.size j = none := by simp [rfH, nwS, u1, e0]
    rw [this]
    rfl
  rw [e8, ← arrV_new]
  simp
/-! System.arraycopy within one row of ints -/
theorem r_copy (C : jC p l s m args meth c g own cc nL rt) {index a b : Nat} {sp dp z : Int32} {K : Hp → jR} (pc' : Nat) (hp : pc + 3 = pc') (hlink : Cond.methodLink own index arraycopyName ∈ gT) (hnat : Cond.native arraycopyName ∈ gT) (hstat : Cond.static arraycopyName ∈ gT) (hini : Cond.initialized "java/lang/System" ∈ gT) (hd : decode cc pc = .ok (.invokestatic index, 3))
    (hframes : 1 ≤ R.frames) (hlocals : (st.map fun v => v.category).sum + (nativeFrameWords "java/lang/System" "arraycopy" 5 + 11) ≤ R.locals) (h : jcp σ a b sp dp z K = some X)
    (kk : ∀ τ, K τ = some X → jW p l e R s m args below meth c g Q k n pc' lv st τ) : jW p l e R s m args below meth c g Q k n pc lv (.int z :: .int dp :: .ref b :: .int sp :: .ref a :: st) σ := by
  subst hp
  obtain ⟨⟨rfl, hk, g1, g2, g3, g4, g5⟩, h'⟩ := jif_some h
  have nn : ∀ z : Int32, ¬ z < 0 → z.toInt = (z.toNatClampNeg : Int) := by
    intro z hz
    have hz0 : (0 : Int) ≤ z.toInt := by
      have := Int32.not_lt.mp hz
      simpa using Int32.le_iff_toInt_le.mp this
    show z.toInt = ((z.toInt.toNat : Nat) : Int)
    omega
  intro H locs ls h1 h2 h3 T hT XX
  have hc := (h1.my (jk2 hk)).2
  rw [jEl_int (jk2 hk)] at hc
  have hc1 : H[a]? = some (vp_cell (gcI g) ((kdH σ a).2, .inl (inH σ a))) := hc
  have hts := C.2.2.2.2.1
  obtain ⟨-, k0, hk0, cm0, hkk0⟩ := (C.2.2.2.2.2.2.2.2.1.1.2 0 (gcI g, .int) rfl).1 (kdH σ a).2 (fun j => .int (inH σ a j))
  obtain ⟨vm', X', step⟩ := XX.arraycopy C.1 C.2.2.2.1 (hts _ hlink) (hts _ hnat) (hts _ hstat) (hts _ hini) (src := a) (dst := a) (cs := vp_cell (gcI g) ((kdH σ a).2, .inl (inH σ a))) (cd := vp_cell (gcI g) ((kdH σ a).2, .inl (inH σ a))) (srcPos := sp) (destPos := dp) (n := z) (by rw [hT]; exact hc1) (by rw [hT]; exact hc1)
    (fun _ h => by cases h) (fun _ h => by cases h) (fun h => by cases h) (fun h => by cases h) hk0 hk0 hkk0 hkk0 (by simp [refKind]) g1 g2 g3
    (by rw [nn sp g1, nn z g3]; show ¬ _ > ((arrV (gcI g) (kdH σ a).2 (fun j => .int (inH σ a j))).slots.size : Int); rw [arrV_size]; omega)
    (by rw [nn dp g2, nn z g3]; show ¬ _ > ((arrV (gcI g) (kdH σ a).2 (fun j => .int (inH σ a j))).slots.size : Int); rw [arrV_size]; omega)
    (fun vm₁ _ i hi => by
      have e : (vp_cell (gcI g) ((kdH σ a).2, .inl (inH σ a))).slots.getD (sp.toNatClampNeg + i) .null = .int (inH σ a (sp.toNatClampNeg + i)) := by
        show (arrV (gcI g) (kdH σ a).2 (fun j => .int (inH σ a j))).slots.getD _ _ = _
        rw [Array.getD_eq_getD_getElem?, arrV_read _ _ (by omega)]
        rfl
      refine ⟨?_, ?_⟩
      · rw [e]; rfl
      · rw [e]; exact trivial)
    (g := F0 m pc ls (.int z :: .int dp :: .ref a :: .int sp :: .ref a :: st)) rfl (by rw [h3.1]) (rest := st) rfl (by rw [C.2.1]; exact hd) hframes (by show 2 * 0 + _ + _ ≤ _; omega)
  have e1 : copied (vp_cell (gcI g) ((kdH σ a).2, .inl (inH σ a))) (vp_cell (gcI g) ((kdH σ a).2, .inl (inH σ a))) sp dp z = vp_cell (gcI g) ((kdH σ a).2, .inl (va_cpy (inH σ a) (inH σ a) sp.toNatClampNeg dp.toNatClampNeg z.toNatClampNeg)) := va_copied (fun z => .int z) (gcI g) (gcI g) (inH σ a) (inH σ a) g4
  rw [e1] at X' step
  have hl : a < H.size := (Array.getElem?_eq_some_iff.mp hc1).1
  have hheap : ((T.setVm vm').setCell a (vp_cell (gcI g) ((kdH σ a).2, .inl (va_cpy (inH σ a) (inH σ a) sp.toNatClampNeg dp.toNatClampNeg z.toNatClampNeg)))).heap = H.setIfInBounds a (vp_cell (gcI g) ((kdH σ a).2, .inl (va_cpy (inH σ a) (inH σ a) sp.toNatClampNeg dp.toNatClampNeg z.toNatClampNeg))) := by rw [← hT]; rfl
  have oq : ∀ q : Nat, q ≠ a → (H.setIfInBounds a (vp_cell (gcI g) ((kdH σ a).2, .inl (va_cpy (inH σ a) (inH σ a) sp.toNatClampNeg dp.toNatClampNeg z.toNatClampNeg))))[q]? = H[q]? := fun q hq => by simp [Array.getElem?_setIfInBounds, Ne.symm hq]
  have hA : jA g a := (h1.my (jk2 hk)).1
  have hat : va_at (gDs g) jCl (a, jEl g (cpS σ a sp.toNatClampNeg dp.toNatClampNeg z.toNatClampNeg) a) (H.setIfInBounds a (vp_cell (gcI g) ((kdH σ a).2, .inl (va_cpy (inH σ a) (inH σ a) sp.toNatClampNeg dp.toNatClampNeg z.toNatClampNeg)))) := by
    rw [jEl_int (σ := cpS σ a sp.toNatClampNeg dp.toNatClampNeg z.toNatClampNeg) (jk2 hk)]
    have e9 : inH (cpS σ a sp.toNatClampNeg dp.toNatClampNeg z.toNatClampNeg) a = va_cpy (inH σ a) (inH σ a) sp.toNatClampNeg dp.toNatClampNeg z.toNatClampNeg := by simp [inH, cpS, u1]
    rw [e9]
    show (H.setIfInBounds a _)[a]? = some _
    simp [Array.getElem?_setIfInBounds, hl]
    rfl
  obtain ⟨t, a1, b1⟩ := kk _ h' _ _ ls (h1.upd (τ := cpS σ a sp.toNatClampNeg dp.toNatClampNeg z.toNatClampNeg) (h1.my (jk2 hk)).1 rfl rfl hat (by simp) oq (fun q hq j => cpS_ne hq j) (fun q hq j => rfl)) ⟨by simp; exact h2.1, fun q g1 g2 => by
      rw [oq q (fun e => g2 (by rw [e]; exact hA))]
      exact h2.2.1 q g1 g2, fun q hq => by
      rcases List.mem_append.mp hq with h | h
      · exact h2.2.2 q h
      · obtain ⟨z, -, hz⟩ := List.mem_map.mp h
        rw [← hz]
        exact hA⟩ h3 _ hheap X'
  exact ⟨t, step t a1, b1⟩
/-! ends -/
theorem r_iret (C : jC p l s m args meth c g own cc nL (some .int)) {v : Int32} (hd : decode cc pc = .ok (.ireturn, 1)) (hk : k ≤ mc) (hn : n ≤ ms) (h : some ((.inl (some (.int v)), σ) : jO × Hp) = some (o, τ)) : jW p l e R s m args below meth c g (vx_MQ below (jQc g o τ) (jXC g o τ) args s mc ms (jA g)) k n pc lv [.int v] σ := by
  cases h
  exact fun H locs ls h1 h2 h3 => W.widen hk hn (vx_ret (W.iret C.1 C.2.1 C.2.2.2.2.2.2.2.1 (fun t ht hW => ⟨⟨_, rfl, rfl, by rw [ht]; exact h1⟩, h2.F ht⟩) (fun q hq => h2.2.2 q hq) hd C.2.2.2.2.2.1))
theorem r_zret {ty : FieldType} (C : jC p l s m args meth c g own cc nL (some ty)) {v : Int32} (hty : ∀ v, narrow ty (.int v) = .int (vp_nar ty v)) (hd : decode cc pc = .ok (.ireturn, 1)) (hk : k ≤ mc) (hn : n ≤ ms) (h : jrt ty v σ = some (o, τ)) : jW p l e R s m args below meth c g (vx_MQ below (jQc g o τ) (jXC g o τ) args s mc ms (jA g)) k n pc lv [.int v] σ := by
  obtain ⟨hv, h⟩ := jif_some h
  cases h
  exact fun H locs ls h1 h2 h3 => W.widen hk hn (vx_ret (W.zret C.1 C.2.1 C.2.2.2.2.2.2.2.1 (by rw [hty, hv]) (fun t ht hW => ⟨⟨_, rfl, rfl, by rw [ht]; exact h1⟩, h2.F ht⟩) (fun q hq => h2.2.2 q hq) hd C.2.2.2.2.2.1))
theorem r_aret {ty : FieldType} (C : jC p l s m args meth c g own cc nL (some ty)) {a : Nat} (hty : (∃ q, ty = .object q) ∨ ∃ q, ty = .array q) (hd : decode cc pc = .ok (.areturn, 1)) (hk : k ≤ mc) (hn : n ≤ ms) (h : some ((.inl (some (.ref a)), σ) : jO × Hp) = some (o, τ)) : jW p l e R s m args below meth c g (vx_MQ below (jQc g o τ) (jXC g o τ) args s mc ms (jA g)) k n pc lv [.ref a] σ := by
  cases h
  exact fun H locs ls h1 h2 h3 => W.widen hk hn (vx_ret (W.aret C.1 C.2.1 C.2.2.2.2.2.2.2.1 hty (Or.inr ⟨_, rfl⟩) (fun t ht hW => ⟨⟨_, rfl, rfl, by rw [ht]; exact h1⟩, h2.F ht⟩) (fun q hq => h2.2.2 q hq) hd C.2.2.2.2.2.1))
theorem r_vret (C : jC p l s m args meth c g own cc nL none) (hd : decode cc pc = .ok (.return_, 1)) (hk : k ≤ mc) (hn : n ≤ ms) (h : some ((.inl none, σ) : jO × Hp) = some (o, τ)) : jW p l e R s m args below meth c g (vx_MQ below (jQc g o τ) (jXC g o τ) args s mc ms (jA g)) k n pc lv [] σ := by
  cases h
  exact fun H locs ls h1 h2 h3 => W.widen hk hn (vx_ret (W.vret C.1 C.2.1 C.2.2.2.2.2.2.2.1 (fun t ht hW => ⟨⟨_, rfl, rfl, by rw [ht]; exact h1⟩, h2.F ht⟩) (fun q hq => h2.2.2 q hq) hd C.2.2.2.2.2.1))
/-- what isn't caught goes on to the caller -/
theorem r_out (C : jC p l s m args meth c g own cc nL rt) {E : String} (hout : ∀ x ∈ c.exceptionTable.toList, covers x pc = false) (hk : k ≤ mc) (hn : n ≤ ms) (h : some ((.inr E, σ) : jO × Hp) = some (o, τ)) : jX p l e R s m args below meth c g (vx_MQ below (jQc g o τ) (jXC g o τ) args s mc ms (jA g)) k n pc lv st σ E := by
  cases h
  exact fun H locs ls ce q h1 h2 h3 g1 g2 g3 => vx_out hout C.2.2.2.2.2.1 g1 g2 g3 (fun t ht hA => ⟨rfl, by rw [ht]; exact h1, h2.F ht⟩) (fun z hz => h2.2.2 z hz) hk hn
/-! calls -/
/-- behind a call: it has returned, or thrown -/
theorem r_run (C : jC p l s m args meth c g own cc nL rt) {J : jR} {K : Option Value → Hp → jR} {KX : String → Hp → jR} {st0 : List Value} {av : Array Value}
    (hr : ∀ o τ, J = some (o, τ) → ∀ (H : Heap) (locs : List Loc) (ls : Array Slot), jRel g σ H → va_S (jA g) s.heap H locs → lv_has ls c.maxLocals lv → vx_Run p l e R s m args below meth c H locs k n mc ms (F0 m pc ls st0) st (jQc g o τ av) (jXC g o τ) (jA g)) (h : jcs J K KX = some X)
    (kk : ∀ v τ, K v τ = some X → jW p l e R s m args below meth c g Q (k + mc) (n + ms) (pc + 3) lv (v.toList ++ st) τ) (kx : ∀ E τ, KX E τ = some X → jX p l e R s m args below meth c g Q (k + mc) (n + ms) pc lv st τ E) : jW p l e R s m args below meth c g Q k n pc lv st0 σ := by
  intro H locs ls h1 h2 h3 T hT XX
  rcases jcs_some h with ⟨v, τ, hJ, hK⟩ | ⟨E, τ, hJ, hK⟩
  · rcases hr _ _ hJ H locs ls h1 h2 h3 T hT XX with ⟨v', st₀, t, T', L, e0, X', hL, e1, e2, ⟨⟨v2, hv, hv', hrel⟩, hF⟩, st9⟩ | ⟨q, st₀, t, T', L, E, ce, e0, X', hL, e1, e2, ⟨hE, -⟩, -⟩
    · cases hv
      cases hv'
      obtain ⟨-, -, k3⟩ := vx_keep e0 e1 h2 (fun q _ hq => hq) (fun q hq => hq) hL hF
      obtain ⟨t2, a1, b1⟩ := kk v τ hK T'.heap (locs ++ L) ls (by rw [e1]; exact hrel) k3 h3 T' rfl X'
      exact ⟨t2, st9 t2 a1, b1⟩
    · cases hE
  · rcases hr _ _ hJ H locs ls h1 h2 h3 T hT XX with ⟨v', st₀, t, T', L, e0, X', hL, e1, e2, ⟨⟨v2, hv, hv', hrel⟩, hF⟩, st9⟩ | ⟨q, st₀, t, T', L, E', ce, e0, X', hL, e1, e2, ⟨hE, hrel, hF⟩, hce, hcv, hcl, st9⟩
    · cases hv
    · cases hE
      obtain ⟨-, -, k3⟩ := vx_keep e0 e1 h2 (fun q _ hq => hq) (fun q hq => hq) hL hF
      obtain ⟨t2, a1, b1⟩ := kx E τ hK T'.heap (locs ++ L) ls ce q (by rw [e1]; exact hrel) k3 h3 (by rw [e1]; exact hce) hcv hcl T' rfl X'
      exact ⟨t2, st9.trans a1, b1⟩
/-- a call's words, by its link -/
def jLk (own : String) (index : Nat) (y : MethodName) (bytes : ByteArray) (maxL : Nat) (ret : Option FieldType) (nA : Nat) : Prop :=
  Cond.methodLink own index y ∈ gT ∧ Cond.initialized y.cls ∈ gT ∧ Cond.code y bytes maxL ret ∈ gT ∧ (y.cls ≠ "java/lang/invoke/MethodHandle" ∧ y.cls ≠ "java/lang/invoke/VarHandle" ∧ (parseMethodDescriptor y.desc).map (fun d => d.parameters.length) = some nA)
/-- a private constructor's words, by its link -/
def jLkN (own : String) (index : Nat) (y : MethodName) (bytes : ByteArray) (maxL : Nat) (ret : Option FieldType) (nA : Nat) : Prop :=
  Cond.methodLinkNest own index y own ∈ jNt ∧ Cond.initialized y.cls ∈ gT ∧ Cond.code y bytes maxL ret ∈ gT ∧ (y.cls ≠ "java/lang/invoke/MethodHandle" ∧ y.cls ≠ "java/lang/invoke/VarHandle" ∧ (parseMethodDescriptor y.desc).map (fun d => d.parameters.length) = some nA)
theorem jWs {y : MethodName} {bytes : ByteArray} {maxL : Nat} {ret : Option FieldType} (h : Cond.code y bytes maxL ret ∈ gT) : GoodIn gT (Cond.code y bytes maxL ret :: gT) := by
  intro w hw
  rcases List.mem_cons.mp hw with rfl | hw
  · exact ⟨h, good_of_word (gT_good _ h)⟩
  · exact ⟨hw, good_of_word (gT_good _ hw)⟩
theorem jPre_at (C : jC p l s m args meth c g own cc nL rt) {H : Heap} {locs : List Loc} (h1 : jRel g σ H) (h2 : va_S (jA g) s.heap H locs) {U : State} (hU : U.heap = H) (hW : s.WarmedH U.vm) : jPre g σ U := by
  refine ⟨jSt_warm hW C.2.2.2.2.2.2.2.2.1, ?_, by rw [hU]; exact h1⟩
  rw [hU]
  exact jZt_moved hW.alike (jZt_kept C.2.2.2.2.2.2.2.2.2 h2)
theorem r_callS (C : jC p l s m args meth c g own cc nL rt) {index maxL nA : Nat} {y : MethodName} {bytes : ByteArray} {ret : Option FieldType} {rm : Room} {As st0 : List Value} {J : jR} {K : Option Value → Hp → jR} {KX : String → Hp → jR} (hw : jLk own index y bytes maxL ret nA) (hs : Cond.static y ∈ gT) (pc' k' n' : Nat) (hp : pc + 3 = pc') (hk : k + mc = k') (hn : n + ms = n') (hd : decode cc pc = .ok (.invokestatic index, 3))
    (hrc : rm.cells = mc) (hrs : rm.slots = ms) (hst : st0 = As.reverse ++ st) (hA : As.length = nA) (hcat : (st.map fun v => v.category).sum ≤ 8) (hR : rm.frames + 1 ≤ R.frames ∧ 8 + (maxL + 11) + rm.locals ≤ R.locals) (hf : k + mc ≤ R.cells ∧ n + ms ≤ R.slots)
    (hM : ∀ o τ, J = some (o, τ) → jMet l g y (Cond.code y bytes maxL ret :: gT) rm mc ms As σ o τ) (h : jcs J K KX = some X)
    (kk : ∀ v τ, K v τ = some X → jW p l e R s m args below meth c g Q k' n' pc' lv (v.toList ++ st) τ) (kx : ∀ E τ, KX E τ = some X → jX p l e R s m args below meth c g Q k' n' pc lv st τ E) : jW p l e R s m args below meth c g Q k n pc lv st0 σ := by
  subst hst
  subst hp
  subst hk
  subst hn
  obtain ⟨w1, w2, w3, w4⟩ := hw
  have hts := C.2.2.2.2.1
  refine r_run (av := As.toArray) C (fun o τ hJ H locs ls h1 h2 h3 => vx_runS (nL := c.maxLocals) ⟨C.1, C.2.1, rfl, C.2.2.2.1, hts⟩ (hM o τ hJ) ⟨callB_of nA hts (jWs w3) rfl hrc hrs (hts _ w2) (hts _ w1) w4 hR, hts _ hs⟩ ⟨jPre_blind, fun U hU hW => ⟨rfl, jPre_at C h1 h2 hU hW⟩⟩ rfl hA h3.1 rfl (lv_room hcat) hd hf) h kk kx
theorem r_callV (C : jC p l s m args meth c g own cc nL rt) {index maxL nA b ci : Nat} {y : MethodName} {bytes : ByteArray} {ret : Option FieldType} {rm : Room} {Cn : String} {T : u_T} {N : Nat} {As st0 : List Value} {J : jR} {K : Option Value → Hp → jR} {KX : String → Hp → jR} (hw : jLk own index y bytes maxL ret nA) (hs : Cond.instanceMethod y ∈ gT) (hse : Cond.selects Cn y y ∈ gT) (f1 : jCl[ci]? = some (Cn, T, N)) (pc' k' n' : Nat) (hp : pc + 3 = pc') (hk : k + mc = k') (hn : n + ms = n') (hd : decode cc pc = .ok (.invokevirtual index, 3))
    (hrc : rm.cells = mc) (hrs : rm.slots = ms) (hst : st0 = As.reverse ++ .ref b :: st) (hA : As.length = nA) (hcat : (st.map fun v => v.category).sum ≤ 8) (hR : rm.frames + 1 ≤ R.frames ∧ 8 + (maxL + 11) + rm.locals ≤ R.locals) (hf : k + mc ≤ R.cells ∧ n + ms ≤ R.slots)
    (hM : ∀ o τ, J = some (o, τ) → jMet l g y (Cond.code y bytes maxL ret :: gT) rm mc ms (.ref b :: As) σ o τ) (h : jcv σ b ci J K KX = some X)
    (kk : ∀ v τ, K v τ = some X → jW p l e R s m args below meth c g Q k' n' pc' lv (v.toList ++ st) τ) (kx : ∀ E τ, KX E τ = some X → jX p l e R s m args below meth c g Q k' n' pc lv st τ E) : jW p l e R s m args below meth c g Q k n pc lv st0 σ := by
  subst hst
  subst hp
  subst hk
  subst hn
  obtain ⟨hkd, h⟩ := jcv_some h
  obtain ⟨w1, w2, w3, w4⟩ := hw
  have hts := C.2.2.2.2.1
  have hK := C.2.2.2.2.2.2.2.2.1.1
  refine r_run (av := (.ref b :: As : List Value).toArray) C (fun o τ hJ H locs ls h1 h2 h3 => vx_runV (nL := c.maxLocals) ⟨C.1, C.2.1, rfl, C.2.2.2.1, hts⟩ (hM o τ hJ) ⟨callB_of nA hts (jWs w3) rfl hrc hrs (hts _ w2) (hts _ w1) w4 hR, hts _ hs, hts _ hse⟩ ⟨jPre_blind, ?_, fun U hU hW => ⟨rfl, jPre_at C h1 h2 hU hW⟩⟩ rfl hA h3.1 rfl (lv_room hcat) hd hf) h kk kx
  exact va_recv hK (h1.one hkd (jEl_obj hkd)) (ci := ci) (q0 := 0) f1 rfl
theorem r_callVS (C : jC p l s m args meth c g own cc nL rt) {index maxL nA b : Nat} {y : MethodName} {bytes : ByteArray} {ret : Option FieldType} {rm : Room} {As st0 : List Value} {J : jR} {K : Option Value → Hp → jR} {KX : String → Hp → jR} (hw : jLk own index y bytes maxL ret nA) (hs : Cond.instanceMethod y ∈ gT) (hse : Cond.selects RJ0 y y ∈ gT) (pc' k' n' : Nat) (hp : pc + 3 = pc') (hk : k + mc = k') (hn : n + ms = n') (hd : decode cc pc = .ok (.invokevirtual index, 3))
    (hrc : rm.cells = mc) (hrs : rm.slots = ms) (hst : st0 = As.reverse ++ .ref b :: st) (hA : As.length = nA) (hcat : (st.map fun v => v.category).sum ≤ 8) (hR : rm.frames + 1 ≤ R.frames ∧ 8 + (maxL + 11) + rm.locals ≤ R.locals) (hf : k + mc ≤ R.cells ∧ n + ms ≤ R.slots)
    (hM : ∀ o τ, J = some (o, τ) → jMet l g y (Cond.code y bytes maxL ret :: gT) rm mc ms (.ref b :: As) σ o τ) (h : jcvS σ b J K KX = some X)
    (kk : ∀ v τ, K v τ = some X → jW p l e R s m args below meth c g Q k' n' pc' lv (v.toList ++ st) τ) (kx : ∀ E τ, KX E τ = some X → jX p l e R s m args below meth c g Q k' n' pc lv st τ E) : jW p l e R s m args below meth c g Q k n pc lv st0 σ := by
  subst hst
  subst hp
  subst hk
  subst hn
  obtain ⟨hkd, h⟩ := jcvS_some h
  obtain ⟨w1, w2, w3, w4⟩ := hw
  have hts := C.2.2.2.2.1
  have hK := C.2.2.2.2.2.2.2.2.1.1
  refine r_run (av := (.ref b :: As : List Value).toArray) C (fun o τ hJ H locs ls h1 h2 h3 => vx_runV (nL := c.maxLocals) ⟨C.1, C.2.1, rfl, C.2.2.2.1, hts⟩ (hM o τ hJ) ⟨callB_of nA hts (jWs w3) rfl hrc hrs (hts _ w2) (hts _ w1) w4 hR, hts _ hs, hts _ hse⟩ ⟨jPre_blind, ?_, fun U hU hW => ⟨rfl, jPre_at C h1 h2 hU hW⟩⟩ rfl hA h3.1 rfl (lv_room hcat) hd hf) h kk kx
  rcases hkd with hkd | hkd
  · exact va_recv hK (h1.one hkd (jEl_obj hkd)) (ci := 7) (q0 := 0) rfl rfl
  · obtain ⟨-, h9⟩ := h1.2.2.2 b (Or.inr hkd)
    rcases h9 with ⟨h9, -⟩ | ⟨-, i, hi, rfl, -, -⟩
    · rw [hkd] at h9; cases h9
    · exact vk_recv C.2.2.2.2.2.2.2.2.2.2.2.2.2.2.1 hi h2
theorem r_callI (C : jC p l s m args meth c g own cc nL rt) {index maxL nA b ci : Nat} {y : MethodName} {bytes : ByteArray} {rm : Room} {As st0 : List Value} {J : jR} {K : Option Value → Hp → jR} {KX : String → Hp → jR} (hw : jLk own index y bytes maxL none nA) (hs : Cond.instanceMethod y ∈ gT) (hin : y.name = "<init>") (pc' k' n' : Nat) (hp : pc + 3 = pc') (hk : k + mc = k') (hn : n + ms = n') (hd : decode cc pc = .ok (.invokespecial index, 3))
    (hrc : rm.cells = mc) (hrs : rm.slots = ms) (hst : st0 = As.reverse ++ .ref b :: st) (hA : As.length = nA) (hcat : (st.map fun v => v.category).sum ≤ 8) (hR : rm.frames + 1 ≤ R.frames ∧ 8 + (maxL + 11) + rm.locals ≤ R.locals) (hf : k + mc ≤ R.cells ∧ n + ms ≤ R.slots)
    (hM : ∀ o τ, J = some (o, τ) → jMet l g y (Cond.code y bytes maxL none :: gT) rm mc ms (.ref b :: As) σ o τ) (h : jcv σ b ci J K KX = some X)
    (kk : ∀ v τ, K v τ = some X → jW p l e R s m args below meth c g Q k' n' pc' lv (v.toList ++ st) τ) (kx : ∀ E τ, KX E τ = some X → jX p l e R s m args below meth c g Q k' n' pc lv st τ E) : jW p l e R s m args below meth c g Q k n pc lv st0 σ := by
  subst hst
  subst hp
  subst hk
  subst hn
  obtain ⟨hkd, h⟩ := jcv_some h
  obtain ⟨w1, w2, w3, w4⟩ := hw
  have hts := C.2.2.2.2.1
  exact r_run (av := (.ref b :: As : List Value).toArray) C (fun o τ hJ H locs ls h1 h2 h3 => vx_runI (nL := c.maxLocals) ⟨C.1, C.2.1, rfl, C.2.2.2.1, hts⟩ (hM o τ hJ) ⟨callB_of nA hts (jWs w3) rfl hrc hrs (hts _ w2) (hts _ w1) w4 hR, hin, hts _ hs⟩ ⟨jPre_blind, fun U hU hW => ⟨rfl, jPre_at C h1 h2 hU hW⟩⟩ rfl hA h3.1 rfl (lv_room hcat) hd hf) h kk kx
theorem r_callIN (C : jC p l s m args meth c g own cc nL rt) {index maxL nA b ci : Nat} {y : MethodName} {bytes : ByteArray} {rm : Room} {As st0 : List Value} {J : jR} {K : Option Value → Hp → jR} {KX : String → Hp → jR} (hw : jLkN own index y bytes maxL none nA) (hs : Cond.instanceMethod y ∈ gT) (hin : y.name = "<init>") (pc' k' n' : Nat) (hp : pc + 3 = pc') (hk : k + mc = k') (hn : n + ms = n') (hd : decode cc pc = .ok (.invokespecial index, 3))
    (hrc : rm.cells = mc) (hrs : rm.slots = ms) (hst : st0 = As.reverse ++ .ref b :: st) (hA : As.length = nA) (hcat : (st.map fun v => v.category).sum ≤ 8) (hR : rm.frames + 1 ≤ R.frames ∧ 8 + (maxL + 11) + rm.locals ≤ R.locals) (hf : k + mc ≤ R.cells ∧ n + ms ≤ R.slots)
    (hM : ∀ o τ, J = some (o, τ) → jMet l g y (Cond.code y bytes maxL none :: gT) rm mc ms (.ref b :: As) σ o τ) (h : jcv σ b ci J K KX = some X)
    (kk : ∀ v τ, K v τ = some X → jW p l e R s m args below meth c g Q k' n' pc' lv (v.toList ++ st) τ) (kx : ∀ E τ, KX E τ = some X → jX p l e R s m args below meth c g Q k' n' pc lv st τ E) : jW p l e R s m args below meth c g Q k n pc lv st0 σ := by
  subst hst
  subst hp
  subst hk
  subst hn
  obtain ⟨hkd, h⟩ := jcv_some h
  obtain ⟨w1, w2, w3, w4⟩ := hw
  have hts := C.2.2.2.2.1
  exact r_run (av := (.ref b :: As : List Value).toArray) C (fun o τ hJ H locs ls h1 h2 h3 => vx_runIN (nL := c.maxLocals) (host := own) ⟨C.1, C.2.1, rfl, C.2.2.2.1, hts⟩ (hM o τ hJ) ⟨va_cnB nA hts (jWs w3) rfl hrc hrs (C.2.2.2.2.2.2.2.2.1.2.1 _ w1) (hts _ w2) w4 hR, hin, hts _ hs⟩ ⟨jPre_blind, fun U hU hW => ⟨rfl, jPre_at C h1 h2 hU hW⟩⟩ rfl hA h3.1 rfl (lv_room hcat) hd hf) h kk kx
/-- a call of a method of the class above, found by the receiver: its words -/
def jLkU (own : String) (index : Nat) (Cn owner : String) (x y : MethodName) (bytes : ByteArray) (maxL : Nat) (ret : Option FieldType) (nA : Nat) : Prop :=
  Cond.methodLink own index x ∈ gT ∧ Cond.sameMethod x.cls owner x.name x.desc ∈ gT ∧ Cond.selects Cn x y ∈ gT ∧ Cond.instanceMethod y ∈ gT ∧ Cond.initialized y.cls ∈ gT ∧ Cond.code y bytes maxL ret ∈ gT ∧ (∃ b0 m0 r0, Cond.instanceMethod ⟨owner, x.name, x.desc⟩ ∈ gT ∧ Cond.code ⟨owner, x.name, x.desc⟩ b0 m0 r0 ∈ gT) ∧ (owner ≠ "java/lang/invoke/MethodHandle" ∧ owner ≠ "java/lang/invoke/VarHandle") ∧ (parseMethodDescriptor x.desc).map (fun d => d.parameters.length) = some nA
theorem r_callU (C : jC p l s m args meth c g own cc nL rt) {index maxL nA b ci : Nat} {x y : MethodName} {bytes : ByteArray} {ret : Option FieldType} {rm : Room} {Cn owner : String} {T : u_T} {N : Nat} {As st0 : List Value} {J : jR} {K : Option Value → Hp → jR} {KX : String → Hp → jR} (hw : jLkU own index Cn owner x y bytes maxL ret nA) (f1 : jCl[ci]? = some (Cn, T, N)) (pc' k' n' : Nat) (hp : pc + 3 = pc') (hk : k + mc = k') (hn : n + ms = n') (hd : decode cc pc = .ok (.invokevirtual index, 3))
    (hrc : rm.cells = mc) (hrs : rm.slots = ms) (hst : st0 = As.reverse ++ .ref b :: st) (hA : As.length = nA) (hcat : (st.map fun v => v.category).sum ≤ 8) (hR : rm.frames + 1 ≤ R.frames ∧ 8 + (maxL + 11) + rm.locals ≤ R.locals) (hf : k + mc ≤ R.cells ∧ n + ms ≤ R.slots)
    (hM : ∀ o τ, J = some (o, τ) → jMet l g y (Cond.code y bytes maxL ret :: gT) rm mc ms (.ref b :: As) σ o τ) (h : jcv σ b ci J K KX = some X)
    (kk : ∀ v τ, K v τ = some X → jW p l e R s m args below meth c g Q k' n' pc' lv (v.toList ++ st) τ) (kx : ∀ E τ, KX E τ = some X → jX p l e R s m args below meth c g Q k' n' pc lv st τ E) : jW p l e R s m args below meth c g Q k n pc lv st0 σ := by
  subst hst
  subst hp
  subst hk
  subst hn
  obtain ⟨hkd, h⟩ := jcv_some h
  obtain ⟨w1, w2, w3, w4, w5, w6, ⟨b0, m0, r0, w7, w8⟩, w9, w10⟩ := hw
  have hts := C.2.2.2.2.1
  have hK := C.2.2.2.2.2.2.2.2.1.1
  refine r_run (av := (.ref b :: As : List Value).toArray) C (fun o τ hJ H locs ls h1 h2 h3 => vx_runU (nL := c.maxLocals) ⟨C.1, C.2.1, rfl, C.2.2.2.1, hts⟩ (hM o τ hJ) ⟨⟨hrc, hrs, hR.1, hR.2, pay_in hts (jWs w6), List.mem_cons_self⟩, hts _ w6, hts _ w5, w9, fun sig h => ?_, hts _ w1, hts _ w2, va_Decl.of (hts _ w7) (hts _ w8), hts _ w3, hts _ w4⟩ ⟨jPre_blind, ?_, fun U hU hW => ⟨rfl, jPre_at C h1 h2 hU hW⟩⟩ rfl hA h3.1 rfl (lv_room hcat) hd hf) h kk kx
  · rw [h] at w10
    exact (Option.some.inj w10).symm
  · exact va_recv hK (h1.one hkd (jEl_obj hkd)) (ci := ci) (q0 := 0) f1 rfl
/-- super.m(..): its words -/
def jLkS (own : String) (index : Nat) (y : MethodName) (bytes : ByteArray) (maxL : Nat) (ret : Option FieldType) (nA : Nat) : Prop :=
  Cond.methodLink own index y ∈ gT ∧ Cond.sameMethod y.cls y.cls y.name y.desc ∈ gT ∧ Cond.superclass own y.cls ∈ gT ∧ Cond.instanceMethod y ∈ gT ∧ Cond.initialized y.cls ∈ gT ∧ Cond.code y bytes maxL ret ∈ gT ∧ (y.cls ≠ "java/lang/invoke/MethodHandle" ∧ y.cls ≠ "java/lang/invoke/VarHandle" ∧ y.name ≠ "<init>") ∧ (parseMethodDescriptor y.desc).map (fun d => d.parameters.length) = some nA
theorem r_callSU (C : jC p l s m args meth c g own cc nL rt) {index maxL nA b ci : Nat} {y : MethodName} {bytes : ByteArray} {ret : Option FieldType} {rm : Room} {Cn : String} {T : u_T} {N : Nat} {As st0 : List Value} {J : jR} {K : Option Value → Hp → jR} {KX : String → Hp → jR} (hw : jLkS own index y bytes maxL ret nA) (f1 : jCl[ci]? = some (Cn, T, N)) (pc' k' n' : Nat) (hp : pc + 3 = pc') (hk : k + mc = k') (hn : n + ms = n') (hd : decode cc pc = .ok (.invokespecial index, 3))
    (hrc : rm.cells = mc) (hrs : rm.slots = ms) (hst : st0 = As.reverse ++ .ref b :: st) (hA : As.length = nA) (hcat : (st.map fun v => v.category).sum ≤ 8) (hR : rm.frames + 1 ≤ R.frames ∧ 8 + (maxL + 11) + rm.locals ≤ R.locals) (hf : k + mc ≤ R.cells ∧ n + ms ≤ R.slots)
    (hM : ∀ o τ, J = some (o, τ) → jMet l g y (Cond.code y bytes maxL ret :: gT) rm mc ms (.ref b :: As) σ o τ) (h : jcv σ b ci J K KX = some X)
    (kk : ∀ v τ, K v τ = some X → jW p l e R s m args below meth c g Q k' n' pc' lv (v.toList ++ st) τ) (kx : ∀ E τ, KX E τ = some X → jX p l e R s m args below meth c g Q k' n' pc lv st τ E) : jW p l e R s m args below meth c g Q k n pc lv st0 σ := by
  subst hst
  subst hp
  subst hk
  subst hn
  obtain ⟨hkd, h⟩ := jcv_some h
  obtain ⟨w1, w2, w3, w4, w5, w6, w7, w8⟩ := hw
  have hts := C.2.2.2.2.1
  have hK := C.2.2.2.2.2.2.2.2.1.1
  refine r_run (av := (.ref b :: As : List Value).toArray) C (fun o τ hJ H locs ls h1 h2 h3 => vx_runSU (nL := c.maxLocals) (hK.1 ci _ f1).2 ⟨C.1, C.2.1, rfl, C.2.2.2.1, hts⟩ (hM o τ hJ) ⟨⟨hrc, hrs, hR.1, hR.2, pay_in hts (jWs w6), List.mem_cons_self⟩, hts _ w1, hts _ w2, hts _ w3, hts _ w4, hts _ w5, hts _ w6, w7.2.2, fun sig h => ?_⟩ ⟨jPre_blind, ?_, fun U hU hW => ⟨rfl, jPre_at C h1 h2 hU hW⟩⟩ rfl hA h3.1 rfl (lv_room hcat) hd hf) h kk kx
  · rw [h] at w8
    exact (Option.some.inj w8).symm
  · exact va_recv hK (h1.one hkd (jEl_obj hkd)) (ci := ci) (q0 := 0) f1 rfl
theorem r_objInit (C : jC p l s m args meth c g own cc nL rt) {index : Nat} {a : Nat} (pc' : Nat) (hp : pc + 3 = pc') (hw : Cond.methodLink own index Lib.objectInit ∈ gT) (hs : Cond.instanceMethod Lib.objectInit ∈ gT) (hc : Cond.code Lib.objectInit ⟨#[0xb1]⟩ 1 none ∈ gT) (hd : decode cc pc = .ok (.invokespecial index, 3)) (hframes : 1 ≤ R.frames) (hlocals : (st.map fun v => v.category).sum + 12 ≤ R.locals)
    (kk : jW p l e R s m args below meth c g Q k n pc' lv st σ) : jW p l e R s m args below meth c g Q k n pc lv (.ref a :: st) σ := by
  subst hp
  have hts := C.2.2.2.2.1
  exact fun H locs ls h1 h2 h3 => W.objInit C.1 C.2.1 C.2.2.2.1 (hts _ hw) (hts _ hs) (hts _ hc) rfl h3.1 rfl hd hframes (by show 2 * 0 + _ + 12 ≤ _; omega) (kk H locs ls h1 h2 h3)
theorem r_mmin (C : jC p l s m args meth c g own cc nL rt) {index : Nat} {x y : Int32} (pc' : Nat) (hp : pc + 3 = pc') (hw : Cond.methodLink own index Lib.Math.min.name ∈ gT) (hs : Cond.static Lib.Math.min.name ∈ gT) (hi : Cond.initialized "java/lang/Math" ∈ gT) (hc : Cond.code Lib.Math.min.name Lib.Math.min.code 2 (some .int) ∈ gT) (hd : decode cc pc = .ok (.invokestatic index, 3)) (hframes : 1 ≤ R.frames) (hlocals : (st.map fun v => v.category).sum + 13 ≤ R.locals) (hk : k ≤ R.cells) (hn : n ≤ R.slots)
    (kk : jW p l e R s m args below meth c g Q k n pc' lv (.int (if y < x then y else x) :: st) σ) : jW p l e R s m args below meth c g Q k n pc lv (.int y :: .int x :: st) σ := by
  subst hp
  have hts := C.2.2.2.2.1
  exact fun H locs ls h1 h2 h3 => va_mmin C.1 C.2.1 h3.1.symm C.2.2.2.1 (hts _ hw) (hts _ hs) (hts _ hi) (hts _ hc) hframes hlocals hk hn hd (kk H locs ls h1 h2 h3)
theorem r_mmax (C : jC p l s m args meth c g own cc nL rt) {index : Nat} {x y : Int32} (pc' : Nat) (hp : pc + 3 = pc') (hw : Cond.methodLink own index Lib.Math.max.name ∈ gT) (hs : Cond.static Lib.Math.max.name ∈ gT) (hi : Cond.initialized "java/lang/Math" ∈ gT) (hc : Cond.code Lib.Math.max.name Lib.Math.max.code 2 (some .int) ∈ gT) (hd : decode cc pc = .ok (.invokestatic index, 3)) (hframes : 1 ≤ R.frames) (hlocals : (st.map fun v => v.category).sum + 13 ≤ R.locals) (hk : k ≤ R.cells) (hn : n ≤ R.slots)
    (kk : jW p l e R s m args below meth c g Q k n pc' lv (.int (if x < y then y else x) :: st) σ) : jW p l e R s m args below meth c g Q k n pc lv (.int y :: .int x :: st) σ := by
  subst hp
  have hts := C.2.2.2.2.1
  exact fun H locs ls h1 h2 h3 => va_mmax C.1 C.2.1 h3.1.symm C.2.2.2.1 (hts _ hw) (hts _ hs) (hts _ hi) (hts _ hc) hframes hlocals hk hn hd (kk H locs ls h1 h2 h3)
end JCALLS
abbrev jQ (below : List Frame) (g : jG) (o : jO) (τ : Hp) (args : Array Value) (s : State) (mc ms : Nat) : State → Prop := vx_MQ below (jQc g o τ) (jXC g o τ) args s mc ms (jA g)
theorem j_start (l : Launch) (hst : l.stackTraces = false) {g : jG} {y : MethodName} {rm : Room} {mc ms : Nat} {av : List Value} {σ τ : Hp} {o : jO} {cc : ByteArray} {maxL : Nat} {ret : Option FieldType} {own : String} (hy : plainName y.cls = true) (ho : y.cls = own) (hlen : (lg_sl av).length ≤ maxL)
    (body : ∀ p e s m args below meth c, jC p l s m args meth c g own cc maxL ret → (∀ x ∈ c.exceptionTable.toList, False) → meth.name = y.name → jW p l e rm s m args below meth c g (jQ below g o τ args s mc ms) 0 0 0 (lv_args 0 av) [] σ) : jMet l g y (Cond.code y cc maxL ret :: gT) rm mc ms av σ o τ := by
  refine vx_ofW (cc := cc) (maxL := maxL) (ret := ret) (ws' := gT) hy rfl ?_
  intro p e s m args below meth c s₁ B hml hE hv
  obtain ⟨rfl, hS, hZ, hR⟩ := hv
  have hts := atoms_spec (ws := Cond.code y cc maxL ret :: gT) B.pre
  have C : jC p l s m av.toArray meth c g own cc maxL ret := ⟨B.exec, B.bytes, hml, by rw [← ho]; exact findClass_of_methodNamed B.named, fun w hw => hts w (List.mem_cons_of_mem _ hw), B.notSynchronized, hst, B.returns, hS, hZ⟩
  have K := body p e s m _ below meth c C hE (name_of_methodNamed B.named B.method).1
  have hl := lv_entry av (n := maxL) hlen
  rw [lg_entry_eq]
  exact K s.heap [] _ hR va_S.rf (by rw [hml]; exact hl)
