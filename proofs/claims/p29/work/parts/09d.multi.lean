/-! multianewarray of two dimensions: an array of arrays of Strings. (Follows the library's rows for arrays of arrays of numbers, JvmDerived/Shelf42/MA1, MA2, with an inner type that is a reference.) -/
section JMUL
def mInner (comp : ClassId) (M : Nat) : Cell := { cls := comp, slots := Array.replicate M .null, vm := .none }
def mOuter (c : ClassId) (N h0 : Nat) : Nat → Cell
  | 0 => { cls := c, slots := Array.replicate N .null, vm := .none }
  | i + 1 => (mOuter c N h0 i).setSlot i (.ref (h0 + 1 + i))
def mFill (s : State) (c comp : ClassId) (N M : Nat) : Nat → State
  | 0 => s.pushCell (mOuter c N s.heap.size 0)
  | i + 1 => ((mFill s c comp N M i).pushCell (mInner comp M)).setCell s.heap.size (mOuter c N s.heap.size (i + 1))
theorem mOuter_facts (c : ClassId) (N h0 : Nat) : ∀ i, (mOuter c N h0 i).cls = c ∧ (mOuter c N h0 i).vm = .none ∧ (mOuter c N h0 i).slots.size = N
  | 0 => ⟨rfl, rfl, by simp [mOuter]⟩
  | i + 1 => by
    obtain ⟨a, b, d⟩ := mOuter_facts c N h0 i
    exact ⟨by simp [mOuter, Cell.setSlot, a], by simp [mOuter, Cell.setSlot, b], by simp [mOuter, Cell.setSlot, d]⟩
theorem mFill_facts (s : State) (c comp : ClassId) (N M : Nat) : ∀ i, (mFill s c comp N M i).heap.size = s.heap.size + 1 + i ∧ (mFill s c comp N M i).heap[s.heap.size]? = some (mOuter c N s.heap.size i) ∧
    (mFill s c comp N M i).vm = s.vm ∧ (mFill s c comp N M i).slotsUsed = s.slotsUsed + N + i * M
  | 0 => ⟨by simp [mFill], by simp [mFill], rfl, by simp [mFill, mOuter]⟩
  | i + 1 => by
    obtain ⟨a, b, d, u⟩ := mFill_facts s c comp N M i
    have hlt : s.heap.size < (mFill s c comp N M i).heap.size := by omega
    have hb' : ((mFill s c comp N M i).pushCell (mInner comp M)).heap[s.heap.size]? = some (mOuter c N s.heap.size i) := by rw [State.heap_pushCell_of_lt (h := hlt)]; exact b
    refine ⟨?_, State.heap_setCell_self hb', by simp [mFill, d], ?_⟩
    · simp [mFill, State.setCell, a]; omega
    · simp [mFill, u, mInner, Nat.succ_mul]; omega
theorem mFill_setTop (s : State) (f : JFrame) (c comp : ClassId) (N M : Nat) : ∀ i, mFill (s.setTop f) c comp N M i = (mFill s c comp N M i).setTop f
  | 0 => rfl
  | i + 1 => by simp only [mFill, mFill_setTop s f c comp N M i, State.heap_setTop, State.pushCell_setTop, State.setCell_setTop]
theorem mFill_old (s : State) (c comp : ClassId) (N M : Nat) {a : Addr} (ha : a < s.heap.size) : ∀ i, (mFill s c comp N M i).heap[a]? = s.heap[a]?
  | 0 => State.heap_pushCell_of_lt _ _ ha
  | i + 1 => by
    have f1 := (mFill_facts s c comp N M i).1
    have hlt : a < (mFill s c comp N M i).heap.size := Nat.lt_of_lt_of_le ha (by rw [f1]; omega)
    show (((mFill s c comp N M i).pushCell (mInner comp M)).setCell s.heap.size _).heap[a]? = _
    rw [State.heap_setCell_other (Nat.ne_of_gt ha), State.heap_pushCell_of_lt (h := hlt)]
    exact mFill_old s c comp N M ha i
section
variable {E : CtlPost} {e : Env} {d : Bool} {acts : List Action} {s : State}
theorem mp_newArray {c comp : ClassId} {k : Class} {type : FieldType} {len : Nat} (hk : s.vm.classes[c]? = some k) (hkind : k.kind = .array comp type)
    (hlimit : ¬ len > e.platform.arrayLengthLimit) (hheap : ¬ len * componentBytes type > e.platform.maxHeapBytes) (hfit : fits type .null = true) {Q : Addr → Pre}
    (h1 : s.heap.size < e.platform.maxCells) (h2 : s.slotsUsed + len ≤ e.platform.maxSlots)
    (hq : Q s.heap.size d acts (s.pushCell { cls := c, slots := Array.replicate len .null, vm := .none })) :
    wp (Jvm.newArray c len .null) Q E e d acts s := by
  have hfits : ∀ i v, (Array.replicate len Value.null)[i]? = some v → s.fitsSlot c .none i v = true := by
    intro i v hv
    simp only [Array.getElem?_replicate] at hv
    split at hv
    · cases hv; simp [State.fitsSlot, State.slotType?, hk, hkind, hfit]
    · cases hv
  have hda : allocActs (Array.replicate len Value.null) s.heap.size acts = acts := by
    have hall : ((Array.replicate len Value.null).all (·.isDefault)) = true := by
      rw [Array.all_replicate]; split <;> simp [Value.isDefault]
    unfold allocActs; rw [if_pos hall]
  simp only [Jvm.newArray, Jvm.arrayFits, wp_bind', W.ask, W.ite, hlimit, if_false, wp_pure', W.theClass, hk, hkind, hheap, W.alloc, W.stop, Option.some.injEq, exists_eq_left', Array.size_replicate, hda]
  rw [if_neg (by omega)]
  exact ⟨h1, h2, hfits, hq⟩
theorem mRefFits {t : FieldType} (h : t.isReference = true) (v : Value) (hv : v = .null ∨ ∃ a, v = .ref a) : fits t v = true := by
  rcases hv with rfl | ⟨a, rfl⟩ <;> cases t <;> simp [FieldType.isReference] at h <;> rfl
theorem mp_make1 {comp cc : ClassId} {kc : Class} {type : FieldType} {m : Int32} (hkc : s.vm.classes[comp]? = some kc) (hkindc : kc.kind = .array cc type) (href : type.isReference = true) (hm : ¬ m < 0)
    (hl2 : ¬ m.toNatClampNeg > e.platform.arrayLengthLimit) (hh2 : ¬ m.toNatClampNeg * componentBytes type > e.platform.maxHeapBytes)
    (h1 : s.heap.size < e.platform.maxCells) (h2 : s.slotsUsed + m.toNatClampNeg ≤ e.platform.maxSlots)
    {Q : Addr → Pre} (hq : Q s.heap.size d acts (s.pushCell (mInner comp m.toNatClampNeg))) :
    wp (multianewarray.make comp [m]) Q E e d acts s := by
  rw [multianewarray.make]
  simp only [wp_bind', W.ite, hm, if_false, wp_pure', W.theClass, hkc, hkindc, Option.some.injEq, exists_eq_left']
  have hdv : defaultValue type = .null := by cases type <;> simp [FieldType.isReference] at href <;> rfl
  rw [hdv]
  exact mp_newArray hkc hkindc hl2 hh2 (mRefFits href _ (Or.inl rfl)) h1 h2 hq
theorem mp_make2 {c comp cc : ClassId} {k kc : Class} {t0 type : FieldType} {n m : Int32} (hk : s.vm.classes[c]? = some k) (hkind : k.kind = .array comp t0) (href : t0.isReference = true)
    (hkc : s.vm.classes[comp]? = some kc) (hkindc : kc.kind = .array cc type) (href2 : type.isReference = true) (hn : ¬ n < 0) (hm : ¬ m < 0)
    (hl1 : ¬ n.toNatClampNeg > e.platform.arrayLengthLimit) (hh1 : ¬ n.toNatClampNeg * componentBytes t0 > e.platform.maxHeapBytes)
    (hl2 : ¬ m.toNatClampNeg > e.platform.arrayLengthLimit) (hh2 : ¬ m.toNatClampNeg * componentBytes type > e.platform.maxHeapBytes)
    (hc : s.heap.size + 1 + n.toNatClampNeg ≤ e.platform.maxCells) (hs : s.slotsUsed + n.toNatClampNeg + n.toNatClampNeg * m.toNatClampNeg ≤ e.platform.maxSlots)
    {Q : Addr → Pre} (hq : ∀ d' acts', Q s.heap.size d' acts' (mFill s c comp n.toNatClampNeg m.toNatClampNeg n.toNatClampNeg)) :
    wp (multianewarray.make c [n, m]) Q E e d acts s := by
  have hfind : ([m].find? (· < 0)) = none := by simp [hm]
  rw [multianewarray.make]
  simp only [wp_bind', W.ite, hn, if_false, wp_pure', W.theClass, hk, hkind, Option.some.injEq, exists_eq_left']
  refine mp_newArray hk hkind hl1 hh1 (mRefFits href _ (Or.inl rfl)) (by omega) (by have := Nat.zero_le (n.toNatClampNeg * m.toNatClampNeg); omega) ?_
  simp only [hfind]
  rw [ite_self, wp_bind', Std.Legacy.Range.forIn_eq_forIn_range']
  have hsz : ([:n.toNatClampNeg] : Std.Legacy.Range).size = n.toNatClampNeg := by simp [Std.Legacy.Range.size]
  rw [hsz]
  show wp (forIn (List.range' 0 n.toNatClampNeg 1) PUnit.unit _) _ E e d acts _
  refine wp_forIn_inv (fun rest s' => ∃ i, i ≤ n.toNatClampNeg ∧ rest = List.range' i (n.toNatClampNeg - i) ∧ s' = mFill s c comp n.toNatClampNeg m.toNatClampNeg i) _ _ ⟨0, Nat.zero_le _, rfl, rfl⟩ ?_ ?_
  · rintro x rest s' d' acts' Q' ⟨i, hi, hl, rfl⟩ hnext
    have hlt : i < n.toNatClampNeg := by
      rcases Nat.lt_or_ge i n.toNatClampNeg with h | h
      · exact h
      · rw [show n.toNatClampNeg - i = 0 from by omega] at hl; simp at hl
    obtain ⟨rfl, hrest⟩ : x = i ∧ rest = List.range' (i + 1) (n.toNatClampNeg - (i + 1)) := by
      rw [show n.toNatClampNeg - i = (n.toNatClampNeg - (i + 1)) + 1 from by omega, List.range'_succ] at hl
      exact ⟨(List.cons.inj hl).1, (List.cons.inj hl).2⟩
    obtain ⟨f1, f2, f3, f4⟩ := mFill_facts s c comp n.toNatClampNeg m.toNatClampNeg x
    obtain ⟨o1, o2, o3⟩ := mOuter_facts c n.toNatClampNeg s.heap.size x
    have hmul : x * m.toNatClampNeg + m.toNatClampNeg ≤ n.toNatClampNeg * m.toNatClampNeg := by
      have := Nat.mul_le_mul_right m.toNatClampNeg (show x + 1 ≤ n.toNatClampNeg from hlt)
      rw [Nat.succ_mul] at this; exact this
    simp only [wp_bind']
    refine mp_make1 (by rw [f3]; exact hkc) hkindc href2 hm hl2 hh2 (by rw [f1]; omega) (by rw [f4]; omega) ?_
    have hlt0 : s.heap.size < (mFill s c comp n.toNatClampNeg m.toNatClampNeg x).heap.size := by rw [f1]; omega
    simp only [wp_bind', W.writeLoc, wp_pure']
    refine ⟨mOuter c n.toNatClampNeg s.heap.size x, by rw [State.heap_pushCell_of_lt (h := hlt0)]; exact f2, by rw [o2]; simp, by rw [o3]; exact hlt, ?_, hnext _ _ _ ⟨x + 1, hlt, hrest, ?_⟩⟩
    · rw [o1, o2]
      simp [State.fitsSlot, State.slotType?, f3, hk, hkind, mRefFits href _ (Or.inr ⟨_, rfl⟩)]
    · rw [f1]; rfl
  · rintro s' d' acts' ⟨i, hi, hl, rfl⟩
    have hiN : i = n.toNatClampNeg := by
      rcases Nat.lt_or_ge i n.toNatClampNeg with h | h
      · rw [show n.toNatClampNeg - i = (n.toNatClampNeg - (i + 1)) + 1 from by omega, List.range'_succ] at hl; cases hl
      · omega
    subst hiN
    simp only [wp_pure']
    exact hq _ _
end
variable {p : Program} {l : Launch} {e : Env} {R : Room} {s : State} {m : MethodId} {args : Array Value} {below : List Frame} {meth : Method} {c : Code} {g : jG} {Q : State → Prop} {own : String} {cc : ByteArray} {nL k n pc : Nat} {rt : Option FieldType} {lv lv' : List (Nat × Value)} {st : List Value} {σ τ : Hp} {X : jO × Hp} {o : jO} {mc ms : Nat}
theorem mFilled {T : State} {locs : List Loc} {cells slots : Nat} (X : Stand p l e R s m args below meth c T locs cells slots) (cA comp : ClassId) (N M : Nat) :
    ∀ i, Stand p l e R s m args below meth c (mFill T cA comp N M i) (locs ++ (List.range i).map fun j => ⟨T.heap.size, j⟩) (cells + 1 + i) (slots + N + i * M)
  | 0 => by
    have h := X.pushed (mOuter cA N T.heap.size 0)
    rw [(mOuter_facts cA N T.heap.size 0).2.2] at h
    simpa [mFill] using h
  | i + 1 => by
    have Xi := mFilled X cA comp N M i
    obtain ⟨f1, f2, f3, f4⟩ := mFill_facts T cA comp N M i
    have hlt0 : T.heap.size < (mFill T cA comp N M i).heap.size := by rw [f1]; omega
    have hcell : ((mFill T cA comp N M i).pushCell (mInner comp M)).heap[T.heap.size]? = some (mOuter cA N T.heap.size i) := by rw [State.heap_pushCell_of_lt (h := hlt0)]; exact f2
    have h := (Xi.pushed (mInner comp M)).stored hcell i (.ref (T.heap.size + 1 + i))
    have e1 : (mInner comp M).slots.size = M := by simp [mInner]
    rw [e1] at h
    have e2 : (locs ++ (List.range (i + 1)).map fun j => (⟨T.heap.size, j⟩ : Loc)) = (locs ++ (List.range i).map fun j => (⟨T.heap.size, j⟩ : Loc)) ++ [⟨T.heap.size, i⟩] := by simp [List.range_succ, List.append_assoc]
    have e3 : slots + N + (i + 1) * M = slots + N + i * M + M := by rw [Nat.succ_mul]; omega
    rw [e2, e3]
    exact h
theorem mOverA {args : Array Value} {first s : State} {o : Option Outcome} {idx : List Nat} {t : FieldType} (h : (Cond.arrayOver (.array t)).holds args first o s idx = true) :
    ∃ comp c k, s.vm.findClass (FieldType.array t).toString = some comp ∧ s.vm.classes[c]? = some k ∧ k.kind = .array comp (.array t) ∧ s.vm.findClass ("[" ++ (FieldType.array t).toString) = some c := by
  simp only [Cond.holds, Cond.value, beq_iff_eq] at h
  cases hc : s.vm.findClass (FieldType.array t).toString with
  | none => simp [hc] at h
  | some comp =>
    simp only [hc, Option.bind_some, Option.bind_eq_some_iff, Option.map_eq_some_iff] at h
    obtain ⟨c, hi, k, hk, hb⟩ := h
    obtain ⟨hlt, hp, -⟩ := Array.findIdx?_eq_some_iff_getElem.mp hi
    have hkk : s.vm.classes[c] = k := (Array.getElem?_eq_some_iff.mp hk).2
    rw [hkk] at hp
    cases hkind : k.kind with
    | array component ty =>
      rw [hkind] at hb hp
      simp at hb hp
      exact ⟨comp, c, k, rfl, hk, by rw [hkind, hp, hb.1], hb.2⟩
    | _ => rw [hkind] at hb; simp at hb
/-- String[6][100]: seven new cells that nobody looks at -/
noncomputable def jmu (σ : Hp) (K : Nat → Hp → jR) : jR := K (tpH σ) (skS σ 7)
set_option maxHeartbeats 2000000 in
theorem r_multi (C : jC p l s m args meth c g own cc nL rt) {index : Nat} {K : Nat → Hp → jR} (pc' : Nat) (hp : pc + 4 = pc') (hcl : Cond.classLink own index "[[Ljava/lang/String;" ∈ gT) (hover : (Cond.arrayOver (.array (.object RJ0))).before args s = true) (hd : decode cc pc = .ok (.multianewarray index 2, 4))
    (hk' : k + 7 ≤ R.cells) (hn' : n + 606 ≤ R.slots) (h : jmu σ K = some X)
    (kk : ∀ a τ, K a τ = some X → jW p l e R s m args below meth c g Q (k + 7) (n + 606) pc' lv (.ref a :: st) τ) : jW p l e R s m args below meth c g Q k n pc lv (.int 100 :: .int 6 :: st) σ := by
  subst hp
  intro H locs ls h1 h2 h3 T hT XX
  have hpl : e.platform.magicAccessors = ({} : Platform).magicAccessors := by rw [XX.admits.platform]
  obtain ⟨comp, cA, kA, hcomp, hkA, hkindA, hnameA⟩ := mOverA hover
  obtain ⟨kC, cc2, g1, g2, g3, g4⟩ := (C.2.2.2.2.2.2.2.2.1.1.2 4 (gcS g, .object RJ0) rfl).2
  have ecomp : gcS g = comp := Option.some.inj (g4.symm.trans hcomp)
  obtain ⟨c0, hfc0, hcl9⟩ := Cond.classLink_spec C.2.2.2.1 (C.2.2.2.2.1 _ hcl) e.platform hpl
  have e0 : c0 = cA := Option.some.inj (hfc0.symm.trans hnameA)
  subst e0
  obtain ⟨hg₁, hwarm₁, hready₁⟩ := State.classEntry (e := e) XX.warmed hcl9
  generalize T.vm.noted m.cls index (.cls c0) = vm₁ at hg₁ hwarm₁ hready₁
  have hal : s.vm.Alike vm₁ := hwarm₁.alike
  obtain ⟨kA₁, hkA₁, heA⟩ := hal.2.2 _ _ hkA
  obtain ⟨kC₁, hkC₁, heC⟩ := hal.2.2 comp kC (by rw [← ecomp]; exact g1)
  have hkindA₁ : kA₁.kind = .array comp (.array (.object RJ0)) := by rw [heA]; exact hkindA
  have hkindC₁ : kC₁.kind = .array cc2 (.object RJ0) := by rw [heC]; exact g2
  have X₁ := XX.noted hwarm₁
  obtain ⟨hr1, hr2⟩ := XX.roomAbove (a := 7) (b := 606) (by omega) (by omega)
  have XF := mFilled X₁ c0 comp 6 100 6
  have XF' := XF.dropFresh (fun x hx => by
    obtain ⟨j, -, rfl⟩ := List.mem_map.mp hx
    exact XX.heapGrown)
  have h6 : (6 : Int32).toNatClampNeg = 6 := by decide
  have h100 : (100 : Int32).toNatClampNeg = 100 := by decide
  obtain ⟨f1, f2, f3, f4⟩ := mFill_facts (T.setVm vm₁) c0 comp 6 100 6
  have e9 : tpH σ = H.size := h1.1.symm
  have f1' : (mFill (T.setVm vm₁) c0 comp 6 100 6).heap.size = H.size + 7 := by rw [f1]; show T.heap.size + 1 + 6 = _; rw [hT]
  have o1 : ∀ q : Nat, q < H.size → (mFill (T.setVm vm₁) c0 comp 6 100 6).heap[q]? = H[q]? := fun q hq => by
    rw [mFill_old (T.setVm vm₁) c0 comp 6 100 (a := q) (by show q < T.heap.size; rw [hT]; exact hq) 6]
    show T.heap[q]? = H[q]?
    rw [hT]
  have hK : K H.size (skS σ 7) = some X := by rw [← e9]; exact h
  obtain ⟨t, b1, b2⟩ := kk _ _ hK (mFill (T.setVm vm₁) c0 comp 6 100 6).heap locs ls (h1.skips 7 f1' o1) ⟨by rw [f1']; exact Nat.le_trans h2.1 (by omega), fun q a b => (o1 q (Nat.lt_of_lt_of_le a h2.1)).trans (h2.2.1 q a b), h2.2.2⟩ h3 (mFill (T.setVm vm₁) c0 comp 6 100 6) rfl XF'
  refine ⟨t, ?_, b2⟩
  have hl1 : ¬ (6 : Int32).toNatClampNeg > e.platform.arrayLengthLimit := by rw [Launch.admits_arrayLengthLimit XX.admits, h6]; omega
  have hh1 : ¬ (6 : Int32).toNatClampNeg * componentBytes (.array (.object RJ0)) > e.platform.maxHeapBytes := by
    rw [Launch.admits_maxHeapBytes XX.admits, h6]; show ¬ 6 * 4 > 536870912; omega
  have hl2 : ¬ (100 : Int32).toNatClampNeg > e.platform.arrayLengthLimit := by rw [Launch.admits_arrayLengthLimit XX.admits, h100]; omega
  have hh2 : ¬ (100 : Int32).toNatClampNeg * componentBytes (.object RJ0) > e.platform.maxHeapBytes := by rw [Launch.admits_maxHeapBytes XX.admits, h100]; show ¬ 100 * 4 > 536870912; omega
  have hd' : decode c.code pc = .ok (.multianewarray index 2, 4) := by rw [C.2.1]; exact hd
  jvm_step XX.here [C.1, hd']
  simp only [multianewarray.sem, wp_bind', W.resolveClassAt_links (State.method?_setTop (F0 m pc ls (.int 100 :: .int 6 :: st)) XX.here.top) hg₁]
  rw [W.popN, if_neg (by decide)]
  refine ⟨F0 m pc ls (.int 100 :: .int 6 :: st), State.topJava?_setTop' (s := T.setVm vm₁) _ XX.here.top, [.int 6, .int 100], st, rfl, rfl, ?_⟩
  simp only [List.mapM_cons, List.mapM_nil, wp_bind', wp_pure']
  refine mp_make2 (k := kA₁) (kc := kC₁) (comp := comp) (cc := cc2) (t0 := .array (.object RJ0)) (type := .object RJ0) hkA₁ hkindA₁ rfl hkC₁ hkindC₁ rfl (by decide) (by decide) hl1 hh1 hl2 hh2 (by rw [h6]; show T.heap.size + 1 + _ ≤ _; omega) (by rw [h6, h100]; show T.slotsUsed + _ + _ ≤ _; omega) (fun d' acts' => ?_)
  rw [h6, h100]
  have eS : ((T.setTop (F0 m pc ls (.int 100 :: .int 6 :: st))).setVm vm₁).setTop { F0 m pc ls (.int 100 :: .int 6 :: st) with stack := st } = (T.setVm vm₁).setTop { F0 m pc ls (.int 100 :: .int 6 :: st) with stack := st } := by
    show ((T.setVm vm₁).setTop _).setTop _ = _
    rw [State.setTop_setTop]
  rw [eS, mFill_setTop]
  simp only [wp_bind', W.mark, W.pushRef, State.topJava?_setTop' _ XF.here.top, Option.some.injEq, exists_eq_left', State.setTop_setTop, State.heap_setTop]
  intro acts
  simp [jvm, XF.here.top]
  have hsz : (T.setVm vm₁).heap.size = H.size := by show T.heap.size = _; rw [hT]
  rw [hT]
  exact b1
end JMUL
