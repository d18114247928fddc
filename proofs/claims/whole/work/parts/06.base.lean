/-! the class's heap as one value; the world says that the machine's heap is it -/
abbrev jO : Type := Sum (Option Value) String
abbrev Hp : Type := Nat × (Nat → Nat × Nat) × (Nat → Nat → Int32) × (Nat → Nat → Option Nat) × (Nat → Nat → Int64) × (Nat → Nat → UInt64)
abbrev jR : Type := Option (jO × Hp)
def tpH (σ : Hp) : Nat := σ.1
def kdH (σ : Hp) : Nat → Nat × Nat := σ.2.1
def inH (σ : Hp) : Nat → Nat → Int32 := σ.2.2.1
def rfH (σ : Hp) : Nat → Nat → Option Nat := σ.2.2.2.1
def lgH (σ : Hp) : Nat → Nat → Int64 := σ.2.2.2.2.1
def dbH (σ : Hp) : Nat → Nat → UInt64 := σ.2.2.2.2.2
def u2 {α : Type} (f : Nat → Nat → α) (a k : Nat) (v : α) : Nat → Nat → α := fun x y => if x = a ∧ y = k then v else f x y
def u1 {α : Type} (f : Nat → α) (a : Nat) (v : α) : Nat → α := fun x => if x = a then v else f x
def inS (σ : Hp) (a k : Nat) (v : Int32) : Hp := (tpH σ, kdH σ, u2 (inH σ) a k v, rfH σ, lgH σ, dbH σ)
def rfS (σ : Hp) (a k : Nat) (v : Option Nat) : Hp := (tpH σ, kdH σ, inH σ, u2 (rfH σ) a k v, lgH σ, dbH σ)
def lgS (σ : Hp) (a k : Nat) (v : Int64) : Hp := (tpH σ, kdH σ, inH σ, rfH σ, u2 (lgH σ) a k v, dbH σ)
def dbS (σ : Hp) (a k : Nat) (v : UInt64) : Hp := (tpH σ, kdH σ, inH σ, rfH σ, lgH σ, u2 (dbH σ) a k v)
/-- an int array's run of n places, copied within it -/
def cpS (σ : Hp) (a sp dp n : Nat) : Hp := (tpH σ, kdH σ, u1 (inH σ) a (va_cpy (inH σ a) (inH σ a) sp dp n), rfH σ, lgH σ, dbH σ)
/-- a new cell, all zero -/
def nwS (σ : Hp) (kd : Nat × Nat) : Hp := (tpH σ + 1, u1 (kdH σ) (tpH σ) kd, u1 (inH σ) (tpH σ) (fun _ => 0), u1 (rfH σ) (tpH σ) (fun _ => none), u1 (lgH σ) (tpH σ) (fun _ => 0), u1 (dbH σ) (tpH σ) (fun _ => 0))
/-- a new cell that nobody looks at -/
def thS (σ : Hp) : Hp := (tpH σ + 1, u1 (kdH σ) (tpH σ) (0, 0), inH σ, rfH σ, lgH σ, dbH σ)
/-- which fields of a kind of object are ints -/
def jfb (ci : Nat) : List Bool := match ci with
  | 0 => [false, false, true]
  | 1 => [false, false]
  | 2 => [false, true]
  | 3 => [false, false, false, false, false]
  | 4 => [false, false, false, false, false, false, true]
  | 5 => [false, false, false, false, false, true, true]
  | 6 => [true, false, true, false, false, false, false, true, false, false, true, false, false, false, true, true, false, false, false, false, true, false, false, true, false, false, false, true]
  | _ => []
def jFs (σ : Hp) (a : Nat) : Nat → List Bool → List Value
  | _, [] => []
  | k, b :: bs => (if b = true then .int (inH σ a k) else va_rf (rfH σ a k)) :: jFs σ a (k + 1) bs
theorem jFs_get (σ : Hp) (a : Nat) : ∀ (bs : List Bool) (k i : Nat) (b : Bool), bs[i]? = some b → (jFs σ a k bs)[i]? = some (if b = true then .int (inH σ a (k + i)) else va_rf (rfH σ a (k + i)))
  | [], k, i, b, h => by simp at h
  | c :: bs, k, 0, b, h => by
    simp only [List.getElem?_cons_zero, Option.some.injEq] at h
    subst h
    rfl
  | c :: bs, k, i + 1, b, h => by
    simp only [List.getElem?_cons_succ] at h
    have := jFs_get σ a bs (k + 1) i b h
    simp only [jFs, List.getElem?_cons_succ]
    rw [this, show k + 1 + i = k + (i + 1) by omega]
theorem jFs_len (σ : Hp) (a : Nat) : ∀ (bs : List Bool) (k : Nat), (jFs σ a k bs).length = bs.length
  | [], k => rfl
  | c :: bs, k => by simp [jFs, jFs_len σ a bs (k + 1)]
theorem jFs_congr {σ τ : Hp} {a : Nat} (h1 : ∀ j, inH σ a j = inH τ a j) (h2 : ∀ j, rfH σ a j = rfH τ a j) : ∀ (bs : List Bool) (k : Nat), jFs σ a k bs = jFs τ a k bs
  | [], k => rfl
  | c :: bs, k => by simp only [jFs, h1, h2, jFs_congr h1 h2 bs (k + 1)]
theorem jFs_ext {σ τ : Hp} {a : Nat} : ∀ (bs : List Bool) (k : Nat), (∀ j, k ≤ j → inH σ a j = inH τ a j) → (∀ j, k ≤ j → rfH σ a j = rfH τ a j) → jFs σ a k bs = jFs τ a k bs
  | [], k, h1, h2 => rfl
  | c :: bs, k, h1, h2 => by
    simp only [jFs]
    rw [h1 k (Nat.le_refl k), h2 k (Nat.le_refl k), jFs_ext bs (k + 1) (fun j hj => h1 j (by omega)) (fun j hj => h2 j (by omega))]
theorem jFs_setI (σ : Hp) (a : Nat) (v : Int32) : ∀ (bs : List Bool) (k i : Nat), bs[i]? = some true → (jFs σ a k bs).set i (.int v) = jFs (inS σ a (k + i) v) a k bs
  | [], k, i, h => by simp at h
  | c :: bs, k, 0, h => by
    simp only [List.getElem?_cons_zero, Option.some.injEq] at h
    subst h
    simp only [jFs, List.set_cons_zero, Nat.add_zero]
    congr 1
    · simp [inH, inS, u2]
    · refine jFs_ext bs (k + 1) (fun j hj => ?_) (fun j hj => rfl)
      simp only [inH, inS, u2]
      rw [if_neg (by omega)]
  | c :: bs, k, i + 1, h => by
    simp only [List.getElem?_cons_succ] at h
    simp only [jFs, List.set_cons_succ]
    congr 1
    · simp [inH, inS, u2, rfH]
    · rw [jFs_setI σ a v bs (k + 1) i h, show k + 1 + i = k + (i + 1) by omega]
theorem jFs_setR (σ : Hp) (a : Nat) (v : Option Nat) : ∀ (bs : List Bool) (k i : Nat), bs[i]? = some false → (jFs σ a k bs).set i (va_rf v) = jFs (rfS σ a (k + i) v) a k bs
  | [], k, i, h => by simp at h
  | c :: bs, k, 0, h => by
    simp only [List.getElem?_cons_zero, Option.some.injEq] at h
    subst h
    simp only [jFs, List.set_cons_zero, Nat.add_zero]
    congr 1
    · simp [rfH, rfS, u2]
    · refine jFs_ext bs (k + 1) (fun j hj => rfl) (fun j hj => ?_)
      simp only [rfH, rfS, u2]
      rw [if_neg (by omega)]
  | c :: bs, k, i + 1, h => by
    simp only [List.getElem?_cons_succ] at h
    simp only [jFs, List.set_cons_succ]
    congr 1
    · simp [rfH, rfS, u2, inH]
    · rw [jFs_setR σ a v bs (k + 1) i h, show k + 1 + i = k + (i + 1) by omega]
/-- what a launch and a start fix: the numbers of the classes, those of the four arrays' classes, where our cells begin, the script -/
abbrev jG : Type := va_G × (ClassId × ClassId × ClassId × ClassId) × Nat × (Nat × Nat × (Nat → Int32))
def gDs (g : jG) : va_G := g.1
def gcI (g : jG) : ClassId := g.2.1.1
def gcJ (g : jG) : ClassId := g.2.1.2.1
def gcD (g : jG) : ClassId := g.2.1.2.2.1
def gcT (g : jG) : ClassId := g.2.1.2.2.2
def gB (g : jG) : Nat := g.2.2.1
def gSa (g : jG) : Nat := g.2.2.2.1
def gSn (g : jG) : Nat := g.2.2.2.2.1
def gSx (g : jG) : Nat → Int32 := g.2.2.2.2.2
def jA (g : jG) : Nat → Prop := fun q => gB g ≤ q
def gTy (g : jG) : List (ClassId × FieldType) := [(gcI g, .int), (gcJ g, .long), (gcD g, .double), (gcT g, .object RX4)]
def jEl (g : jG) (σ : Hp) (a : Nat) : va_E :=
  if (kdH σ a).1 = 1 then .inr ((kdH σ a).2, jFs σ a 0 (jfb (kdH σ a).2))
  else if (kdH σ a).1 = 2 then .inl (gcI g, (kdH σ a).2, .inl (inH σ a))
  else if (kdH σ a).1 = 3 then .inl (gcJ g, (kdH σ a).2, .inr (.inl (lgH σ a)))
  else if (kdH σ a).1 = 4 then .inl (gcD g, (kdH σ a).2, .inr (.inr (.inr (.inl (dbH σ a)))))
  else .inl (gcT g, (kdH σ a).2, .inr (.inr (.inr (.inr (rfH σ a)))))
def jRel (g : jG) (σ : Hp) (H : Heap) : Prop := H.size = tpH σ ∧ gB g ≤ tpH σ ∧ ∀ a, (kdH σ a).1 ≠ 0 → gB g ≤ a ∧ va_at (gDs g) jCl (a, jEl g σ a) H
theorem jRel.lt {g : jG} {σ : Hp} {H : Heap} (h : jRel g σ H) {a : Nat} (ha : (kdH σ a).1 ≠ 0) : a < H.size := (h.2.2 a ha).2.lt
theorem jEl_obj {g : jG} {σ : Hp} {a ci : Nat} (h : kdH σ a = (1, ci)) : jEl g σ a = .inr (ci, jFs σ a 0 (jfb ci)) := by simp [jEl, h]
theorem jEl_int {g : jG} {σ : Hp} {a n : Nat} (h : kdH σ a = (2, n)) : jEl g σ a = .inl (gcI g, n, .inl (inH σ a)) := by simp [jEl, h]
theorem jEl_lng {g : jG} {σ : Hp} {a n : Nat} (h : kdH σ a = (3, n)) : jEl g σ a = .inl (gcJ g, n, .inr (.inl (lgH σ a))) := by simp [jEl, h]
theorem jEl_dbl {g : jG} {σ : Hp} {a n : Nat} (h : kdH σ a = (4, n)) : jEl g σ a = .inl (gcD g, n, .inr (.inr (.inr (.inl (dbH σ a))))) := by simp [jEl, h]
theorem jEl_txt {g : jG} {σ : Hp} {a n : Nat} (h : kdH σ a = (5, n)) : jEl g σ a = .inl (gcT g, n, .inr (.inr (.inr (.inr (rfH σ a))))) := by simp [jEl, h]
/-- one cell's world -/
theorem jRel.one {g : jG} {σ : Hp} {H : Heap} (h : jRel g σ H) {a : Nat} (ha : (kdH σ a).1 ≠ 0) {e : va_E} (he : jEl g σ a = e) : va_P (gDs g) jCl [(a, e)] H := by
  intro k q hq
  have hz : k < 1 := (List.getElem?_eq_some_iff.mp hq).1
  rw [show k = 0 by omega] at hq
  cases hq
  rw [← he]
  exact (h.2.2 a ha).2
/-- one cell is changed -/
theorem jRel.upd {g : jG} {σ τ : Hp} {H H1 : Heap} (h : jRel g σ H) {a : Nat} (ha : (kdH σ a).1 ≠ 0) (h1 : tpH τ = tpH σ) (h2 : kdH τ = kdH σ) (he : va_at (gDs g) jCl (a, jEl g τ a) H1) (hz : H1.size = H.size) (oq : ∀ q : Nat, q ≠ a → H1[q]? = H[q]?)
    (hs : ∀ q, q ≠ a → jEl g τ q = jEl g σ q) : jRel g τ H1 := by
  refine ⟨by rw [hz, h.1, h1], by rw [h1]; exact h.2.1, fun q hq => ?_⟩
  rw [h2] at hq
  by_cases e : q = a
  · subst e
    exact ⟨(h.2.2 q ha).1, he⟩
  · rw [hs q e]
    exact ⟨(h.2.2 q hq).1, (h.2.2 q hq).2.kept (oq q e)⟩
theorem jEl_congr {g : jG} {σ τ : Hp} {q : Nat} (h2 : kdH τ q = kdH σ q) (h3 : ∀ j, inH τ q j = inH σ q j) (h4 : ∀ j, rfH τ q j = rfH σ q j) (h5 : ∀ j, lgH τ q j = lgH σ q j) (h6 : ∀ j, dbH τ q j = dbH σ q j) : jEl g τ q = jEl g σ q := by
  have e3 : inH τ q = inH σ q := funext h3
  have e4 : rfH τ q = rfH σ q := funext h4
  have e5 : lgH τ q = lgH σ q := funext h5
  have e6 : dbH τ q = dbH σ q := funext h6
  unfold jEl
  rw [h2, e3, e4, e5, e6, jFs_congr h3 h4]
/-- a new cell -/
theorem jRel.new {g : jG} {σ : Hp} {H H1 : Heap} (h : jRel g σ H) (kd : Nat × Nat) (hz : H1.size = H.size + 1) (oq : ∀ q : Nat, q < H.size → H1[q]? = H[q]?) (he : kd.1 ≠ 0 → va_at (gDs g) jCl (H.size, jEl g (nwS σ kd) H.size) H1) : jRel g (nwS σ kd) H1 := by
  refine ⟨by rw [hz, h.1]; rfl, Nat.le_succ_of_le h.2.1, fun q hq => ?_⟩
  by_cases e : q = H.size
  · subst e
    refine ⟨by rw [h.1]; exact h.2.1, he ?_⟩
    intro hk
    apply hq
    show (u1 (kdH σ) (tpH σ) kd H.size).1 = 0
    rw [h.1]
    simp [u1, hk]
  · have e' : q ≠ tpH σ := by rw [← h.1]; exact e
    have hk : kdH (nwS σ kd) q = kdH σ q := by show u1 (kdH σ) (tpH σ) kd q = _; simp [u1, e']
    rw [hk] at hq
    have := h.2.2 q hq
    rw [jEl_congr (τ := nwS σ kd) (σ := σ) hk (fun j => by simp only [inH, nwS, u1]; rw [if_neg e']) (fun j => by simp only [rfH, nwS, u1]; rw [if_neg e']) (fun j => by simp only [lgH, nwS, u1]; rw [if_neg e']) (fun j => by simp only [dbH, nwS, u1]; rw [if_neg e'])]
    exact ⟨this.1, this.2.kept (oq q this.2.lt)⟩
/-- a new cell that nobody looks at -/
theorem jRel.skip {g : jG} {σ : Hp} {H H1 : Heap} (h : jRel g σ H) (hz : H1.size = H.size + 1) (oq : ∀ q : Nat, q < H.size → H1[q]? = H[q]?) : jRel g (thS σ) H1 := by
  refine ⟨by rw [hz, h.1]; rfl, Nat.le_succ_of_le h.2.1, fun q hq => ?_⟩
  by_cases e : q = tpH σ
  · exfalso
    apply hq
    show (u1 (kdH σ) (tpH σ) (0, 0) q).1 = 0
    simp [u1, e]
  · have hk : kdH (thS σ) q = kdH σ q := by show u1 (kdH σ) (tpH σ) (0, 0) q = _; simp [u1, e]
    rw [hk] at hq
    have := h.2.2 q hq
    rw [jEl_congr (τ := thS σ) (σ := σ) hk (fun j => rfl) (fun j => rfl) (fun j => rfl) (fun j => rfl)]
    exact ⟨this.1, this.2.kept (oq q this.2.lt)⟩
/-- words that the tables alone decide, but that aren't kept as the good ones are -/
def jNt : List Cond := [.methodLinkNest RX5 20 yX3_init RX5, .castable "java/lang/IllegalArgumentException" "java/lang/IllegalArgumentException", .castable "java/lang/IllegalStateException" "java/lang/IllegalStateException", .castable "java/lang/UnsupportedOperationException" "java/lang/UnsupportedOperationException", .castable "java/util/NoSuchElementException" "java/util/NoSuchElementException", .castable "java/lang/ArrayIndexOutOfBoundsException" "java/lang/ArrayIndexOutOfBoundsException", .castable "java/lang/IndexOutOfBoundsException" "java/lang/IndexOutOfBoundsException", .methodLinkNest RX5 164 yX4_init RX5, .castable "java/lang/ArithmeticException" "java/lang/ArithmeticException", .declares ⟨"java/lang/RuntimeException", "<init>", "()V"⟩, .declares ⟨"java/lang/RuntimeException", "<init>", "(Ljava/lang/String;)V"⟩, .declares ⟨"java/lang/Exception", "<init>", "()V"⟩, .declares ⟨"java/lang/Exception", "<init>", "(Ljava/lang/String;)V"⟩, .declares ⟨"java/lang/Throwable", "<init>", "()V"⟩, .declares ⟨"java/lang/Throwable", "<init>", "(Ljava/lang/String;)V"⟩, .declares ⟨"java/lang/IndexOutOfBoundsException", "<init>", "()V"⟩, .declares ⟨"java/lang/IndexOutOfBoundsException", "<init>", "(Ljava/lang/String;)V"⟩]
theorem jNt_warm {s U : State} (hW : s.WarmedH U.vm) (h : ∀ w ∈ jNt, va_Nw w s) : ∀ w ∈ jNt, va_Nw w U := by
  intro w hw
  have h1 := h w hw
  simp only [jNt, List.mem_cons, List.not_mem_nil, or_false] at hw
  rcases hw with rfl | rfl | rfl | rfl | rfl | rfl | rfl | rfl | rfl | rfl | rfl | rfl | rfl | rfl | rfl | rfl | rfl <;> first | exact va_Nw.warmC hW h1 | exact va_Nw.warmM hW h1 | exact va_Nw.warmD hW h1
/-- the texts of the exceptions -/
def jSr : List (String × Nat × String) := [(RX5, 56, "neither a letter nor a blank"), (RX5, 67, "the buffer is full"), (RX5, 87, "not the numbers or the letters of a rule"), (RX5, 90, "no room for another rule"), (RX5, 98, "there is a rule for these letters"), (RX5, 108, "not the numbers of a rule"), (RX5, 112, "no rule for these letters"), (RX5, 125, "no such rule"), (RX5, 136, "no such letter"), (RX5, 139, "not one word"), (RX5, 148, "no room for another exception"), (RX5, 157, "neither a text nor the next new one"), (RX5, 162, "no such grade"), (RX5, 179, "no such width"), (RX5, 289, "no such text"), (RX5, 291, "no such word"), (RX5, 192, "no such cell of the word"), (RX5, 200, "no such line"), (RX5, 205, "no such cell of the line"), (RX5, 226, "a pin would be struck more than it bears"), (RX5, 237, "no such bearing"), (RX5, 242, "no such pin"), (RX5, 253, "no such reader"), (RX5, 272, "no words")]
/-- which exceptions aren't others (E, F): E is no F -/
def jNl : List (String × String) := [("java/lang/IllegalStateException", "java/lang/IllegalArgumentException"), ("java/lang/UnsupportedOperationException", "java/lang/IllegalArgumentException"), ("java/lang/UnsupportedOperationException", "java/lang/IllegalStateException"), ("java/util/NoSuchElementException", "java/lang/IllegalArgumentException"), ("java/util/NoSuchElementException", "java/lang/IndexOutOfBoundsException"), ("java/lang/IllegalArgumentException", "java/lang/IndexOutOfBoundsException"), ("java/lang/IllegalStateException", "java/lang/IndexOutOfBoundsException")]
def jSt (g : jG) (U : State) : Prop := va_K (gDs g) jCl (gTy g) U ∧ (∀ w ∈ jNt, va_Nw w U) ∧ (∀ q ∈ jSr, ∃ a, vk_R q.1 q.2.1 q.2.2 a U) ∧ va_AO RX4 U ∧ ∀ q ∈ jNl, va_Nc q.1 q.2 U
def jZt (g : jG) (U : State) (H : Heap) : Prop := vx_Zq Bundle.tN "UNASSIGNED_STACK" Bundle.steD (jA g) U H ∧ vx_Zq Bundle.tN "SUPPRESSED_SENTINEL" Bundle.listD (jA g) U H ∧ va_X (gSa g) (gSn g) (gSx g) U H ∧ gSa g < gB g ∧ gB g ≤ H.size
def jPre (g : jG) (σ : Hp) (U : State) : Prop := jSt g U ∧ jZt g U U.heap ∧ jRel g σ U.heap
theorem jSt_warm {g : jG} {s U : State} (hW : s.WarmedH U.vm) (h : jSt g s) : jSt g U :=
  ⟨va_K.moved hW.alike h.1, jNt_warm hW h.2.1, fun q hq => by obtain ⟨a, ha⟩ := h.2.2.1 q hq; exact ⟨a, ha.warm hW⟩, va_AO.moved hW.alike h.2.2.2.1, fun q hq => (h.2.2.2.2 q hq).moved hW.alike⟩
theorem jZt_kept {g : jG} {s : State} {H : Heap} {locs : List Loc} (h : jZt g s s.heap) (hS : va_S (jA g) s.heap H locs) : jZt g s H :=
  ⟨h.1.kept hS.2.1, h.2.1.kept hS.2.1, h.2.2.1.kept (hS.2.1 _ (Nat.lt_of_lt_of_le h.2.2.2.1 h.2.2.2.2) (Nat.not_le.mpr h.2.2.2.1)), h.2.2.2.1, Nat.le_trans h.2.2.2.2 hS.1⟩
theorem jZt_moved {g : jG} {s U : State} {H : Heap} (hA : s.vm.Alike U.vm) (h : jZt g s H) : jZt g U H :=
  ⟨h.1.moved hA, h.2.1.moved hA, h.2.2.1.moved hA, h.2.2.2⟩
theorem jPre_blind {g : jG} {σ : Hp} {av : List Value} : FrameBlind (va_Pc av (jPre g σ)) := by
  intro a U f mk h
  obtain ⟨h0, h1, h2, h3⟩ := h
  exact ⟨h0, jSt_warm (U := U.calling f mk a) (State.WarmedH.refl U) h1, jZt_moved (U := U.calling f mk a) (Vm.Alike.refl U.vm) h2, h3⟩
/-- the end of a method -/
def jQc (g : jG) (o : jO) (τ : Hp) : Array Value → State → Outcome → State → Prop := fun _ st oc t => (∃ v, o = .inl v ∧ oc = .returned v ∧ jRel g τ t.heap) ∧ va_F (jA g) st t
def jXC (g : jG) (o : jO) (τ : Hp) : String → State → State → Prop := fun E st t => o = .inr E ∧ jRel g τ t.heap ∧ va_F (jA g) st t
abbrev jMet (l : Launch) (g : jG) (y : MethodName) (ws : List Cond) (rm : Room) (mc ms : Nat) (av : List Value) (σ : Hp) (o : jO) (τ : Hp) : Prop :=
  vx_Met l y ws rm (va_Pc av (jPre g σ)) (jQc g o τ) (jXC g o τ) mc ms (jA g)
/-- what stands fast in a method -/
def jC (p : Program) (l : Launch) (s : State) (m : MethodId) (args : Array Value) (meth : Method) (c : Code) (g : jG) (own : String) (cc : ByteArray) (nL : Nat) (rt : Option FieldType) : Prop :=
  p.tables.exec = Jvm.exec ∧ c.code = cc ∧ c.maxLocals = nL ∧ s.vm.findClass own = some m.cls ∧ (∀ w ∈ gT, w.before args s = true) ∧ meth.locks = false ∧ l.stackTraces = false ∧ meth.sig.returnType = rt ∧ jSt g s ∧ jZt g s s.heap
/-- the machine at pc, its locals, its stack, the heap a value -/
def jW (p : Program) (l : Launch) (e : Env) (R : Room) (s : State) (m : MethodId) (args : Array Value) (below : List Frame) (meth : Method) (c : Code) (g : jG) (Q : State → Prop) (k n pc : Nat) (lv : List (Nat × Value)) (st : List Value) (σ : Hp) : Prop :=
  ∀ (H : Heap) (locs : List Loc) (ls : Array Slot), jRel g σ H → va_S (jA g) s.heap H locs → lv_has ls c.maxLocals lv → W p l e R s m args below meth c H locs k n Q (F0 m pc ls st)
/-- an exception is on its way -/
def jX (p : Program) (l : Launch) (e : Env) (R : Room) (s : State) (m : MethodId) (args : Array Value) (below : List Frame) (meth : Method) (c : Code) (g : jG) (Q : State → Prop) (k n pc : Nat) (lv : List (Nat × Value)) (st : List Value) (σ : Hp) (E : String) : Prop :=
  ∀ (H : Heap) (locs : List Loc) (ls : Array Slot) (ce : Cell) (q : Addr), jRel g σ H → va_S (jA g) s.heap H locs → lv_has ls c.maxLocals lv → H[q]? = some ce → ce.vm = .none → s.vm.findClass E = some ce.cls → vx_W p l e R s m args below meth c H locs k n Q (F0 m pc ls st) q
