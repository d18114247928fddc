/-! the class's heap as one value; the world says that the machine's heap is it -/
abbrev jO : Type := Sum (Option Value) String
abbrev Hp : Type := Nat × (Nat → Nat × Nat) × (Nat → Nat → Int32) × (Nat → Nat → Option Nat) × (Nat → Nat → Int64) × (Nat → Nat → UInt64)
abbrev jR : Type := Option (jO × Hp)
def tpH (σ : Hp) : Nat := σ.1
def kdH (σ : Hp) : Nat → Nat × Nat := σ.2.1
def inH (σ : Hp) : Nat → Nat → Int32 := σ.2.2.1
def rfH (σ : Hp) : Nat → Nat → Option Nat := σ.2.2.2.1
def lgH (σ : Hp) : Nat → Nat → Int64 := σ.2.2.2.2.1
def dbH (σ : Hp) : Nat → Nat → UInt64 := σ.2.2.2.2.2
def u2 {α : Type} (f : Nat → Nat → α) (a k : Nat) (v : α) : Nat → Nat → α := fun x y => if x = a ∧ y = k then v else f x y
def u1 {α : Type} (f : Nat → α) (a : Nat) (v : α) : Nat → α := fun x => if x = a then v else f x
def inS (σ : Hp) (a k : Nat) (v : Int32) : Hp := (tpH σ, kdH σ, u2 (inH σ) a k v, rfH σ, lgH σ, dbH σ)
def rfS (σ : Hp) (a k : Nat) (v : Option Nat) : Hp := (tpH σ, kdH σ, inH σ, u2 (rfH σ) a k v, lgH σ, dbH σ)
def lgS (σ : Hp) (a k : Nat) (v : Int64) : Hp := (tpH σ, kdH σ, inH σ, rfH σ, u2 (lgH σ) a k v, dbH σ)
def dbS (σ : Hp) (a k : Nat) (v : UInt64) : Hp := (tpH σ, kdH σ, inH σ, rfH σ, lgH σ, u2 (dbH σ) a k v)
/-- an int array's run of n places, copied within it -/
def cpS (σ : Hp) (a sp dp n : Nat) : Hp := (tpH σ, kdH σ, u1 (inH σ) a (va_cpy (inH σ a) (inH σ a) sp dp n), rfH σ, lgH σ, dbH σ)
/-- a new cell, all zero -/
def nwS (σ : Hp) (kd : Nat × Nat) : Hp := (tpH σ + 1, u1 (kdH σ) (tpH σ) kd, u1 (inH σ) (tpH σ) (fun _ => 0), u1 (rfH σ) (tpH σ) (fun _ => none), u1 (lgH σ) (tpH σ) (fun _ => 0), u1 (dbH σ) (tpH σ) (fun _ => 0))
/-- a new cell that nobody looks at -/
def thS (σ : Hp) : Hp := (tpH σ + 1, u1 (kdH σ) (tpH σ) (0, 0), inH σ, rfH σ, lgH σ, dbH σ)
/-- which fields of a kind of object are ints -/
def jfb (ci : Nat) : List Bool := match ci with
  | 0 => [false, false, true]
  | 1 => [false, false]
  | 2 => [false, true]
  | 3 => [false, false, false, false, false]
  | 4 => [false, false, false, false, false, false, true]
  | 5 => [false, false, false, false, false, true, true]
  | 6 => [false, true, true, true]
  | 7 => [false, true, true, true]
  | _ => []
def jFs (σ : Hp) (a : Nat) : Nat → List Bool → List Value
  | _, [] => []
  | k, b :: bs => (if b = true then .int (inH σ a k) else va_rf (rfH σ a k)) :: jFs σ a (k + 1) bs
theorem jFs_get (σ : Hp) (a : Nat) : ∀ (bs : List Bool) (k i : Nat) (b : Bool), bs[i]? = some b → (jFs σ a k bs)[i]? = some (if b = true then .int (inH σ a (k + i)) else va_rf (rfH σ a (k + i)))
  | [], k, i, b, h => by simp at h
  | c :: bs, k, 0, b, h => by
    simp only [List.getElem?_cons_zero, Option.some.injEq] at h
    subst h
    rfl
  | c :: bs, k, i + 1, b, h => by
    simp only [List.getElem?_cons_succ] at h
    have := jFs_get σ a bs (k + 1) i b h
    simp only [jFs, List.getElem?_cons_succ]
    rw [this, show k + 1 + i = k + (i + 1) by omega]
theorem jFs_len (σ : Hp) (a : Nat) : ∀ (bs : List Bool) (k : Nat), (jFs σ a k bs).length = bs.length
  | [], k => rfl
  | c :: bs, k => by simp [jFs, jFs_len σ a bs (k + 1)]
theorem jFs_congr {σ τ : Hp} {a : Nat} (h1 : ∀ j, inH σ a j = inH τ a j) (h2 : ∀ j, rfH σ a j = rfH τ a j) : ∀ (bs : List Bool) (k : Nat), jFs σ a k bs = jFs τ a k bs
  | [], k => rfl
  | c :: bs, k => by simp only [jFs, h1, h2, jFs_congr h1 h2 bs (k + 1)]
theorem jFs_ext {σ τ : Hp} {a : Nat} : ∀ (bs : List Bool) (k : Nat), (∀ j, k ≤ j → inH σ a j = inH τ a j) → (∀ j, k ≤ j → rfH σ a j = rfH τ a j) → jFs σ a k bs = jFs τ a k bs
  | [], k, h1, h2 => rfl
  | c :: bs, k, h1, h2 => by
    simp only [jFs]
    rw [h1 k (Nat.le_refl k), h2 k (Nat.le_refl k), jFs_ext bs (k + 1) (fun j hj => h1 j (by omega)) (fun j hj => h2 j (by omega))]
theorem jFs_setI (σ : Hp) (a : Nat) (v : Int32) : ∀ (bs : List Bool) (k i : Nat), bs[i]? = some true → (jFs σ a k bs).set i (.int v) = jFs (inS σ a (k + i) v) a k bs
  | [], k, i, h => by simp at h
  | c :: bs, k, 0, h => by
    simp only [List.getElem?_cons_zero, Option.some.injEq] at h
    subst h
    simp only [jFs, List.set_cons_zero, Nat.add_zero]
    congr 1
    · simp [inH, inS, u2]
    · refine jFs_ext bs (k + 1) (fun j hj => ?_) (fun j hj => rfl)
      simp only [inH, inS, u2]
      rw [if_neg (by omega)]
  | c :: bs, k, i + 1, h => by
    simp only [List.getElem?_cons_succ] at h
    simp only [jFs, List.set_cons_succ]
    congr 1
    · simp [inH, inS, u2, rfH]
    · rw [jFs_setI σ a v bs (k + 1) i h, show k + 1 + i = k + (i + 1) by omega]
theorem jFs_setR (σ : Hp) (a : Nat) (v : Option Nat) : ∀ (bs : List Bool) (k i : Nat), bs[i]? = some false → (jFs σ a k bs).set i (va_rf v) = jFs (rfS σ a (k + i) v) a k bs
  | [], k, i, h => by simp at h
  | c :: bs, k, 0, h => by
    simp only [List.getElem?_cons_zero, Option.some.injEq] at h
    subst h
    simp only [jFs, List.set_cons_zero, Nat.add_zero]
    congr 1
    · simp [rfH, rfS, u2]
    · refine jFs_ext bs (k + 1) (fun j hj => rfl) (fun j hj => ?_)
      simp only [rfH, rfS, u2]
      rw [if_neg (by omega)]
  | c :: bs, k, i + 1, h => by
    simp only [List.getElem?_cons_succ] at h
    simp only [jFs, List.set_cons_succ]
    congr 1
    · simp [rfH, rfS, u2, inH]
    · rw [jFs_setR σ a v bs (k + 1) i h, show k + 1 + i = k + (i + 1) by omega]
/-- what a launch and a start fix: the numbers of the classes, those of the arrays' classes, where our cells begin, the script, the two texts ("" and "abcd": where they lie, where their bytes lie), a static that is a reference or null -/
abbrev jG : Type := va_G × (Nat → ClassId) × Nat × (Nat × Nat × (Nat → Int32)) × (Nat → Nat) × (Nat → Nat) × Option Nat
def gDs (g : jG) : va_G := g.1
def gcI (g : jG) : ClassId := g.2.1 0
def gcB (g : jG) : ClassId := g.2.1 1
def gcC (g : jG) : ClassId := g.2.1 2
def gcT (g : jG) : ClassId := g.2.1 3
def gcS (g : jG) : ClassId := g.2.1 4
def gB (g : jG) : Nat := g.2.2.1
def gSa (g : jG) : Nat := g.2.2.2.1.1
def gSn (g : jG) : Nat := g.2.2.2.1.2.1
def gSx (g : jG) : Nat → Int32 := g.2.2.2.1.2.2
def gKa (g : jG) : Nat → Nat := g.2.2.2.2.1
def gKv (g : jG) : Nat → Nat := g.2.2.2.2.2.1
def gFm (g : jG) : Option Nat := g.2.2.2.2.2.2
/-- the texts' lengths and bytes -/
def kLen : List Nat := [0, 4]
def kByt : List (List Int32) := [[], [97, 98, 99, 100]]
def jA (g : jG) : Nat → Prop := fun q => gB g ≤ q
def gTy (g : jG) : List (ClassId × FieldType) := [(gcI g, .int), (gcB g, .byte), (gcC g, .char), (gcT g, .object RX4), (gcS g, .object RJ0)]
/-- kinds: 1 objects, 2 ints, 5 texts, 6 bytes, 7 chars, 8 Strings; 16 a text's bytes, 17 a text: these two are old cells that nobody changes -/
def jEl (g : jG) (σ : Hp) (a : Nat) : va_E :=
  if (kdH σ a).1 = 1 then .inr ((kdH σ a).2, jFs σ a 0 (jfb (kdH σ a).2))
  else if (kdH σ a).1 = 2 then .inl (gcI g, (kdH σ a).2, .inl (inH σ a))
  else if (kdH σ a).1 = 6 then .inl (gcB g, (kdH σ a).2, .inl (inH σ a))
  else if (kdH σ a).1 = 7 then .inl (gcC g, (kdH σ a).2, .inl (inH σ a))
  else if (kdH σ a).1 = 8 then .inl (gcS g, (kdH σ a).2, .inr (.inr (.inr (.inr (rfH σ a)))))
  else .inl (gcT g, (kdH σ a).2, .inr (.inr (.inr (.inr (rfH σ a)))))
/-- an old cell: a text's bytes, or a text -/
def jKc (g : jG) (σ : Hp) (a : Nat) : Prop :=
  ((kdH σ a).1 = 16 ∧ ∃ i, i < 2 ∧ a = gKv g i ∧ (kdH σ a).2 = kLen.getD i 0 ∧ ∀ j, inH σ a j = (kByt.getD i []).getD j 0) ∨
  ((kdH σ a).1 = 17 ∧ ∃ i, i < 2 ∧ a = gKa g i ∧ inH σ a 1 = 0 ∧ rfH σ a 0 = some (gKv g i))
def jOld (k : Nat) : Prop := k = 16 ∨ k = 17
def jRel (g : jG) (σ : Hp) (H : Heap) : Prop := H.size = tpH σ ∧ gB g ≤ tpH σ ∧ (∀ a, (kdH σ a).1 ≠ 0 → ¬ jOld (kdH σ a).1 → gB g ≤ a ∧ va_at (gDs g) jCl (a, jEl g σ a) H) ∧ ∀ a, jOld (kdH σ a).1 → a < gB g ∧ jKc g σ a
theorem jEl_obj {g : jG} {σ : Hp} {a ci : Nat} (h : kdH σ a = (1, ci)) : jEl g σ a = .inr (ci, jFs σ a 0 (jfb ci)) := by simp [jEl, h]
theorem jEl_int {g : jG} {σ : Hp} {a n : Nat} (h : kdH σ a = (2, n)) : jEl g σ a = .inl (gcI g, n, .inl (inH σ a)) := by simp [jEl, h]
theorem jEl_byt {g : jG} {σ : Hp} {a n : Nat} (h : kdH σ a = (6, n)) : jEl g σ a = .inl (gcB g, n, .inl (inH σ a)) := by simp [jEl, h]
theorem jEl_chr {g : jG} {σ : Hp} {a n : Nat} (h : kdH σ a = (7, n)) : jEl g σ a = .inl (gcC g, n, .inl (inH σ a)) := by simp [jEl, h]
theorem jEl_str {g : jG} {σ : Hp} {a n : Nat} (h : kdH σ a = (8, n)) : jEl g σ a = .inl (gcS g, n, .inr (.inr (.inr (.inr (rfH σ a))))) := by simp [jEl, h]
theorem jEl_txt {g : jG} {σ : Hp} {a n : Nat} (h : kdH σ a = (5, n)) : jEl g σ a = .inl (gcT g, n, .inr (.inr (.inr (.inr (rfH σ a))))) := by simp [jEl, h]
/-- a cell of ours -/
theorem jRel.my {g : jG} {σ : Hp} {H : Heap} (h : jRel g σ H) {a k n : Nat} (hk : kdH σ a = (k, n)) (h0 : k ≠ 0 := by decide) (h16 : k ≠ 16 := by decide) (h17 : k ≠ 17 := by decide) : gB g ≤ a ∧ va_at (gDs g) jCl (a, jEl g σ a) H :=
  h.2.2.1 a (by rw [hk]; exact h0) (by rw [hk]; exact fun q => q.elim h16 h17)
/-- one cell's world -/
theorem jRel.one {g : jG} {σ : Hp} {H : Heap} (h : jRel g σ H) {a k n : Nat} (hk : kdH σ a = (k, n)) {e : va_E} (he : jEl g σ a = e) (h0 : k ≠ 0 := by decide) (h16 : k ≠ 16 := by decide) (h17 : k ≠ 17 := by decide) : va_P (gDs g) jCl [(a, e)] H := by
  intro i q hq
  have hz : i < 1 := (List.getElem?_eq_some_iff.mp hq).1
  rw [show i = 0 by omega] at hq
  cases hq
  rw [← he]
  exact (h.my hk h0 h16 h17).2
theorem jEl_congr {g : jG} {σ τ : Hp} {q : Nat} (h2 : kdH τ q = kdH σ q) (h3 : ∀ j, inH τ q j = inH σ q j) (h4 : ∀ j, rfH τ q j = rfH σ q j) : jEl g τ q = jEl g σ q := by
  have e3 : inH τ q = inH σ q := funext h3
  have e4 : rfH τ q = rfH σ q := funext h4
  unfold jEl
  rw [h2, e3, e4, jFs_congr h3 h4]
theorem jKc_congr {g : jG} {σ τ : Hp} {q : Nat} (h2 : kdH τ q = kdH σ q) (h3 : ∀ j, inH τ q j = inH σ q j) (h4 : ∀ j, rfH τ q j = rfH σ q j) (h : jKc g σ q) : jKc g τ q := by
  rcases h with ⟨h, i, a, b, c, d⟩ | ⟨h, i, a, b, c, d⟩
  · exact Or.inl ⟨by rw [h2]; exact h, i, a, b, by rw [h2]; exact c, fun j => by rw [h3]; exact d j⟩
  · exact Or.inr ⟨by rw [h2]; exact h, i, a, b, by rw [h3]; exact c, by rw [h4]; exact d⟩
/-- one cell of ours is changed -/
theorem jRel.upd {g : jG} {σ τ : Hp} {H H1 : Heap} (h : jRel g σ H) {a : Nat} (ha : gB g ≤ a) (h1 : tpH τ = tpH σ) (h2 : kdH τ = kdH σ) (he : va_at (gDs g) jCl (a, jEl g τ a) H1) (hz : H1.size = H.size) (oq : ∀ q : Nat, q ≠ a → H1[q]? = H[q]?)
    (hi : ∀ q, q ≠ a → ∀ j, inH τ q j = inH σ q j) (hr : ∀ q, q ≠ a → ∀ j, rfH τ q j = rfH σ q j) : jRel g τ H1 := by
  refine ⟨by rw [hz, h.1, h1], by rw [h1]; exact h.2.1, fun q hq hn => ?_, fun q hq => ?_⟩
  · rw [h2] at hq hn
    by_cases e : q = a
    · subst e
      exact ⟨ha, he⟩
    · rw [jEl_congr (by rw [h2]) (hi q e) (hr q e)]
      exact ⟨(h.2.2.1 q hq hn).1, (h.2.2.1 q hq hn).2.kept (oq q e)⟩
  · rw [h2] at hq
    have h9 := h.2.2.2 q hq
    have e : q ≠ a := by omega
    exact ⟨h9.1, jKc_congr (by rw [h2]) (hi q e) (hr q e) h9.2⟩
/-- a new cell -/
theorem jRel.new {g : jG} {σ : Hp} {H H1 : Heap} (h : jRel g σ H) (kd : Nat × Nat) (hz : H1.size = H.size + 1) (oq : ∀ q : Nat, q < H.size → H1[q]? = H[q]?) (h16 : ¬ jOld kd.1) (he : kd.1 ≠ 0 → va_at (gDs g) jCl (H.size, jEl g (nwS σ kd) H.size) H1) : jRel g (nwS σ kd) H1 := by
  have kq : ∀ q, q ≠ tpH σ → kdH (nwS σ kd) q = kdH σ q := fun q e => by show u1 (kdH σ) (tpH σ) kd q = _; simp [u1, e]
  have iq : ∀ q, q ≠ tpH σ → ∀ j, inH (nwS σ kd) q j = inH σ q j := fun q e j => by simp only [inH, nwS, u1]; rw [if_neg e]
  have rq : ∀ q, q ≠ tpH σ → ∀ j, rfH (nwS σ kd) q j = rfH σ q j := fun q e j => by simp only [rfH, nwS, u1]; rw [if_neg e]
  have k0 : kdH (nwS σ kd) (tpH σ) = kd := by show u1 (kdH σ) (tpH σ) kd (tpH σ) = _; simp [u1]
  refine ⟨by rw [hz, h.1]; rfl, Nat.le_succ_of_le h.2.1, fun q hq hn => ?_, fun q hq => ?_⟩
  · by_cases e : q = tpH σ
    · subst e
      refine ⟨h.2.1, ?_⟩
      rw [← h.1] at k0 hq ⊢
      rw [k0] at hq
      exact he hq
    · rw [kq q e] at hq hn
      have h9 := h.2.2.1 q hq hn
      rw [jEl_congr (kq q e) (iq q e) (rq q e)]
      exact ⟨h9.1, h9.2.kept (oq q h9.2.lt)⟩
  · by_cases e : q = tpH σ
    · subst e
      rw [k0] at hq
      exact absurd hq h16
    · rw [kq q e] at hq
      exact ⟨(h.2.2.2 q hq).1, jKc_congr (kq q e) (iq q e) (rq q e) (h.2.2.2 q hq).2⟩
/-- new cells that nobody looks at -/
def skS (σ : Hp) (n : Nat) : Hp := (tpH σ + n, fun x => if tpH σ ≤ x ∧ x < tpH σ + n then (0, 0) else kdH σ x, inH σ, rfH σ, lgH σ, dbH σ)
theorem jRel.skips {g : jG} {σ : Hp} {H H1 : Heap} (h : jRel g σ H) (n : Nat) (hz : H1.size = H.size + n) (oq : ∀ q : Nat, q < H.size → H1[q]? = H[q]?) : jRel g (skS σ n) H1 := by
  have kq : ∀ q, (kdH (skS σ n) q).1 ≠ 0 → kdH (skS σ n) q = kdH σ q := fun q e => by
    by_cases hq : tpH σ ≤ q ∧ q < tpH σ + n
    · exact absurd (by show (if tpH σ ≤ q ∧ q < tpH σ + n then ((0, 0) : Nat × Nat) else kdH σ q).1 = 0; rw [if_pos hq]) e
    · show (if tpH σ ≤ q ∧ q < tpH σ + n then ((0, 0) : Nat × Nat) else kdH σ q) = _
      rw [if_neg hq]
  refine ⟨by rw [hz, h.1]; rfl, Nat.le_trans h.2.1 (Nat.le_add_right _ _), fun q hq hn => ?_, fun q hq => ?_⟩
  · have e := kq q hq
    rw [e] at hq hn
    have h9 := h.2.2.1 q hq hn
    rw [jEl_congr e (fun _ => rfl) (fun _ => rfl)]
    exact ⟨h9.1, h9.2.kept (oq q h9.2.lt)⟩
  · have e := kq q (by rcases hq with h | h <;> rw [h] <;> decide)
    rw [e] at hq
    exact ⟨(h.2.2.2 q hq).1, jKc_congr e (fun _ => rfl) (fun _ => rfl) (h.2.2.2 q hq).2⟩
theorem jRel.skip {g : jG} {σ : Hp} {H H1 : Heap} (h : jRel g σ H) (hz : H1.size = H.size + 1) (oq : ∀ q : Nat, q < H.size → H1[q]? = H[q]?) : jRel g (thS σ) H1 := by
  have h9 := h.skips 1 hz oq
  have e : skS σ 1 = thS σ := by
    unfold skS thS
    congr 2
    funext x
    simp only [u1]
    by_cases hx : x = tpH σ
    · rw [if_pos (by omega), if_pos hx]
    · rw [if_neg (by omega), if_neg hx]
  rw [← e]
  exact h9
/-- words that the tables alone decide, but that aren't kept as the good ones are -/
def jNt : List Cond := [.methodLinkNest RX5 20 yX3_init RX5, .castable "java/lang/IndexOutOfBoundsException" "java/lang/IndexOutOfBoundsException", .declares ⟨"java/lang/RuntimeException", "<init>", "()V"⟩, .declares ⟨"java/lang/RuntimeException", "<init>", "(Ljava/lang/String;)V"⟩, .declares ⟨"java/lang/Exception", "<init>", "()V"⟩, .declares ⟨"java/lang/Exception", "<init>", "(Ljava/lang/String;)V"⟩, .declares ⟨"java/lang/Throwable", "<init>", "()V"⟩, .declares ⟨"java/lang/Throwable", "<init>", "(Ljava/lang/String;)V"⟩, .castable "java/lang/IllegalArgumentException" "java/lang/IllegalArgumentException", .methodLinkNest RX5 164 yX4_init RX5, .castable "java/lang/IllegalStateException" "java/lang/IllegalStateException", .castable "[B" "java/lang/Cloneable", .castable "java/util/NoSuchElementException" "java/util/NoSuchElementException", .castable "java/lang/UnsupportedOperationException" "java/lang/UnsupportedOperationException"]
theorem jNt_warm {s U : State} (hW : s.WarmedH U.vm) (h : ∀ w ∈ jNt, va_Nw w s) : ∀ w ∈ jNt, va_Nw w U := by
  intro w hw
  have h1 := h w hw
  simp only [jNt, List.mem_cons, List.not_mem_nil, or_false] at hw
  rcases hw with rfl | rfl | rfl | rfl | rfl | rfl | rfl | rfl | rfl | rfl | rfl | rfl | rfl | rfl <;> first | exact va_Nw.warmC hW h1 | exact va_Nw.warmM hW h1 | exact va_Nw.warmD hW h1
/-- the texts of the exceptions -/
def jSr : List (String × Nat × String) := [(RX5, 157, "neither a text nor the next new one"), (RX5, 162, "no such grade"), (RX5, 289, "no such text"), (RX5, 237, "no such bearing"), (RX5, 253, "no such reader"), (RX5, 291, "no such word"), (RX5, 56, "neither a letter nor a blank"), (RX5, 67, "the buffer is full"), (RX5, 192, "no such cell of the word"), (RX5, 200, "no such line"), (RX5, 205, "no such cell of the line"), (RX5, 87, "not the numbers or the letters of a rule"), (RX5, 90, "no room for another rule"), (RX5, 98, "there is a rule for these letters"), (RX5, 108, "not the numbers of a rule"), (RX5, 112, "no rule for these letters"), (RX5, 139, "not one word"), (RX5, 148, "no room for another exception"), (RX5, 179, "no such width"), (RX5, 242, "no such pin"), (RX5, 226, "a pin would be struck more than it bears")]
/-- which exceptions aren't others (E, F): E is no F -/
def jNl : List (String × String) := [("java/lang/IllegalStateException", "java/lang/IllegalArgumentException"), ("java/lang/UnsupportedOperationException", "java/lang/IllegalArgumentException"), ("java/lang/UnsupportedOperationException", "java/lang/IllegalStateException"), ("java/util/NoSuchElementException", "java/lang/IllegalArgumentException"), ("java/util/NoSuchElementException", "java/lang/IndexOutOfBoundsException"), ("java/lang/IllegalArgumentException", "java/lang/IndexOutOfBoundsException"), ("java/lang/IllegalStateException", "java/lang/IndexOutOfBoundsException")]
def jSt (g : jG) (U : State) : Prop := va_K (gDs g) jCl (gTy g) U ∧ (∀ w ∈ jNt, va_Nw w U) ∧ (∀ q ∈ jSr, ∃ a, vk_R q.1 q.2.1 q.2.2 a U) ∧ va_AO RX4 U ∧ (∀ q ∈ jNl, va_Nc q.1 q.2 U) ∧ va_AO RJ0 U ∧ vk_R RL 54 "" (gKa g 0) U ∧ vk_R RL 21 "abcd" (gKa g 1) U
/-- what the old cells hold -/
def jZo (g : jG) (U : State) (H : Heap) : Prop := vk_S 2 kLen kByt (gKa g) (gKv g) (jA g) U H ∧ va_Z RJ0 "COMPACT_STRINGS" "Z" (.int 1) (jA g) U H ∧ va_Z RJ3 "SIOOBE_FORMATTER" "Ljava/util/function/BiFunction;" (va_rf (gFm g)) (jA g) U H
def jZt (g : jG) (U : State) (H : Heap) : Prop := vx_Zq Bundle.tN "UNASSIGNED_STACK" Bundle.steD (jA g) U H ∧ vx_Zq Bundle.tN "SUPPRESSED_SENTINEL" Bundle.listD (jA g) U H ∧ va_X (gSa g) (gSn g) (gSx g) U H ∧ gSa g < gB g ∧ gB g ≤ H.size ∧ jZo g U H
def jPre (g : jG) (σ : Hp) (U : State) : Prop := jSt g U ∧ jZt g U U.heap ∧ jRel g σ U.heap
theorem jSt_warm {g : jG} {s U : State} (hW : s.WarmedH U.vm) (h : jSt g s) : jSt g U :=
  ⟨va_K.moved hW.alike h.1, jNt_warm hW h.2.1, fun q hq => by obtain ⟨a, ha⟩ := h.2.2.1 q hq; exact ⟨a, ha.warm hW⟩, va_AO.moved hW.alike h.2.2.2.1, fun q hq => (h.2.2.2.2.1 q hq).moved hW.alike, va_AO.moved hW.alike h.2.2.2.2.2.1, h.2.2.2.2.2.2.1.warm hW, h.2.2.2.2.2.2.2.warm hW⟩
theorem jZo_kept {g : jG} {s : State} {H H1 : Heap} (h : jZo g s H) (hq : ∀ a : Nat, a < H.size → ¬ jA g a → H1[a]? = H[a]?) : jZo g s H1 := ⟨h.1.kept hq, h.2.1.kept hq, h.2.2.kept hq⟩
theorem jZo_moved {g : jG} {s U : State} {H : Heap} (hA : s.vm.Alike U.vm) (h : jZo g s H) : jZo g U H := ⟨vk_S.moved hA h.1, va_Z.moved hA h.2.1, va_Z.moved hA h.2.2⟩
theorem jZt_kept {g : jG} {s : State} {H : Heap} {locs : List Loc} (h : jZt g s s.heap) (hS : va_S (jA g) s.heap H locs) : jZt g s H :=
  ⟨h.1.kept hS.2.1, h.2.1.kept hS.2.1, h.2.2.1.kept (hS.2.1 _ (Nat.lt_of_lt_of_le h.2.2.2.1 h.2.2.2.2.1) (Nat.not_le.mpr h.2.2.2.1)), h.2.2.2.1, Nat.le_trans h.2.2.2.2.1 hS.1, jZo_kept h.2.2.2.2.2 hS.2.1⟩
theorem jZt_moved {g : jG} {s U : State} {H : Heap} (hA : s.vm.Alike U.vm) (h : jZt g s H) : jZt g U H :=
  ⟨h.1.moved hA, h.2.1.moved hA, h.2.2.1.moved hA, h.2.2.2.1, h.2.2.2.2.1, jZo_moved hA h.2.2.2.2.2⟩
theorem jPre_blind {g : jG} {σ : Hp} {av : List Value} : FrameBlind (va_Pc av (jPre g σ)) := by
  intro a U f mk h
  obtain ⟨h0, h1, h2, h3⟩ := h
  exact ⟨h0, jSt_warm (U := U.calling f mk a) (State.WarmedH.refl U) h1, jZt_moved (U := U.calling f mk a) (Vm.Alike.refl U.vm) h2, h3⟩
/-- the end of a method -/
def jQc (g : jG) (o : jO) (τ : Hp) : Array Value → State → Outcome → State → Prop := fun _ st oc t => (∃ v, o = .inl v ∧ oc = .returned v ∧ jRel g τ t.heap) ∧ va_F (jA g) st t
def jXC (g : jG) (o : jO) (τ : Hp) : String → State → State → Prop := fun E st t => o = .inr E ∧ jRel g τ t.heap ∧ va_F (jA g) st t
abbrev jMet (l : Launch) (g : jG) (y : MethodName) (ws : List Cond) (rm : Room) (mc ms : Nat) (av : List Value) (σ : Hp) (o : jO) (τ : Hp) : Prop :=
  vx_Met l y ws rm (va_Pc av (jPre g σ)) (jQc g o τ) (jXC g o τ) mc ms (jA g)
/-- what stands fast in a method -/
def jC (p : Program) (l : Launch) (s : State) (m : MethodId) (args : Array Value) (meth : Method) (c : Code) (g : jG) (own : String) (cc : ByteArray) (nL : Nat) (rt : Option FieldType) : Prop :=
  p.tables.exec = Jvm.exec ∧ c.code = cc ∧ c.maxLocals = nL ∧ s.vm.findClass own = some m.cls ∧ (∀ w ∈ gT, w.before args s = true) ∧ meth.locks = false ∧ l.stackTraces = false ∧ meth.sig.returnType = rt ∧ jSt g s ∧ jZt g s s.heap
/-- the machine at pc, its locals, its stack, the heap a value -/
def jW (p : Program) (l : Launch) (e : Env) (R : Room) (s : State) (m : MethodId) (args : Array Value) (below : List Frame) (meth : Method) (c : Code) (g : jG) (Q : State → Prop) (k n pc : Nat) (lv : List (Nat × Value)) (st : List Value) (σ : Hp) : Prop :=
  ∀ (H : Heap) (locs : List Loc) (ls : Array Slot), jRel g σ H → va_S (jA g) s.heap H locs → lv_has ls c.maxLocals lv → W p l e R s m args below meth c H locs k n Q (F0 m pc ls st)
/-- an exception is on its way -/
def jX (p : Program) (l : Launch) (e : Env) (R : Room) (s : State) (m : MethodId) (args : Array Value) (below : List Frame) (meth : Method) (c : Code) (g : jG) (Q : State → Prop) (k n pc : Nat) (lv : List (Nat × Value)) (st : List Value) (σ : Hp) (E : String) : Prop :=
  ∀ (H : Heap) (locs : List Loc) (ls : Array Slot) (ce : Cell) (q : Addr), jRel g σ H → va_S (jA g) s.heap H locs → lv_has ls c.maxLocals lv → H[q]? = some ce → ce.vm = .none → s.vm.findClass E = some ce.cls → vx_W p l e R s m args below meth c H locs k n Q (F0 m pc ls st) q
