/-! fields -/
/-- field f of a kind of object, as a method of 'own' links it -/
def jFd (own : String) (index ci f : Nat) (isI : Bool) : Prop := ∃ (Cn : String) (T : u_T) (N : Nat), jCl[ci]? = some (Cn, T, N) ∧ f < N ∧ (jfb ci)[f]? = some isI ∧ (∀ w ∈ u_ws Cn T N, w ∈ gT) ∧ Cond.fieldLink own index (T f).1 (T f).2.1 (T f).2.2.1 ∈ gT
/-- which stores a type takes as they are -/
def jPt (isI : Bool) (ty : FieldType) : Prop := (isI = true → ∀ v, narrow ty (.int v) = .int v ∧ fits ty (.int v) = true) ∧ (isI = false → ∀ r, narrow ty (va_rf r) = va_rf r ∧ fits ty (va_rf r) = true)
def jP0 (ty : FieldType) : Prop := narrow ty (.int 0) = .int 0 ∧ fits ty (.int 0) = true
/-- what its stores want more -/
def jFpP (own : String) (index ci f : Nat) (isI fin : Bool) (PT : FieldType → Prop) : Prop := ∃ (Cn : String) (T : u_T) (N : Nat), jCl[ci]? = some (Cn, T, N) ∧ f < N ∧ (jfb ci)[f]? = some isI ∧ (∀ w ∈ u_ws Cn T N, w ∈ gT) ∧ Cond.fieldLink own index (T f).1 (T f).2.1 (T f).2.2.1 ∈ gT ∧
  (T f).2.2.2 = fin ∧ (fin = true → (T f).1 = own) ∧ (jfb ci).length = N ∧ (∃ ty0 : Nat → FieldType, ∀ k, k < N → parseFieldDescriptor (T k).2.2.1 = some (ty0 k)) ∧ (∀ a, a < N → ∀ b, b < N → a ≠ b → (T a).2.1 ≠ (T b).2.1) ∧
  ∃ ty : FieldType, parseFieldDescriptor (T f).2.2.1 = some ty ∧ PT ty
abbrev jFp (own : String) (index ci f : Nat) (isI fin : Bool) : Prop := jFpP own index ci f isI fin (jPt isI)
abbrev jFp0 (own : String) (index ci f : Nat) (fin : Bool) : Prop := jFpP own index ci f true fin jP0
section JHEAP
variable {p : Program} {l : Launch} {e : Env} {R : Room} {s : State} {m : MethodId} {args : Array Value} {below : List Frame} {meth : Method} {c : Code} {g : jG} {Q : State → Prop} {own : String} {cc : ByteArray} {nL k n pc : Nat} {rt : Option FieldType} {lv lv' : List (Nat × Value)} {st : List Value} {σ τ : Hp} {X : jO × Hp} {o : jO} {mc ms : Nat}
theorem r_getI (C : jC p l s m args meth c g own cc nL rt) {index ci f a : Nat} {K : Int32 → jR} (pc' : Nat) (hp : pc + 3 = pc') (hF : jFd own index ci f true) (hd : decode cc pc = .ok (.getfield index, 3)) (h : jgI σ a ci f K = some X)
    (kk : ∀ v, K v = some X → jW p l e R s m args below meth c g Q k n pc' lv (.int v :: st) σ) : jW p l e R s m args below meth c g Q k n pc lv (.ref a :: st) σ := by
  subst hp
  obtain ⟨hk, h⟩ := jif_some h
  obtain ⟨Cn, T, N, f1, f2, f3, f4, f5⟩ := hF
  intro H locs ls h1 h2 h3
  have hP := h1.one hk (jEl_obj hk)
  have hv := jFs_get σ a (jfb ci) 0 f true f3
  rw [Nat.zero_add] at hv
  exact va_get C.1 C.2.1 C.2.2.2.2.1 f4 C.2.2.2.1 C.2.2.2.2.2.2.2.2.1.1 hP 0 rfl f1 f f2 (C.2.2.2.2.1 _ f5) (fun x hx => hx) hv hd (kk _ h H locs ls h1 h2 h3)
theorem r_getR (C : jC p l s m args meth c g own cc nL rt) {index ci f a : Nat} {K : Option Nat → jR} (pc' : Nat) (hp : pc + 3 = pc') (hF : jFd own index ci f false) (hd : decode cc pc = .ok (.getfield index, 3)) (h : jgR σ a ci f K = some X)
    (kk : ∀ v, K v = some X → jW p l e R s m args below meth c g Q k n pc' lv (va_rf v :: st) σ) : jW p l e R s m args below meth c g Q k n pc lv (.ref a :: st) σ := by
  subst hp
  obtain ⟨hk, h⟩ := jif_some h
  obtain ⟨Cn, T, N, f1, f2, f3, f4, f5⟩ := hF
  intro H locs ls h1 h2 h3
  have hP := h1.one hk (jEl_obj hk)
  have hv := jFs_get σ a (jfb ci) 0 f false f3
  rw [Nat.zero_add] at hv
  exact va_get C.1 C.2.1 C.2.2.2.2.1 f4 C.2.2.2.1 C.2.2.2.2.2.2.2.2.1.1 hP 0 rfl f1 f f2 (C.2.2.2.2.1 _ f5) (fun x hx => hx) hv hd (kk _ h H locs ls h1 h2 h3)
/-- a field of a String: one that was made, or a text's -/
theorem r_getIs (C : jC p l s m args meth c g own cc nL rt) {index a : Nat} {K : Int32 → jR} (pc' : Nat) (hp : pc + 3 = pc') (hF : jFd own index 7 1 true) (hl : Cond.fieldLink own index RJ0 "coder" "B" ∈ gT) (hd : decode cc pc = .ok (.getfield index, 3)) (h : jgIs σ a K = some X)
    (kk : ∀ v, K v = some X → jW p l e R s m args below meth c g Q k n pc' lv (.int v :: st) σ) : jW p l e R s m args below meth c g Q k n pc lv (.ref a :: st) σ := by
  obtain ⟨hk, h⟩ := jif_some h
  rcases hk with hk | hk
  · exact r_getI C pc' hp hF hd (show jgI σ a 7 1 K = some X by unfold jgI; rw [if_pos hk]; exact h) kk
  · subst hp
    intro H locs ls h1 h2 h3
    obtain ⟨-, h9⟩ := h1.2.2.2 a (Or.inr hk)
    rcases h9 with ⟨h9, -⟩ | ⟨-, i, hi, rfl, e1, -⟩
    · rw [hk] at h9; cases h9
    · have hz := C.2.2.2.2.2.2.2.2.2.2.2.2.2.2.1
      have := kk _ h H locs ls h1 h2 h3
      rw [e1] at this
      exact vk_getf C.1 C.2.1 (hz.1 i hi).2.1 h2 C.2.2.2.1 (C.2.2.2.2.1 _ hl) (fun x hx => hx) hd this
theorem r_getRs (C : jC p l s m args meth c g own cc nL rt) {index a : Nat} {K : Option Nat → jR} (pc' : Nat) (hp : pc + 3 = pc') (hF : jFd own index 7 0 false) (hl : Cond.fieldLink own index RJ0 "value" "[B" ∈ gT) (hd : decode cc pc = .ok (.getfield index, 3)) (h : jgRs σ a K = some X)
    (kk : ∀ v, K v = some X → jW p l e R s m args below meth c g Q k n pc' lv (va_rf v :: st) σ) : jW p l e R s m args below meth c g Q k n pc lv (.ref a :: st) σ := by
  obtain ⟨hk, h⟩ := jif_some h
  rcases hk with hk | hk
  · exact r_getR C pc' hp hF hd (show jgR σ a 7 0 K = some X by unfold jgR; rw [if_pos hk]; exact h) kk
  · subst hp
    intro H locs ls h1 h2 h3
    obtain ⟨-, h9⟩ := h1.2.2.2 a (Or.inr hk)
    rcases h9 with ⟨h9, -⟩ | ⟨-, i, hi, rfl, -, e1⟩
    · rw [hk] at h9; cases h9
    · have hz := C.2.2.2.2.2.2.2.2.2.2.2.2.2.2.1
      have := kk _ h H locs ls h1 h2 h3
      rw [e1] at this
      exact vk_getf C.1 C.2.1 (hz.1 i hi).2.2.1 h2 C.2.2.2.1 (C.2.2.2.2.1 _ hl) (fun x hx => hx) hd this
/-- the heap behind a store into a field -/
theorem jRel_put {index ci f a : Nat} {H H' : Heap} (h1 : jRel g σ H) (hk : kdH σ a = (1, ci)) {Cn : String} {T : u_T} {N : Nat} (f1 : jCl[ci]? = some (Cn, T, N)) (f2 : f < N) (hN : (jfb ci).length = N)
    (hap : ∀ x y, x < N → y < N → x ≠ y → ((gDs g).2 ci) x ≠ ((gDs g).2 ci) y) {cell : Cell} (q1 : H[a]? = some cell) (q2 : cell.cls = (gDs g).1 ci) (q3 : cell.vm = .none) (q4 : ∀ k, k < N → cell.slots[((gDs g).2 ci) k]? = some (vp_V (jFs σ a 0 (jfb ci)) k))
    {v : Value} (e1 : H'[a]? = some (cell.setSlot (((gDs g).2 ci) f) v)) (e2 : H'.size = H.size) (e3 : ∀ q, q ≠ a → H'[q]? = H[q]?) (t1 : tpH τ = tpH σ) (t2 : kdH τ = kdH σ) (hi : ∀ q, q ≠ a → ∀ j, inH τ q j = inH σ q j) (hr : ∀ q, q ≠ a → ∀ j, rfH τ q j = rfH σ q j)
    (hv : (jFs σ a 0 (jfb ci)).set f v = jFs τ a 0 (jfb ci)) : jRel g τ H' := by
  refine h1.upd (a := a) (h1.my hk).1 t1 t2 ?_ e2 e3 hi hr
  rw [jEl_obj (by rw [t2]; exact hk)]
  refine ⟨_, f1, ?_⟩
  have hl : f < (jFs σ a 0 (jfb ci)).length := by rw [jFs_len, hN]; exact f2
  have := t_OB.to (V' := vp_V ((jFs σ a 0 (jfb ci)).set f v)) (o := a) (cC := (gDs g).1 ci) (N := N) (iS := (gDs g).2 ci) (H := H') (V := updV (vp_V (jFs σ a 0 (jfb ci))) f v) ⟨_, e1, q2, q3, t_set q4 hap f2 v⟩ (fun j _ => vp_updV_set hl v j)
  rw [hv] at this
  exact this
theorem inS_ne {a f : Nat} {v : Int32} {q : Nat} (hq : q ≠ a) (j : Nat) : inH (inS σ a f v) q j = inH σ q j := by show u2 (inH σ) a f v q j = _; simp [u2, hq]
theorem rfS_ne {a f : Nat} {v : Option Nat} {q : Nat} (hq : q ≠ a) (j : Nat) : rfH (rfS σ a f v) q j = rfH σ q j := by show u2 (rfH σ) a f v q j = _; simp [u2, hq]
theorem cpS_ne {a sp dp z : Nat} {q : Nat} (hq : q ≠ a) (j : Nat) : inH (cpS σ a sp dp z) q j = inH σ q j := by simp only [inH, cpS, u1]; rw [if_neg hq]
/-- a store into a field, of either kind -/
theorem r_putG (C : jC p l s m args meth c g own cc nL rt) {index ci f a : Nat} {isI : Bool} {PT : FieldType → Prop} (hF : jFpP own index ci f isI false PT) (hd : decode cc pc = .ok (.putfield index, 3)) (hk : kdH σ a = (1, ci)) {v : Value} (hv : ∀ ty, PT ty → narrow ty v = v ∧ fits ty v = true)
    (hset : (jfb ci)[f]? = some isI → (jFs σ a 0 (jfb ci)).set f v = jFs τ a 0 (jfb ci)) (t1 : tpH τ = tpH σ) (t2 : kdH τ = kdH σ) (hi9 : ∀ q, q ≠ a → ∀ j, inH τ q j = inH σ q j) (hr9 : ∀ q, q ≠ a → ∀ j, rfH τ q j = rfH σ q j)
    (kk : jW p l e R s m args below meth c g Q k n (pc + 3) lv st τ) : jW p l e R s m args below meth c g Q k n pc lv (v :: .ref a :: st) σ := by
  obtain ⟨Cn, T, N, f1, f2, f3, f4, f5, f7, f8, f9, ⟨ty0, f10⟩, f11, ty, f12, f13⟩ := hF
  obtain ⟨n1, n2⟩ := hv ty f13
  intro H locs ls h1 h2 h3
  have hK := C.2.2.2.2.2.2.2.2.1.1
  have hap := va_apart (own := own) C.2.2.2.2.1 f4 ty0 f10 f11 hK f1
  obtain ⟨r, g1, cell, q1, q2, q3, q4⟩ := (h1.one hk (jEl_obj hk)) 0 _ rfl
  have hr : r = (Cn, T, N) := Option.some.inj (g1.symm.trans f1)
  subst hr
  obtain ⟨hS, hfc, kC, hkC, hkind⟩ := hK.1 ci _ f1
  obtain ⟨cf, kf, fi, fd, hi, hsl⟩ := hS f f2
  have hlay := C.2.2.2.2.1 _ (f4 _ (u_in_lay f2))
  unfold u_lay at hlay
  rw [if_neg (by rw [f7]; decide)] at hlay
  have hst := (u_facts hfc hkC (u_lays C.2.2.2.2.1 f4 f2) hi).1
  have h6 := u_store hfc hkC hkind hlay hi f12 n1 n2
  refine W.putK C.1 C.2.1 (f := fd) ⟨C.2.2.2.1, C.2.2.2.2.1 _ f5, ⟨_, _, _, hi⟩, hst⟩ (by rw [q2]; exact h6) q1 q3 (by rw [hsl]; exact k2_hasslot (q4 f f2)) rfl rfl hd fun H' e1 e2 e3 => ?_
  rw [hsl] at e1 ⊢
  exact kk H' _ ls (jRel_put (index := index) h1 hk f1 f2 f9 hap q1 q2 q3 q4 e1 e2 e3 t1 t2 hi9 hr9 (hset f3)) (h2.put e2 e3 (h1.my hk).1) h3
/-- a store into a final field, in its own class's constructor -/
theorem r_putGF (C : jC p l s m args meth c g own cc nL rt) (hin2 : meth.name = "<init>") {index ci f a : Nat} {isI : Bool} {PT : FieldType → Prop} (hF : jFpP own index ci f isI true PT) (hd : decode cc pc = .ok (.putfield index, 3)) (hk : kdH σ a = (1, ci)) {v : Value} (hv : ∀ ty, PT ty → narrow ty v = v ∧ fits ty v = true)
    (hset : (jfb ci)[f]? = some isI → (jFs σ a 0 (jfb ci)).set f v = jFs τ a 0 (jfb ci)) (t1 : tpH τ = tpH σ) (t2 : kdH τ = kdH σ) (hi9 : ∀ q, q ≠ a → ∀ j, inH τ q j = inH σ q j) (hr9 : ∀ q, q ≠ a → ∀ j, rfH τ q j = rfH σ q j)
    (kk : jW p l e R s m args below meth c g Q k n (pc + 3) lv st τ) : jW p l e R s m args below meth c g Q k n pc lv (v :: .ref a :: st) σ := by
  obtain ⟨Cn, T, N, f1, f2, f3, f4, f5, f7, f8, f9, ⟨ty0, f10⟩, f11, ty, f12, f13⟩ := hF
  obtain ⟨n1, n2⟩ := hv ty f13
  intro H locs ls h1 h2 h3
  have hK := C.2.2.2.2.2.2.2.2.1.1
  have hown := C.2.2.2.1
  have hap := va_apart (own := own) C.2.2.2.2.1 f4 ty0 f10 f11 hK f1
  obtain ⟨r, g1, cell, q1, q2, q3, q4⟩ := (h1.one hk (jEl_obj hk)) 0 _ rfl
  have hr : r = (Cn, T, N) := Option.some.inj (g1.symm.trans f1)
  subst hr
  obtain ⟨hS, hfc, kC, hkC, hkind⟩ := hK.1 ci _ f1
  obtain ⟨cf, kf, fi, fd, hi, hsl⟩ := hS f f2
  have hlay := C.2.2.2.2.1 _ (f4 _ (u_in_lay f2))
  unfold u_lay at hlay
  rw [if_pos f7] at hlay
  have hst := (u_facts hfc hkC (u_lays C.2.2.2.2.1 f4 f2) hi).1
  have hcf : m.cls = cf := by
    obtain ⟨_, _, c', _, _, _, -, -, hf', -, -, -, hown2, -⟩ := Cond.laysFinal_spec hlay
    have e1 : c' = cf := by have := hi.symm.trans hf'; simp at this; exact this.1.symm
    rw [f8 rfl] at hown2
    rw [← e1]; exact Option.some.inj (hown.symm.trans hown2)
  have h6 := u_fits hfc hkC hkind (Or.inr hlay) hi f12 n1 n2
  refine W.putFinK C.1 C.2.1 hown (C.2.2.2.2.1 _ f5) hi hst hcf hin2 (by rw [q2]; exact h6) q1 q3 (by rw [hsl]; exact k2_hasslot (q4 f f2)) rfl rfl hd fun H' e1 e2 e3 => ?_
  rw [hsl] at e1 ⊢
  exact kk H' _ ls (jRel_put (index := index) h1 hk f1 f2 f9 hap q1 q2 q3 q4 e1 e2 e3 t1 t2 hi9 hr9 (hset f3)) (h2.put e2 e3 (h1.my hk).1) h3
theorem r_putI (C : jC p l s m args meth c g own cc nL rt) {index ci f a : Nat} {v : Int32} {K : Hp → jR} (pc' : Nat) (hp : pc + 3 = pc') (hF : jFp own index ci f true false) (hd : decode cc pc = .ok (.putfield index, 3)) (h : jpI σ a ci f v K = some X)
    (kk : ∀ τ, K τ = some X → jW p l e R s m args below meth c g Q k n pc' lv st τ) : jW p l e R s m args below meth c g Q k n pc lv (.int v :: .ref a :: st) σ := by
  subst hp
  obtain ⟨hk, h⟩ := jif_some h
  exact r_putG (τ := inS σ a f v) C hF hd hk (fun ty q => q.1 rfl v) (fun f3 => by rw [jFs_setI σ a v _ 0 f f3, Nat.zero_add]) rfl rfl (fun q hq j => inS_ne hq j) (fun q hq j => rfl) (kk _ h)
theorem r_putR (C : jC p l s m args meth c g own cc nL rt) {index ci f a : Nat} {v : Option Nat} {K : Hp → jR} (pc' : Nat) (hp : pc + 3 = pc') (hF : jFp own index ci f false false) (hd : decode cc pc = .ok (.putfield index, 3)) (h : jpR σ a ci f v K = some X)
    (kk : ∀ τ, K τ = some X → jW p l e R s m args below meth c g Q k n pc' lv st τ) : jW p l e R s m args below meth c g Q k n pc lv (va_rf v :: .ref a :: st) σ := by
  subst hp
  obtain ⟨hk, h⟩ := jif_some h
  exact r_putG (τ := rfS σ a f v) C hF hd hk (fun ty q => q.2 rfl v) (fun f3 => by rw [jFs_setR σ a v _ 0 f f3, Nat.zero_add]) rfl rfl (fun q hq j => rfl) (fun q hq j => rfS_ne hq j) (kk _ h)
theorem r_putIF (C : jC p l s m args meth c g own cc nL rt) (hin2 : meth.name = "<init>") {index ci f a : Nat} {v : Int32} {K : Hp → jR} (pc' : Nat) (hp : pc + 3 = pc') (hF : jFp own index ci f true true) (hd : decode cc pc = .ok (.putfield index, 3)) (h : jpI σ a ci f v K = some X)
    (kk : ∀ τ, K τ = some X → jW p l e R s m args below meth c g Q k n pc' lv st τ) : jW p l e R s m args below meth c g Q k n pc lv (.int v :: .ref a :: st) σ := by
  subst hp
  obtain ⟨hk, h⟩ := jif_some h
  exact r_putGF (τ := inS σ a f v) C hin2 hF hd hk (fun ty q => q.1 rfl v) (fun f3 => by rw [jFs_setI σ a v _ 0 f f3, Nat.zero_add]) rfl rfl (fun q hq j => inS_ne hq j) (fun q hq j => rfl) (kk _ h)
theorem r_putRF (C : jC p l s m args meth c g own cc nL rt) (hin2 : meth.name = "<init>") {index ci f a : Nat} {v : Option Nat} {K : Hp → jR} (pc' : Nat) (hp : pc + 3 = pc') (hF : jFp own index ci f false true) (hd : decode cc pc = .ok (.putfield index, 3)) (h : jpR σ a ci f v K = some X)
    (kk : ∀ τ, K τ = some X → jW p l e R s m args below meth c g Q k n pc' lv st τ) : jW p l e R s m args below meth c g Q k n pc lv (va_rf v :: .ref a :: st) σ := by
  subst hp
  obtain ⟨hk, h⟩ := jif_some h
  exact r_putGF (τ := rfS σ a f v) C hin2 hF hd hk (fun ty q => q.2 rfl v) (fun f3 => by rw [jFs_setR σ a v _ 0 f f3, Nat.zero_add]) rfl rfl (fun q hq j => rfl) (fun q hq j => rfS_ne hq j) (kk _ h)
theorem r_putI0 (C : jC p l s m args meth c g own cc nL rt) {index ci f a : Nat} {K : Hp → jR} (pc' : Nat) (hp : pc + 3 = pc') (hF : jFp0 own index ci f false) (hd : decode cc pc = .ok (.putfield index, 3)) (h : jpI σ a ci f 0 K = some X)
    (kk : ∀ τ, K τ = some X → jW p l e R s m args below meth c g Q k n pc' lv st τ) : jW p l e R s m args below meth c g Q k n pc lv (.int 0 :: .ref a :: st) σ := by
  subst hp
  obtain ⟨hk, h⟩ := jif_some h
  exact r_putG (τ := inS σ a f 0) C hF hd hk (fun ty q => q) (fun f3 => by rw [jFs_setI σ a 0 _ 0 f f3, Nat.zero_add]) rfl rfl (fun q hq j => inS_ne hq j) (fun q hq j => rfl) (kk _ h)
theorem r_putI0F (C : jC p l s m args meth c g own cc nL rt) (hin2 : meth.name = "<init>") {index ci f a : Nat} {K : Hp → jR} (pc' : Nat) (hp : pc + 3 = pc') (hF : jFp0 own index ci f true) (hd : decode cc pc = .ok (.putfield index, 3)) (h : jpI σ a ci f 0 K = some X)
    (kk : ∀ τ, K τ = some X → jW p l e R s m args below meth c g Q k n pc' lv st τ) : jW p l e R s m args below meth c g Q k n pc lv (.int 0 :: .ref a :: st) σ := by
  subst hp
  obtain ⟨hk, h⟩ := jif_some h
  exact r_putGF (τ := inS σ a f 0) C hin2 hF hd hk (fun ty q => q) (fun f3 => by rw [jFs_setI σ a 0 _ 0 f f3, Nat.zero_add]) rfl rfl (fun q hq j => inS_ne hq j) (fun q hq j => rfl) (kk _ h)
/-! arrays -/
theorem jk2 {a t : Nat} (h : (kdH σ a).1 = t) : kdH σ a = (t, (kdH σ a).2) := by rw [← h]
theorem r_alen (C : jC p l s m args meth c g own cc nL rt) {a t : Nat} {K : Int32 → jR} (pc' : Nat) (hp : pc + 1 = pc') (ht : t = 2 ∨ t = 5) (hd : decode cc pc = .ok (.arraylength, 1)) (h : jal σ a t K = some X)
    (kk : ∀ v, K v = some X → jW p l e R s m args below meth c g Q k n pc' lv (.int v :: st) σ) : jW p l e R s m args below meth c g Q k n pc lv (.ref a :: st) σ := by
  subst hp
  obtain ⟨hk, h'⟩ := jif_some h
  have hK := C.2.2.2.2.2.2.2.2.1.1
  intro H locs ls h1 h2 h3
  rcases ht with rfl | rfl
  · exact va_alen C.1 C.2.1 hK (h1.one (jk2 hk) (jEl_int (jk2 hk))) 0 0 rfl rfl rfl hd (kk _ h' H locs ls h1 h2 h3)
  · exact va_alen C.1 C.2.1 hK (h1.one (jk2 hk) (jEl_txt (jk2 hk))) 0 3 rfl rfl rfl hd (kk _ h' H locs ls h1 h2 h3)
theorem r_iald (C : jC p l s m args meth c g own cc nL rt) {a : Nat} {i : Int32} {K : Int32 → jR} (pc' : Nat) (hp : pc + 1 = pc') (hd : decode cc pc = .ok (.iaload, 1)) (h : jaI σ a i K = some X)
    (kk : ∀ v, K v = some X → jW p l e R s m args below meth c g Q k n pc' lv (.int v :: st) σ) : jW p l e R s m args below meth c g Q k n pc lv (.int i :: .ref a :: st) σ := by
  subst hp
  obtain ⟨⟨hk, hi⟩, h⟩ := jif_some h
  exact fun H locs ls h1 h2 h3 => va_iald C.1 C.2.1 C.2.2.2.2.2.2.2.2.1.1 (h1.one (jk2 hk) (jEl_int (jk2 hk))) 0 0 rfl rfl hi hd (kk _ h H locs ls h1 h2 h3)
theorem r_aald (C : jC p l s m args meth c g own cc nL rt) {a : Nat} {i : Int32} {K : Option Nat → jR} (pc' : Nat) (hp : pc + 1 = pc') (hd : decode cc pc = .ok (.aaload, 1)) (h : jaR σ a i K = some X)
    (kk : ∀ v, K v = some X → jW p l e R s m args below meth c g Q k n pc' lv (va_rf v :: st) σ) : jW p l e R s m args below meth c g Q k n pc lv (.int i :: .ref a :: st) σ := by
  subst hp
  obtain ⟨⟨hk, hi⟩, h⟩ := jif_some h
  exact fun H locs ls h1 h2 h3 => va_aldq C.1 C.2.1 C.2.2.2.2.2.2.2.2.1.1 (h1.one (jk2 hk) (jEl_txt (jk2 hk))) 0 3 rfl rfl hi hd (kk _ h H locs ls h1 h2 h3)
theorem r_zald (C : jC p l s m args meth c g own cc nL rt) {i : Int32} {K : Int32 → jR} (pc' : Nat) (hp : pc + 1 = pc') (hd : decode cc pc = .ok (.iaload, 1)) (h : jzI g i K = some X)
    (kk : ∀ v, K v = some X → jW p l e R s m args below meth c g Q k n pc' lv (.int v :: st) σ) : jW p l e R s m args below meth c g Q k n pc lv (.int i :: .ref (gSa g) :: st) σ := by
  subst hp
  obtain ⟨hi, h⟩ := jif_some h
  have hz := C.2.2.2.2.2.2.2.2.2
  exact fun H locs ls h1 h2 h3 => va_sld C.1 C.2.1 hz.2.2.1 (Nat.lt_of_lt_of_le hz.2.2.2.1 hz.2.2.2.2.1) (Nat.not_le.mpr hz.2.2.2.1) h2 hi hd (kk _ h H locs ls h1 h2 h3)
theorem r_zlen (C : jC p l s m args meth c g own cc nL rt) (pc' : Nat) (hp : pc + 1 = pc') (hd : decode cc pc = .ok (.arraylength, 1))
    (kk : jW p l e R s m args below meth c g Q k n pc' lv (.int (nI (gSn g)) :: st) σ) : jW p l e R s m args below meth c g Q k n pc lv (.ref (gSa g) :: st) σ := by
  subst hp
  have hz := C.2.2.2.2.2.2.2.2.2
  exact fun H locs ls h1 h2 h3 => va_slen C.1 C.2.1 hz.2.2.1 (Nat.lt_of_lt_of_le hz.2.2.2.1 hz.2.2.2.2.1) (Nat.not_le.mpr hz.2.2.2.1) h2 hd (kk H locs ls h1 h2 h3)
theorem r_iast (C : jC p l s m args meth c g own cc nL rt) {a : Nat} {i v : Int32} {K : Hp → jR} (pc' : Nat) (hp : pc + 1 = pc') (hd : decode cc pc = .ok (.iastore, 1)) (h : jsI σ a i v K = some X)
    (kk : ∀ τ, K τ = some X → jW p l e R s m args below meth c g Q k n pc' lv st τ) : jW p l e R s m args below meth c g Q k n pc lv (.int v :: .int i :: .ref a :: st) σ := by
  subst hp
  obtain ⟨⟨hk, hi⟩, h⟩ := jif_some h
  intro H locs ls h1 h2 h3
  have hc := (h1.my (jk2 hk)).2
  rw [jEl_int (jk2 hk)] at hc
  have hc' : H[a]? = some (vp_cell (gcI g) ((kdH σ a).2, .inl (inH σ a))) := hc
  rw [vp_cell_i] at hc'
  refine W.iast C.1 C.2.1 hc' ((C.2.2.2.2.2.2.2.2.1.1.2 0 _ rfl).1 _ _) (fun q => by cases q) (by rw [arrV_size]; exact hi) rfl rfl hd fun H1 e z oq => ?_
  refine kk _ h H1 _ ls (h1.upd (h1.my (jk2 hk)).1 rfl rfl ?_ z oq (fun q hq j => inS_ne hq j) (fun q hq j => rfl)) (h2.put z oq (h1.my (jk2 hk)).1) h3
  rw [jEl_int (σ := inS σ a i.toNatClampNeg v) (jk2 hk)]
  show H1[a]? = some (vp_cell _ _)
  rw [e, vp_cell_i, arrV_store]
  congr 2
  funext q
  by_cases hq : q = i.toNatClampNeg
  · subst hq
    simp [updV, inH, inS, u2]
  · simp [updV, inH, inS, u2, hq]
theorem r_aast (C : jC p l s m args meth c g own cc nL rt) {a v : Nat} {i : Int32} {K : Hp → jR} (pc' : Nat) (hp : pc + 1 = pc') (hd : decode cc pc = .ok (.aastore, 1)) (h : jsT σ a i v K = some X)
    (kk : ∀ τ, K τ = some X → jW p l e R s m args below meth c g Q k n pc' lv st τ) : jW p l e R s m args below meth c g Q k n pc lv (.ref v :: .int i :: .ref a :: st) σ := by
  subst hp
  obtain ⟨⟨hk, hkv, hi⟩, h⟩ := jif_some h
  intro H locs ls h1 h2 h3
  have hK := C.2.2.2.2.2.2.2.2.1.1
  have hc := (h1.my (jk2 hk)).2
  rw [jEl_txt (jk2 hk)] at hc
  have hc' : H[a]? = some (vp_cell (gcT g) ((kdH σ a).2, .inr (.inr (.inr (.inr (rfH σ a)))))) := hc
  rw [vp_cell_q] at hc'
  obtain ⟨r', hr', cellV, g1, g2, g3, -⟩ := (h1.one hkv (jEl_obj hkv)) 0 _ rfl
  have hcls := (hK.1 4 (RX4, TX4, 7) rfl).2
  obtain ⟨kA, comp, k1, k2, k3, -⟩ := (hK.2 3 (gcT g, .object RX4) rfl).2
  have hcomp : comp = (gDs g).1 4 := Option.some.inj (k3.symm.trans hcls.1)
  subst hcomp
  obtain ⟨kC, hkC, -⟩ := hcls.2
  have hi1 : ¬ i < 0 := fun q => hi (Or.inl q)
  have hi2 : i.toNatClampNeg < (kdH σ a).2 := Nat.not_le.mp fun q => hi (Or.inr q)
  refine W.aast C.1 C.2.1 hc' (fun q h => by cases h) (fun h => by cases h) k1 k2 rfl hkC ⟨hi1, by rw [arrV_size]; exact hi2⟩ g1 (fun q h => by rw [g3] at h; cases h) (by rw [g2]; exact hkC) (by rw [g2]; exact va_assign hcls) rfl rfl hd fun H1 e z oq => ?_
  refine kk _ h H1 _ ls (h1.upd (h1.my (jk2 hk)).1 rfl rfl ?_ z oq (fun q hq j => rfl) (fun q hq j => rfS_ne hq j)) (h2.put z oq (h1.my (jk2 hk)).1) h3
  rw [jEl_txt (σ := rfS σ a i.toNatClampNeg (some v)) (jk2 hk)]
  show H1[a]? = some (vp_cell _ _)
  rw [e, vp_cell_q, arrV_store]
  congr 2
  funext q
  by_cases hq : q = i.toNatClampNeg
  · subst hq
    simp [updV, rfH, rfS, u2, va_rf]
  · simp [updV, rfH, rfS, u2, hq]
/-! new things -/
theorem r_new (C : jC p l s m args meth c g own cc nL rt) {index ci N : Nat} {Cn : String} {T : u_T} {K : Nat → Hp → jR} (pc' : Nat) (hp : pc + 3 = pc') (ty : Nat → FieldType) (f1 : jCl[ci]? = some (Cn, T, N)) (hty : ∀ k, k < N → parseFieldDescriptor (T k).2.2.1 = some (ty k)) (hdf : ∀ j, j < N → (jfb ci)[j]? = some (decide (defaultValue (ty j) = .int 0)) ∧ (defaultValue (ty j) ≠ .int 0 → defaultValue (ty j) = .null)) (f4 : ∀ w ∈ u_ws Cn T N, w ∈ gT)
    (hcl : Cond.classLink own index Cn ∈ gT) (hins : Cond.instantiable Cn N ∈ gT) (hini : Cond.initialized Cn ∈ gT) (hd : decode cc pc = .ok (.new index, 3)) (hk' : k + 1 ≤ R.cells) (hn' : n + N ≤ R.slots) (h : jnw σ ci K = some X)
    (kk : ∀ a τ, K a τ = some X → jW p l e R s m args below meth c g Q (k + 1) (n + N) pc' lv (.ref a :: st) τ) : jW p l e R s m args below meth c g Q k n pc lv st σ := by
  subst hp
  intro H locs ls h1 h2 h3
  have hK := C.2.2.2.2.2.2.2.2.1.1
  have hKn := hK.1 ci _ f1
  have hts := C.2.2.2.2.1
  refine W.newcK C.1 C.2.1 C.2.2.2.1 (hts _ hcl) (hts _ hins) (hts _ hini) rfl hd hk' hn' hKn.2.1 rfl fun H1 kC hkC e1 z1 o1 => ?_
  have e0 : tpH σ = H.size := h1.1.symm
  have h' : K H.size (nwS σ (1, ci)) = some X := by rw [← e0]; exact h
  refine kk _ _ h' H1 locs ls (h1.new (1, ci) z1 o1 (by simp [jOld]) (fun _ => ?_)) ⟨by rw [z1]; exact Nat.le_succ_of_le h2.1, fun q a b => (o1 q (Nat.lt_of_lt_of_le a h2.1)).trans (h2.2.1 q a b), h2.2.2⟩ h3
  have hkd : kdH (nwS σ (1, ci)) H.size = (1, ci) := by show u1 (kdH σ) (tpH σ) (1, ci) H.size = _; simp [u1, e0]
  rw [jEl_obj hkd]
  refine ⟨_, f1, (u_born ty hts f4 hKn hkC e1 hty).to (fun j hj => ?_)⟩
  have h8 := jFs_get (nwS σ (1, ci)) H.size (jfb ci) 0 j _ (hdf j hj).1
  have : vp_V (jFs (nwS σ (1, ci)) H.size 0 (jfb ci)) j = (if decide (defaultValue (ty j) = .int 0) = true then Value.int (inH (nwS σ (1, ci)) H.size (0 + j)) else va_rf (rfH (nwS σ (1, ci)) H.size (0 + j))) := by
    unfold vp_V
    rw [List.getD_eq_getElem?_getD, h8]
    rfl
  rw [this]
  have i1 : inH (nwS σ (1, ci)) H.size (0 + j) = 0 := by simp [inH, nwS, u1, e0]
  have i2 : rfH (nwS σ (1, ci)) H.size (0 + j) = none := by simp [rfH, nwS, u1, e0]
  rw [i1, i2]
  by_cases hj' : defaultValue (ty j) = .int 0
  · rw [if_pos (by simp [hj']), hj']
  · rw [if_neg (by simp [hj'])]
    exact (hdf j hj).2 hj'
end JHEAP
