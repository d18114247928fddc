/-! bytes, chars, Strings, texts, statics -/
section JBYT
variable {p : Program} {l : Launch} {e : Env} {R : Room} {s : State} {m : MethodId} {args : Array Value} {below : List Frame} {meth : Method} {c : Code} {g : jG} {Q : State → Prop} {own : String} {cc : ByteArray} {nL k n pc : Nat} {rt : Option FieldType} {lv lv' : List (Nat × Value)} {st : List Value} {σ τ : Hp} {X : jO × Hp} {o : jO} {mc ms : Nat}
theorem ite_some {P : Prop} {i : Decidable P} {K : jR} {X : jO × Hp} (h : (@ite _ P i K none) = some X) : P ∧ K = some X := jif_some h
/-- a text's bytes -/
theorem jTxt (C : jC p l s m args meth c g own cc nL rt) {H : Heap} (h1 : jRel g σ H) {a : Nat} (hk : (kdH σ a).1 = 16) : va_T .byte a (kdH σ a).2 (fun j => .int (inH σ a j)) (jA g) s s.heap := by
  obtain ⟨-, h9⟩ := h1.2.2.2 a (Or.inl hk)
  rcases h9 with ⟨-, i, hi, rfl, e1, e2⟩ | ⟨h9, -⟩
  · have := (C.2.2.2.2.2.2.2.2.2.2.2.2.2.2.1.1 i hi).2.2.2
    rw [e1, show (fun j => Value.int (inH σ (gKv g i) j)) = (fun j => .int ((kByt.getD i []).getD j 0)) from funext fun j => by rw [e2]]
    exact this
  · rw [hk] at h9; cases h9
theorem r_alenB (C : jC p l s m args meth c g own cc nL rt) {a : Nat} {K : Int32 → jR} (pc' : Nat) (hp : pc + 1 = pc') (hd : decode cc pc = .ok (.arraylength, 1)) (h : jalB σ a K = some X)
    (kk : ∀ v, K v = some X → jW p l e R s m args below meth c g Q k n pc' lv (.int v :: st) σ) : jW p l e R s m args below meth c g Q k n pc lv (.ref a :: st) σ := by
  subst hp
  obtain ⟨hk, h'⟩ := ite_some h
  intro H locs ls h1 h2 h3
  rcases hk with hk | hk
  · exact va_alen C.1 C.2.1 C.2.2.2.2.2.2.2.2.1.1 (h1.one (jk2 hk) (jEl_byt (jk2 hk))) 0 1 rfl rfl rfl hd (kk _ h' H locs ls h1 h2 h3)
  · obtain ⟨cell, g1, g2, g3, g4, g5, g6, g7⟩ := jTxt C h1 hk
    have hc : H[a]? = some cell := by rw [h2.2.1 a (Array.getElem?_eq_some_iff.mp g1).1 g7]; exact g1
    exact W.alen C.1 C.2.1 hc g2 g5 rfl rfl hd (kk _ h' H locs ls h1 h2 h3)
theorem r_bald (C : jC p l s m args meth c g own cc nL rt) {a : Nat} {i : Int32} {K : Int32 → jR} (pc' : Nat) (hp : pc + 1 = pc') (hd : decode cc pc = .ok (.baload, 1)) (h : jaB σ a i K = some X)
    (kk : ∀ v, K v = some X → jW p l e R s m args below meth c g Q k n pc' lv (.int v :: st) σ) : jW p l e R s m args below meth c g Q k n pc lv (.int i :: .ref a :: st) σ := by
  subst hp
  obtain ⟨⟨hk, hi⟩, h'⟩ := ite_some h
  intro H locs ls h1 h2 h3
  rcases hk with hk | hk
  · exact va_bald C.1 C.2.1 C.2.2.2.2.2.2.2.2.1.1 (h1.one (jk2 hk) (jEl_byt (jk2 hk))) 0 1 rfl rfl hi hd (kk _ h' H locs ls h1 h2 h3)
  · obtain ⟨cell, g1, g2, g3, g4, g5, g6, g7⟩ := jTxt C h1 hk
    have hc : H[a]? = some cell := by rw [h2.2.1 a (Array.getElem?_eq_some_iff.mp g1).1 g7]; exact g1
    have hi2 : i.toNatClampNeg < (kdH σ a).2 := Nat.not_le.mp fun q => hi (Or.inr q)
    exact W.bald C.1 C.2.1 hc g2 g3 (fun q => q.elim (fun q => hi (Or.inl q)) (fun q => by omega)) (g6 _ hi2) rfl rfl hd (kk _ h' H locs ls h1 h2 h3)
theorem r_cald (C : jC p l s m args meth c g own cc nL rt) {a : Nat} {i : Int32} {K : Int32 → jR} (pc' : Nat) (hp : pc + 1 = pc') (hd : decode cc pc = .ok (.caload, 1)) (h : jaC σ a i K = some X)
    (kk : ∀ v, K v = some X → jW p l e R s m args below meth c g Q k n pc' lv (.int v :: st) σ) : jW p l e R s m args below meth c g Q k n pc lv (.int i :: .ref a :: st) σ := by
  subst hp
  obtain ⟨⟨hk, hi⟩, h'⟩ := jif_some h
  intro H locs ls h1 h2 h3
  exact va_cald C.1 C.2.1 C.2.2.2.2.2.2.2.2.1.1 (h1.one (jk2 hk) (jEl_chr (jk2 hk))) 0 2 rfl rfl hi hd (kk _ h' H locs ls h1 h2 h3)
theorem r_aaldS (C : jC p l s m args meth c g own cc nL rt) {a : Nat} {i : Int32} {K : Option Nat → jR} (pc' : Nat) (hp : pc + 1 = pc') (hd : decode cc pc = .ok (.aaload, 1)) (h : jaS σ a i K = some X)
    (kk : ∀ v, K v = some X → jW p l e R s m args below meth c g Q k n pc' lv (va_rf v :: st) σ) : jW p l e R s m args below meth c g Q k n pc lv (.int i :: .ref a :: st) σ := by
  subst hp
  obtain ⟨⟨hk, hi⟩, h'⟩ := jif_some h
  exact fun H locs ls h1 h2 h3 => va_aldq C.1 C.2.1 C.2.2.2.2.2.2.2.2.1.1 (h1.one (jk2 hk) (jEl_str (jk2 hk))) 0 4 rfl rfl hi hd (kk _ h' H locs ls h1 h2 h3)
theorem vp_nar_eqB (v : Int32) : narrow .byte (.int v) = .int (vp_nar .byte v) := rfl
theorem vp_nar_eqC (v : Int32) : narrow .char (.int v) = .int (vp_nar .char v) := rfl
theorem r_bast (C : jC p l s m args meth c g own cc nL rt) {a : Nat} {i v : Int32} {K : Hp → jR} (pc' : Nat) (hp : pc + 1 = pc') (hd : decode cc pc = .ok (.bastore, 1)) (h : jsB σ a i v K = some X)
    (kk : ∀ τ, K τ = some X → jW p l e R s m args below meth c g Q k n pc' lv st τ) : jW p l e R s m args below meth c g Q k n pc lv (.int v :: .int i :: .ref a :: st) σ := by
  subst hp
  obtain ⟨⟨hk, hi⟩, h⟩ := jif_some h
  intro H locs ls h1 h2 h3
  have hc := (h1.my (jk2 hk)).2
  rw [jEl_byt (jk2 hk)] at hc
  have hc' : H[a]? = some (vp_cell (gcB g) ((kdH σ a).2, .inl (inH σ a))) := hc
  rw [vp_cell_i] at hc'
  refine W.bast C.1 C.2.1 hc' ((C.2.2.2.2.2.2.2.2.1.1.2 1 _ rfl).1 _ _) (fun q => by cases q) (by rw [arrV_size]; exact hi) rfl rfl hd fun H1 e z oq => ?_
  refine kk _ h H1 _ ls (h1.upd (h1.my (jk2 hk)).1 rfl rfl ?_ z oq (fun q hq j => inS_ne hq j) (fun q hq j => rfl)) (h2.put z oq (h1.my (jk2 hk)).1) h3
  rw [jEl_byt (σ := inS σ a i.toNatClampNeg (vp_nar .byte v)) (jk2 hk)]
  show H1[a]? = some (vp_cell _ _)
  rw [e, vp_cell_i, arrV_store]
  congr 2
  funext q
  by_cases hq : q = i.toNatClampNeg
  · subst hq
    simp [updV, inH, inS, u2]
    exact vp_nar_eqB v
  · simp [updV, inH, inS, u2, hq]
theorem r_cast (C : jC p l s m args meth c g own cc nL rt) {a : Nat} {i v : Int32} {K : Hp → jR} (pc' : Nat) (hp : pc + 1 = pc') (hd : decode cc pc = .ok (.castore, 1)) (h : jsC σ a i v K = some X)
    (kk : ∀ τ, K τ = some X → jW p l e R s m args below meth c g Q k n pc' lv st τ) : jW p l e R s m args below meth c g Q k n pc lv (.int v :: .int i :: .ref a :: st) σ := by
  subst hp
  obtain ⟨⟨hk, hi⟩, h⟩ := jif_some h
  intro H locs ls h1 h2 h3
  have hc := (h1.my (jk2 hk)).2
  rw [jEl_chr (jk2 hk)] at hc
  have hc' : H[a]? = some (vp_cell (gcC g) ((kdH σ a).2, .inl (inH σ a))) := hc
  rw [vp_cell_i] at hc'
  refine W.cast C.1 C.2.1 hc' ((C.2.2.2.2.2.2.2.2.1.1.2 2 _ rfl).1 _ _) (fun q => by cases q) (by rw [arrV_size]; exact hi) rfl rfl hd fun H1 e z oq => ?_
  refine kk _ h H1 _ ls (h1.upd (h1.my (jk2 hk)).1 rfl rfl ?_ z oq (fun q hq j => inS_ne hq j) (fun q hq j => rfl)) (h2.put z oq (h1.my (jk2 hk)).1) h3
  rw [jEl_chr (σ := inS σ a i.toNatClampNeg (vp_nar .char v)) (jk2 hk)]
  show H1[a]? = some (vp_cell _ _)
  rw [e, vp_cell_i, arrV_store]
  congr 2
  funext q
  by_cases hq : q = i.toNatClampNeg
  · subst hq
    simp [updV, inH, inS, u2]
    exact vp_nar_eqC v
  · simp [updV, inH, inS, u2, hq]
theorem r_aastS (C : jC p l s m args meth c g own cc nL rt) {a v : Nat} {i : Int32} {K : Hp → jR} (pc' : Nat) (hp : pc + 1 = pc') (hd : decode cc pc = .ok (.aastore, 1)) (h : jsS σ a i v K = some X)
    (kk : ∀ τ, K τ = some X → jW p l e R s m args below meth c g Q k n pc' lv st τ) : jW p l e R s m args below meth c g Q k n pc lv (.ref v :: .int i :: .ref a :: st) σ := by
  subst hp
  obtain ⟨⟨hk, hkv, hi⟩, h⟩ := jif_some h
  intro H locs ls h1 h2 h3
  have hK := C.2.2.2.2.2.2.2.2.1.1
  have hc := (h1.my (jk2 hk)).2
  rw [jEl_str (jk2 hk)] at hc
  have hc' : H[a]? = some (vp_cell (gcS g) ((kdH σ a).2, .inr (.inr (.inr (.inr (rfH σ a)))))) := hc
  rw [vp_cell_q] at hc'
  obtain ⟨r', hr', cellV, g1, g2, g3, -⟩ := (h1.one hkv (jEl_obj hkv)) 0 _ rfl
  have hcls := (hK.1 7 (RJ0, TJ0, 4) rfl).2
  obtain ⟨kA, comp, k1, k2, k3, -⟩ := (hK.2 4 (gcS g, .object RJ0) rfl).2
  have hcomp : comp = (gDs g).1 7 := Option.some.inj (k3.symm.trans hcls.1)
  subst hcomp
  obtain ⟨kC, hkC, -⟩ := hcls.2
  have hi1 : ¬ i < 0 := fun q => hi (Or.inl q)
  have hi2 : i.toNatClampNeg < (kdH σ a).2 := Nat.not_le.mp fun q => hi (Or.inr q)
  refine W.aast C.1 C.2.1 hc' (fun q h => by cases h) (fun h => by cases h) k1 k2 rfl hkC ⟨hi1, by rw [arrV_size]; exact hi2⟩ g1 (fun q h => by rw [g3] at h; cases h) (by rw [g2]; exact hkC) (by rw [g2]; exact va_assign hcls) rfl rfl hd fun H1 e z oq => ?_
  refine kk _ h H1 _ ls (h1.upd (h1.my (jk2 hk)).1 rfl rfl ?_ z oq (fun q hq j => rfl) (fun q hq j => rfS_ne hq j)) (h2.put z oq (h1.my (jk2 hk)).1) h3
  rw [jEl_str (σ := rfS σ a i.toNatClampNeg (some v)) (jk2 hk)]
  show H1[a]? = some (vp_cell _ _)
  rw [e, vp_cell_q, arrV_store]
  congr 2
  funext q
  by_cases hq : q = i.toNatClampNeg
  · subst hq
    simp [updV, rfH, rfS, u2, va_rf]
  · simp [updV, rfH, rfS, u2, hq]

theorem r_ifnnA (C : jC p l s m args meth c g own cc nL rt) {a : Nat} {off : Int} (pc1 : Nat) (hd : decode cc pc = .ok (.ifnonnull off, 3)) (ht : (pc : Int) + off = (pc1 : Int)) (kk : jW p l e R s m args below meth c g Q k n pc1 lv st σ) : jW p l e R s m args below meth c g Q k n pc lv (.ref a :: st) σ :=
  fun H locs ls h1 h2 h3 => lv_ifnonnull C.1 C.2.1 hd ht (kk H locs ls h1 h2 h3)
theorem r_tsw (C : jC p l s m args meth c g own cc nL rt) {x : Int32} {dflt lo hi : Int} {offs : Array Int} {len : Nat} {K : jR} (z : Int32) {off : Int} (tgt : Nat) (hd : decode cc pc = .ok (.tableswitch dflt lo hi offs, len)) (h1 : ¬ z.toInt < lo) (h2 : ¬ hi < z.toInt) (ho : offs[(z.toInt - lo).toNat]? = some off) (ht : (pc : Int) + off = (tgt : Int)) (h : (if x = z then K else none) = some X) (kk : K = some X → jW p l e R s m args below meth c g Q k n tgt lv st σ) : jW p l e R s m args below meth c g Q k n pc lv (.int x :: st) σ := by
  obtain ⟨hx, hK⟩ := jif_some h
  subst hx
  exact fun H locs ls a1 a2 a3 => lv_tableIn C.1 C.2.1 hd h1 h2 ho ht (kk hK H locs ls a1 a2 a3)
theorem r_i2b (C : jC p l s m args meth c g own cc nL rt) {x : Int32} (pc' : Nat) (hp : pc + 1 = pc') (hd : decode cc pc = .ok (.i2b, 1)) (kk : jW p l e R s m args below meth c g Q k n pc' lv (.int x.toInt8.toInt32 :: st) σ) : jW p l e R s m args below meth c g Q k n pc lv (.int x :: st) σ := by
  subst hp; exact fun H locs ls h1 h2 h3 => lv_i2b C.1 C.2.1 hd rfl (kk H locs ls h1 h2 h3)
theorem r_gets1 (C : jC p l s m args meth c g own cc nL rt) {index : Nat} (pc' : Nat) (hp : pc + 3 = pc') (hl : Cond.fieldLink own index RJ0 "COMPACT_STRINGS" "Z" ∈ gT) (hd : decode cc pc = .ok (.getstatic index, 3)) (kk : jW p l e R s m args below meth c g Q k n pc' lv (.int 1 :: st) σ) : jW p l e R s m args below meth c g Q k n pc lv st σ := by
  subst hp
  exact fun H locs ls h1 h2 h3 => va_gets C.1 C.2.1 C.2.2.2.2.2.2.2.2.2.2.2.2.2.2.2.1 h2 C.2.2.2.1 (C.2.2.2.2.1 _ hl) (fun x hx => hx) hd (kk H locs ls h1 h2 h3)
theorem r_getsF (C : jC p l s m args meth c g own cc nL rt) {index : Nat} (pc' : Nat) (hp : pc + 3 = pc') (hl : Cond.fieldLink own index RJ3 "SIOOBE_FORMATTER" "Ljava/util/function/BiFunction;" ∈ gT) (hd : decode cc pc = .ok (.getstatic index, 3)) (kk : jW p l e R s m args below meth c g Q k n pc' lv (va_rf (gFm g) :: st) σ) : jW p l e R s m args below meth c g Q k n pc lv st σ := by
  subst hp
  exact fun H locs ls h1 h2 h3 => va_gets C.1 C.2.1 C.2.2.2.2.2.2.2.2.2.2.2.2.2.2.2.2 h2 C.2.2.2.1 (C.2.2.2.2.1 _ hl) (fun x hx => hx) hd (kk H locs ls h1 h2 h3)
theorem r_ldcE (C : jC p l s m args meth c g RL cc nL rt) (pc' : Nat) (hp : pc + 2 = pc') (hd : decode cc pc = .ok (.ldc 54, 2)) (kk : jW p l e R s m args below meth c g Q k n pc' lv (.ref (gKa g 0) :: st) σ) : jW p l e R s m args below meth c g Q k n pc lv st σ := by
  subst hp; exact fun H locs ls h1 h2 h3 => va_ldcS C.1 C.2.1 C.2.2.2.1 C.2.2.2.2.2.2.2.2.1.2.2.2.2.2.2.1 hd (kk H locs ls h1 h2 h3)
theorem r_ldcA (C : jC p l s m args meth c g RL cc nL rt) (pc' : Nat) (hp : pc + 2 = pc') (hd : decode cc pc = .ok (.ldc 21, 2)) (kk : jW p l e R s m args below meth c g Q k n pc' lv (.ref (gKa g 1) :: st) σ) : jW p l e R s m args below meth c g Q k n pc lv st σ := by
  subst hp; exact fun H locs ls h1 h2 h3 => va_ldcS C.1 C.2.1 C.2.2.2.1 C.2.2.2.2.2.2.2.2.1.2.2.2.2.2.2.2 hd (kk H locs ls h1 h2 h3)
theorem r_ckB (C : jC p l s m args meth c g own cc nL rt) {index a : Nat} {K : jR} (pc' : Nat) (hp : pc + 3 = pc') (hl : Cond.classLink own index "[B" ∈ gT) (hd : decode cc pc = .ok (.checkcast index, 3)) (h : jckB σ a K = some X)
    (kk : K = some X → jW p l e R s m args below meth c g Q k n pc' lv (.ref a :: st) σ) : jW p l e R s m args below meth c g Q k n pc lv (.ref a :: st) σ := by
  subst hp
  obtain ⟨hk, h'⟩ := jif_some h
  exact fun H locs ls h1 h2 h3 => va_castA C.1 C.2.1 C.2.2.2.1 (C.2.2.2.2.1 _ hl) (h1.one (jk2 hk) (jEl_byt (jk2 hk))) 0 rfl (C.2.2.2.2.2.2.2.2.1.1.2 1 _ rfl).2 hd (kk h' H locs ls h1 h2 h3)
end JBYT
