/-! the methods as functions over the heap's value: their pieces -/
def jgI (σ : Hp) (a ci f : Nat) (K : Int32 → jR) : jR := if kdH σ a = (1, ci) then K (inH σ a f) else none
def jgR (σ : Hp) (a ci f : Nat) (K : Option Nat → jR) : jR := if kdH σ a = (1, ci) then K (rfH σ a f) else none
def jpI (σ : Hp) (a ci f : Nat) (v : Int32) (K : Hp → jR) : jR := if kdH σ a = (1, ci) then K (inS σ a f v) else none
def jpR (σ : Hp) (a ci f : Nat) (v : Option Nat) (K : Hp → jR) : jR := if kdH σ a = (1, ci) then K (rfS σ a f v) else none
/-- what n turns cost -/
def Kc (c n : Nat) : Nat := c * n
theorem Kc_s (c n : Nat) : Kc c (n + 1) = Kc c n + c := Nat.mul_succ c n
/-- fields of a String, one that was made or a text: its bytes, its coder -/
def jgIs (σ : Hp) (a : Nat) (K : Int32 → jR) : jR := if kdH σ a = (1, 7) ∨ (kdH σ a).1 = 17 then K (inH σ a 1) else none
def jgRs (σ : Hp) (a : Nat) (K : Option Nat → jR) : jR := if kdH σ a = (1, 7) ∨ (kdH σ a).1 = 17 then K (rfH σ a 0) else none
/-- bytes: of an array that was made, or of a text -/
def jByt (σ : Hp) (a : Nat) : Prop := (kdH σ a).1 = 6 ∨ (kdH σ a).1 = 16
def jFit (σ : Hp) (a : Nat) : Prop := ∀ i, fits .byte (.int (inH σ a i)) = true
noncomputable def jalB (σ : Hp) (a : Nat) (K : Int32 → jR) : jR := @ite _ (jByt σ a) (Classical.propDecidable _) (K (nI (kdH σ a).2)) none
noncomputable def jaB (σ : Hp) (a : Nat) (i : Int32) (K : Int32 → jR) : jR := @ite _ (jByt σ a ∧ ¬ (i < 0 ∨ (kdH σ a).2 ≤ i.toNatClampNeg)) (Classical.propDecidable _) (K (inH σ a i.toNatClampNeg)) none
def jaC (σ : Hp) (a : Nat) (i : Int32) (K : Int32 → jR) : jR := if (kdH σ a).1 = 7 ∧ ¬ (i < 0 ∨ (kdH σ a).2 ≤ i.toNatClampNeg) then K (inH σ a i.toNatClampNeg) else none
def jaS (σ : Hp) (a : Nat) (i : Int32) (K : Option Nat → jR) : jR := if (kdH σ a).1 = 8 ∧ ¬ (i < 0 ∨ (kdH σ a).2 ≤ i.toNatClampNeg) then K (rfH σ a i.toNatClampNeg) else none
def jsB (σ : Hp) (a : Nat) (i : Int32) (v : Int32) (K : Hp → jR) : jR := if (kdH σ a).1 = 6 ∧ ¬ (i < 0 ∨ (kdH σ a).2 ≤ i.toNatClampNeg) then K (inS σ a i.toNatClampNeg (vp_nar .byte v)) else none
def jsC (σ : Hp) (a : Nat) (i : Int32) (v : Int32) (K : Hp → jR) : jR := if (kdH σ a).1 = 7 ∧ ¬ (i < 0 ∨ (kdH σ a).2 ≤ i.toNatClampNeg) then K (inS σ a i.toNatClampNeg (vp_nar .char v)) else none
def jsS (σ : Hp) (a : Nat) (i : Int32) (v : Nat) (K : Hp → jR) : jR := if (kdH σ a).1 = 8 ∧ kdH σ v = (1, 7) ∧ ¬ (i < 0 ∨ (kdH σ a).2 ≤ i.toNatClampNeg) then K (rfS σ a i.toNatClampNeg (some v)) else none
/-- bytes copied from one array into another of ours -/
def cpB (σ : Hp) (a b sp dp n : Nat) : Hp := (tpH σ, kdH σ, u1 (inH σ) b (va_cpy (inH σ a) (inH σ b) sp dp n), rfH σ, lgH σ, dbH σ)
noncomputable def jcpB (σ : Hp) (a b : Nat) (sp dp n : Int32) (K : Hp → jR) : jR :=
  @ite _ (jByt σ a ∧ (kdH σ b).1 = 6 ∧ jFit σ a ∧ ¬ sp < 0 ∧ ¬ dp < 0 ∧ ¬ n < 0 ∧ sp.toNatClampNeg + n.toNatClampNeg ≤ (kdH σ a).2 ∧ dp.toNatClampNeg + n.toNatClampNeg ≤ (kdH σ b).2) (Classical.propDecidable _) (K (cpB σ a b sp.toNatClampNeg dp.toNatClampNeg n.toNatClampNeg)) none
/-- an array of bytes, copied whole -/
def clB (σ : Hp) (a : Nat) : Hp := (tpH σ + 1, u1 (kdH σ) (tpH σ) (kdH σ a), u1 (inH σ) (tpH σ) (inH σ a), u1 (rfH σ) (tpH σ) (fun _ => none), lgH σ, dbH σ)
noncomputable def jcl (σ : Hp) (a M : Nat) (K : Nat → Hp → jR) : jR := @ite _ ((kdH σ a).1 = 6 ∧ jFit σ a ∧ (kdH σ a).2 ≤ M) (Classical.propDecidable _) (K (tpH σ) (clB σ a)) none
/-- an array of bytes is one -/
def jckB (σ : Hp) (a : Nat) (K : jR) : jR := if (kdH σ a).1 = 6 then K else none
def jdr (r : Option Nat) (K : Nat → jR) : jR := match r with
  | none => none
  | some a => K a
/-- an array's length -/
def jal (σ : Hp) (a t : Nat) (K : Int32 → jR) : jR := if (kdH σ a).1 = t then K (nI (kdH σ a).2) else none
def jaI (σ : Hp) (a : Nat) (i : Int32) (K : Int32 → jR) : jR := if (kdH σ a).1 = 2 ∧ ¬ (i < 0 ∨ (kdH σ a).2 ≤ i.toNatClampNeg) then K (inH σ a i.toNatClampNeg) else none
def jaJ (σ : Hp) (a : Nat) (i : Int32) (K : Int64 → jR) : jR := if (kdH σ a).1 = 3 ∧ ¬ (i < 0 ∨ (kdH σ a).2 ≤ i.toNatClampNeg) then K (lgH σ a i.toNatClampNeg) else none
def jaD (σ : Hp) (a : Nat) (i : Int32) (K : UInt64 → jR) : jR := if (kdH σ a).1 = 4 ∧ ¬ (i < 0 ∨ (kdH σ a).2 ≤ i.toNatClampNeg) then K (dbH σ a i.toNatClampNeg) else none
def jaR (σ : Hp) (a : Nat) (i : Int32) (K : Option Nat → jR) : jR := if (kdH σ a).1 = 5 ∧ ¬ (i < 0 ∨ (kdH σ a).2 ≤ i.toNatClampNeg) then K (rfH σ a i.toNatClampNeg) else none
def jsI (σ : Hp) (a : Nat) (i : Int32) (v : Int32) (K : Hp → jR) : jR := if (kdH σ a).1 = 2 ∧ ¬ (i < 0 ∨ (kdH σ a).2 ≤ i.toNatClampNeg) then K (inS σ a i.toNatClampNeg v) else none
def jsJ (σ : Hp) (a : Nat) (i : Int32) (v : Int64) (K : Hp → jR) : jR := if (kdH σ a).1 = 3 ∧ ¬ (i < 0 ∨ (kdH σ a).2 ≤ i.toNatClampNeg) then K (lgS σ a i.toNatClampNeg v) else none
def jsD (σ : Hp) (a : Nat) (i : Int32) (v : UInt64) (K : Hp → jR) : jR := if (kdH σ a).1 = 4 ∧ ¬ (i < 0 ∨ (kdH σ a).2 ≤ i.toNatClampNeg) then K (dbS σ a i.toNatClampNeg v) else none
def jsT (σ : Hp) (a : Nat) (i : Int32) (v : Nat) (K : Hp → jR) : jR := if (kdH σ a).1 = 5 ∧ kdH σ v = (1, 4) ∧ ¬ (i < 0 ∨ (kdH σ a).2 ≤ i.toNatClampNeg) then K (rfS σ a i.toNatClampNeg (some v)) else none
/-- the script -/
def jzI (g : jG) (i : Int32) (K : Int32 → jR) : jR := if ¬ (i < 0 ∨ gSn g ≤ i.toNatClampNeg) then K (gSx g i.toNatClampNeg) else none
def jnw (σ : Hp) (ci : Nat) (K : Nat → Hp → jR) : jR := K (tpH σ) (nwS σ (1, ci))
/-- a new array of kind t (2 ints, 3 longs, 4 doubles, 5 texts), of at most M places -/
def jnA (σ : Hp) (t M : Nat) (i : Int32) (K : Nat → Hp → jR) : jR := if ¬ i < 0 ∧ i.toNatClampNeg ≤ M then K (tpH σ) (nwS σ (t, i.toNatClampNeg)) else none
def jcp (σ : Hp) (a b : Nat) (sp dp n : Int32) (K : Hp → jR) : jR :=
  if a = b ∧ (kdH σ a).1 = 2 ∧ ¬ sp < 0 ∧ ¬ dp < 0 ∧ ¬ n < 0 ∧ sp.toNatClampNeg + n.toNatClampNeg ≤ (kdH σ a).2 ∧ dp.toNatClampNeg + n.toNatClampNeg ≤ (kdH σ a).2 then K (cpS σ a sp.toNatClampNeg dp.toNatClampNeg n.toNatClampNeg) else none
/-- a call: the receiver is of a kind -/
def jcv (σ : Hp) (a ci : Nat) (J : jR) (K : Option Value → Hp → jR) (KX : String → Hp → jR) : jR := if kdH σ a = (1, ci) then (match J with
  | none => none
  | some (.inl v, τ) => K v τ
  | some (.inr E, τ) => KX E τ) else none
/-- a call of a String -/
def jcvS (σ : Hp) (a : Nat) (J : jR) (K : Option Value → Hp → jR) (KX : String → Hp → jR) : jR := if kdH σ a = (1, 7) ∨ (kdH σ a).1 = 17 then (match J with
  | none => none
  | some (.inl v, τ) => K v τ
  | some (.inr E, τ) => KX E τ) else none
def jcs (J : jR) (K : Option Value → Hp → jR) (KX : String → Hp → jR) : jR := match J with
  | none => none
  | some (.inl v, τ) => K v τ
  | some (.inr E, τ) => KX E τ
def jvI (v : Option Value) (K : Int32 → jR) : jR := match v with
  | some (.int r) => K r
  | _ => none
def jvJ (v : Option Value) (K : Int64 → jR) : jR := match v with
  | some (.long r) => K r
  | _ => none
def jvF (v : Option Value) (K : UInt32 → jR) : jR := match v with
  | some (.float r) => K r
  | _ => none
def jvD (v : Option Value) (K : UInt64 → jR) : jR := match v with
  | some (.double r) => K r
  | _ => none
def jvV (v : Option Value) (K : jR) : jR := match v with
  | none => K
  | _ => none
def jvA (v : Option Value) (K : Nat → jR) : jR := match v with
  | some (.ref a) => K a
  | _ => none
/-- an int as a small type keeps it -/
def jrt (ty : FieldType) (v : Int32) (σ : Hp) : jR := if vp_nar ty v = v then some (.inl (some (.int v)), σ) else none
def jn32 (x : UInt32) (K : jR) : jR := if x &&& 2147483647 ≤ 2139095040 then K else none
def jn64 (x : UInt64) (K : jR) : jR := if x &&& 9223372036854775807 ≤ 9218868437227405312 then K else none
/-- a test against null -/
def jnu (r : Option Nat) (A : jR) (B : Nat → jR) : jR := match r with
  | none => A
  | some a => B a
/-- a place where ways meet -/
def jj {α : Type} (F : α) (B : α → jR) : jR := B F
theorem jj_some {α : Type} {F : α} {B : α → jR} {X : jO × Hp} (h : jj F B = some X) : ∃ G, G = F ∧ B G = some X := ⟨F, rfl, h⟩
/-- a divisor -/
def jnz (y : Int32) (K : jR) : jR := if ¬ y = 0 then K else none
/-- how often a loop may go round -/
def jN : Nat := 100000
theorem jdr_some {r : Option Nat} {K : Nat → jR} {X : jO × Hp} (h : jdr r K = some X) : ∃ a, r = some a ∧ K a = some X := by
  cases r with
  | none => cases h
  | some a => exact ⟨a, rfl, h⟩
theorem jvI_some {v : Option Value} {K : Int32 → jR} {X : jO × Hp} (h : jvI v K = some X) : ∃ r, v = some (.int r) ∧ K r = some X := by
  unfold jvI at h
  split at h
  · exact ⟨_, rfl, h⟩
  · cases h
theorem jvJ_some {v : Option Value} {K : Int64 → jR} {X : jO × Hp} (h : jvJ v K = some X) : ∃ r, v = some (.long r) ∧ K r = some X := by
  unfold jvJ at h
  split at h
  · exact ⟨_, rfl, h⟩
  · cases h
theorem jvF_some {v : Option Value} {K : UInt32 → jR} {X : jO × Hp} (h : jvF v K = some X) : ∃ r, v = some (.float r) ∧ K r = some X := by
  unfold jvF at h
  split at h
  · exact ⟨_, rfl, h⟩
  · cases h
theorem jvD_some {v : Option Value} {K : UInt64 → jR} {X : jO × Hp} (h : jvD v K = some X) : ∃ r, v = some (.double r) ∧ K r = some X := by
  unfold jvD at h
  split at h
  · exact ⟨_, rfl, h⟩
  · cases h
theorem jvA_some {v : Option Value} {K : Nat → jR} {X : jO × Hp} (h : jvA v K = some X) : ∃ a, v = some (.ref a) ∧ K a = some X := by
  unfold jvA at h
  split at h
  · exact ⟨_, rfl, h⟩
  · cases h
theorem jvV_some {v : Option Value} {K : jR} {X : jO × Hp} (h : jvV v K = some X) : v = none ∧ K = some X := by
  unfold jvV at h
  split at h
  · exact ⟨rfl, h⟩
  · cases h
theorem jif_some {c : Prop} {i : Decidable c} {K : jR} {X : jO × Hp} (h : (@ite _ c i K none) = some X) : c ∧ K = some X := by
  split at h
  · exact ⟨by assumption, h⟩
  · cases h
theorem jcs_some {J : jR} {K : Option Value → Hp → jR} {KX : String → Hp → jR} {X : jO × Hp} (h : jcs J K KX = some X) : (∃ v τ, J = some (.inl v, τ) ∧ K v τ = some X) ∨ ∃ E τ, J = some (.inr E, τ) ∧ KX E τ = some X := by
  unfold jcs at h
  split at h
  · cases h
  · exact Or.inl ⟨_, _, rfl, h⟩
  · exact Or.inr ⟨_, _, rfl, h⟩
theorem jcv_some {σ : Hp} {a ci : Nat} {J : jR} {K : Option Value → Hp → jR} {KX : String → Hp → jR} {X : jO × Hp} (h : jcv σ a ci J K KX = some X) : kdH σ a = (1, ci) ∧ jcs J K KX = some X := jif_some h
theorem jcvS_some {σ : Hp} {a : Nat} {J : jR} {K : Option Value → Hp → jR} {KX : String → Hp → jR} {X : jO × Hp} (h : jcvS σ a J K KX = some X) : (kdH σ a = (1, 7) ∨ (kdH σ a).1 = 17) ∧ jcs J K KX = some X := jif_some h
section JROWS
variable {p : Program} {l : Launch} {e : Env} {R : Room} {s : State} {m : MethodId} {args : Array Value} {below : List Frame} {meth : Method} {c : Code} {g : jG} {Q : State → Prop} {own : String} {cc : ByteArray} {nL k n pc : Nat} {rt : Option FieldType} {lv lv' : List (Nat × Value)} {st : List Value} {σ τ : Hp} {X : jO × Hp} {o : jO} {mc ms : Nat}
/-! constants, locals, stack, numbers -/
theorem r_iconst (C : jC p l s m args meth c g own cc nL rt) {i : Int} {v : Int32} (pc' : Nat) (hp : pc + 1 = pc') (hd : decode cc pc = .ok (.iconst i, 1)) (hv : Int32.ofInt i = v) (kk : jW p l e R s m args below meth c g Q k n pc' lv (.int v :: st) σ) : jW p l e R s m args below meth c g Q k n pc lv st σ := by
  subst hp; exact fun H locs ls h1 h2 h3 => lv_iconst C.1 C.2.1 hd hv (kk H locs ls h1 h2 h3)
theorem r_bipush (C : jC p l s m args meth c g own cc nL rt) {i : Int} {v : Int32} (pc' : Nat) (hp : pc + 2 = pc') (hd : decode cc pc = .ok (.bipush i, 2)) (hv : (Int8.ofInt i).toInt32 = v) (kk : jW p l e R s m args below meth c g Q k n pc' lv (.int v :: st) σ) : jW p l e R s m args below meth c g Q k n pc lv st σ := by
  subst hp; exact fun H locs ls h1 h2 h3 => lv_bipush C.1 C.2.1 hd hv (kk H locs ls h1 h2 h3)
theorem r_sipush (C : jC p l s m args meth c g own cc nL rt) {i : Int} {v : Int32} (pc' : Nat) (hp : pc + 3 = pc') (hd : decode cc pc = .ok (.sipush i, 3)) (hv : (Int16.ofInt i).toInt32 = v) (kk : jW p l e R s m args below meth c g Q k n pc' lv (.int v :: st) σ) : jW p l e R s m args below meth c g Q k n pc lv st σ := by
  subst hp; exact fun H locs ls h1 h2 h3 => lv_sipush C.1 C.2.1 hd hv (kk H locs ls h1 h2 h3)
theorem r_iload_n (C : jC p l s m args meth c g own cc nL rt) {i : Fin 4} {x : Int32} (pc' : Nat) (hp : pc + 1 = pc') (j : Nat) (hd : decode cc pc = .ok (.iload_n i, 1)) (hl : lv[j]? = some ((i : Nat), .int x)) (kk : jW p l e R s m args below meth c g Q k n pc' lv (.int x :: st) σ) : jW p l e R s m args below meth c g Q k n pc lv st σ := by
  subst hp; exact fun H locs ls h1 h2 h3 => lv_iload_n C.1 C.2.1 hd rfl (lv_at h3 j hl) (kk H locs ls h1 h2 h3)
theorem r_iload (C : jC p l s m args meth c g own cc nL rt) {i : Nat} {x : Int32} (pc' : Nat) (hp : pc + 2 = pc') (j : Nat) (hd : decode cc pc = .ok (.iload i, 2)) (hl : lv[j]? = some (i, .int x)) (kk : jW p l e R s m args below meth c g Q k n pc' lv (.int x :: st) σ) : jW p l e R s m args below meth c g Q k n pc lv st σ := by
  subst hp; exact fun H locs ls h1 h2 h3 => lv_iload C.1 C.2.1 hd (lv_at h3 j hl) (kk H locs ls h1 h2 h3)
theorem r_aload_n (C : jC p l s m args meth c g own cc nL rt) {i : Fin 4} {x : Option Nat} (pc' : Nat) (hp : pc + 1 = pc') (j : Nat) (hd : decode cc pc = .ok (.aload_n i, 1)) (hl : lv[j]? = some ((i : Nat), va_rf x)) (kk : jW p l e R s m args below meth c g Q k n pc' lv (va_rf x :: st) σ) : jW p l e R s m args below meth c g Q k n pc lv st σ := by
  subst hp
  cases x with
  | none => exact fun H locs ls h1 h2 h3 => lv_aload_nN C.1 C.2.1 hd rfl (lv_at h3 j hl) (kk H locs ls h1 h2 h3)
  | some x => exact fun H locs ls h1 h2 h3 => lv_aload_n C.1 C.2.1 hd rfl (lv_at h3 j hl) (kk H locs ls h1 h2 h3)
theorem r_aload (C : jC p l s m args meth c g own cc nL rt) {i : Nat} {x : Option Nat} (pc' : Nat) (hp : pc + 2 = pc') (j : Nat) (hd : decode cc pc = .ok (.aload i, 2)) (hl : lv[j]? = some (i, va_rf x)) (kk : jW p l e R s m args below meth c g Q k n pc' lv (va_rf x :: st) σ) : jW p l e R s m args below meth c g Q k n pc lv st σ := by
  subst hp
  cases x with
  | none => exact fun H locs ls h1 h2 h3 => lv_aloadN C.1 C.2.1 hd (lv_at h3 j hl) (kk H locs ls h1 h2 h3)
  | some x => exact fun H locs ls h1 h2 h3 => lv_aload C.1 C.2.1 hd (lv_at h3 j hl) (kk H locs ls h1 h2 h3)
theorem r_istore_n (C : jC p l s m args meth c g own cc nL rt) {i : Fin 4} {x : Int32} (pc' : Nat) (hp : pc + 1 = pc') (lv' : List (Nat × Value)) (hd : decode cc pc = .ok (.istore_n i, 1)) (hn : (i : Nat) < nL) (hl : ((i : Nat), Value.int x) :: lv.filter (fun q => !(q.1 == (i : Nat)) && !(q.1 + 1 == (i : Nat) && q.2.category == 2)) = lv') (kk : jW p l e R s m args below meth c g Q k n pc' lv' st σ) : jW p l e R s m args below meth c g Q k n pc lv (.int x :: st) σ := by
  subst hp; exact fun H locs ls h1 h2 h3 => lv_istore_n C.1 C.2.1 hd rfl h3 (by rw [C.2.2.1]; exact hn) hl (fun ls' h3' => kk H locs ls' h1 h2 h3')
theorem r_istore (C : jC p l s m args meth c g own cc nL rt) {i : Nat} {x : Int32} (pc' : Nat) (hp : pc + 2 = pc') (lv' : List (Nat × Value)) (hd : decode cc pc = .ok (.istore i, 2)) (hn : i < nL) (hl : (i, Value.int x) :: lv.filter (fun q => !(q.1 == i) && !(q.1 + 1 == i && q.2.category == 2)) = lv') (kk : jW p l e R s m args below meth c g Q k n pc' lv' st σ) : jW p l e R s m args below meth c g Q k n pc lv (.int x :: st) σ := by
  subst hp; exact fun H locs ls h1 h2 h3 => lv_istore C.1 C.2.1 hd h3 (by rw [C.2.2.1]; exact hn) hl (fun ls' h3' => kk H locs ls' h1 h2 h3')
theorem r_astore_n (C : jC p l s m args meth c g own cc nL rt) {i : Fin 4} {x : Option Nat} (pc' : Nat) (hp : pc + 1 = pc') (lv' : List (Nat × Value)) (hd : decode cc pc = .ok (.astore_n i, 1)) (hn : (i : Nat) < nL) (hl : ((i : Nat), va_rf x) :: lv.filter (fun q => !(q.1 == (i : Nat)) && !(q.1 + 1 == (i : Nat) && q.2.category == 2)) = lv') (kk : jW p l e R s m args below meth c g Q k n pc' lv' st σ) : jW p l e R s m args below meth c g Q k n pc lv (va_rf x :: st) σ := by
  subst hp
  cases x with
  | none => exact fun H locs ls h1 h2 h3 => lv_astore_nN C.1 C.2.1 hd rfl h3 (by rw [C.2.2.1]; exact hn) hl (fun ls' h3' => kk H locs ls' h1 h2 h3')
  | some x => exact fun H locs ls h1 h2 h3 => lv_astore_n C.1 C.2.1 hd rfl h3 (by rw [C.2.2.1]; exact hn) hl (fun ls' h3' => kk H locs ls' h1 h2 h3')
theorem r_astore (C : jC p l s m args meth c g own cc nL rt) {i : Nat} {x : Option Nat} (pc' : Nat) (hp : pc + 2 = pc') (lv' : List (Nat × Value)) (hd : decode cc pc = .ok (.astore i, 2)) (hn : i < nL) (hl : (i, va_rf x) :: lv.filter (fun q => !(q.1 == i) && !(q.1 + 1 == i && q.2.category == 2)) = lv') (kk : jW p l e R s m args below meth c g Q k n pc' lv' st σ) : jW p l e R s m args below meth c g Q k n pc lv (va_rf x :: st) σ := by
  subst hp
  cases x with
  | none => exact fun H locs ls h1 h2 h3 => lv_astoreN C.1 C.2.1 hd h3 (by rw [C.2.2.1]; exact hn) hl (fun ls' h3' => kk H locs ls' h1 h2 h3')
  | some x => exact fun H locs ls h1 h2 h3 => lv_astore C.1 C.2.1 hd h3 (by rw [C.2.2.1]; exact hn) hl (fun ls' h3' => kk H locs ls' h1 h2 h3')
theorem r_iinc (C : jC p l s m args meth c g own cc nL rt) {i : Nat} {z : Int} {x v : Int32} (pc' : Nat) (hp : pc + 3 = pc') (j : Nat) (lv' : List (Nat × Value)) (hd : decode cc pc = .ok (.iinc i z, 3)) (hk : lv[j]? = some (i, .int x)) (hv : x + Int32.ofInt z = v) (hn : i < nL) (hl : (i, Value.int v) :: lv.filter (fun q => !(q.1 == i) && !(q.1 + 1 == i && q.2.category == 2)) = lv') (kk : jW p l e R s m args below meth c g Q k n pc' lv' st σ) : jW p l e R s m args below meth c g Q k n pc lv st σ := by
  subst hp; exact fun H locs ls h1 h2 h3 => lv_iinc C.1 C.2.1 hd h3 hk hv (by rw [C.2.2.1]; exact hn) hl (fun ls' h3' => kk H locs ls' h1 h2 h3')
theorem r_iadd (C : jC p l s m args meth c g own cc nL rt) {x y : Int32} (pc' : Nat) (hp : pc + 1 = pc') (hd : decode cc pc = .ok (.iadd, 1)) (kk : jW p l e R s m args below meth c g Q k n pc' lv (.int (x + y) :: st) σ) : jW p l e R s m args below meth c g Q k n pc lv (.int y :: .int x :: st) σ := by
  subst hp; exact fun H locs ls h1 h2 h3 => lv_iadd C.1 C.2.1 hd (kk H locs ls h1 h2 h3)
theorem r_isub (C : jC p l s m args meth c g own cc nL rt) {x y : Int32} (pc' : Nat) (hp : pc + 1 = pc') (hd : decode cc pc = .ok (.isub, 1)) (kk : jW p l e R s m args below meth c g Q k n pc' lv (.int (x - y) :: st) σ) : jW p l e R s m args below meth c g Q k n pc lv (.int y :: .int x :: st) σ := by
  subst hp; exact fun H locs ls h1 h2 h3 => lv_isub C.1 C.2.1 hd (kk H locs ls h1 h2 h3)
theorem r_imul (C : jC p l s m args meth c g own cc nL rt) {x y : Int32} (pc' : Nat) (hp : pc + 1 = pc') (hd : decode cc pc = .ok (.imul, 1)) (kk : jW p l e R s m args below meth c g Q k n pc' lv (.int (x * y) :: st) σ) : jW p l e R s m args below meth c g Q k n pc lv (.int y :: .int x :: st) σ := by
  subst hp; exact fun H locs ls h1 h2 h3 => lv_imul C.1 C.2.1 hd (kk H locs ls h1 h2 h3)
theorem r_iand (C : jC p l s m args meth c g own cc nL rt) {x y : Int32} (pc' : Nat) (hp : pc + 1 = pc') (hd : decode cc pc = .ok (.iand, 1)) (kk : jW p l e R s m args below meth c g Q k n pc' lv (.int (x &&& y) :: st) σ) : jW p l e R s m args below meth c g Q k n pc lv (.int y :: .int x :: st) σ := by
  subst hp; exact fun H locs ls h1 h2 h3 => lv_iand C.1 C.2.1 hd (kk H locs ls h1 h2 h3)
theorem r_ior (C : jC p l s m args meth c g own cc nL rt) {x y : Int32} (pc' : Nat) (hp : pc + 1 = pc') (hd : decode cc pc = .ok (.ior, 1)) (kk : jW p l e R s m args below meth c g Q k n pc' lv (.int (x ||| y) :: st) σ) : jW p l e R s m args below meth c g Q k n pc lv (.int y :: .int x :: st) σ := by
  subst hp; exact fun H locs ls h1 h2 h3 => lv_ior C.1 C.2.1 hd (kk H locs ls h1 h2 h3)
theorem r_ishl (C : jC p l s m args meth c g own cc nL rt) {x y : Int32} (pc' : Nat) (hp : pc + 1 = pc') (hd : decode cc pc = .ok (.ishl, 1)) (kk : jW p l e R s m args below meth c g Q k n pc' lv (.int (x <<< (y &&& 31)) :: st) σ) : jW p l e R s m args below meth c g Q k n pc lv (.int y :: .int x :: st) σ := by
  subst hp; exact fun H locs ls h1 h2 h3 => lv_ishl C.1 C.2.1 hd (kk H locs ls h1 h2 h3)
theorem r_ishr (C : jC p l s m args meth c g own cc nL rt) {x y : Int32} (pc' : Nat) (hp : pc + 1 = pc') (hd : decode cc pc = .ok (.ishr, 1)) (kk : jW p l e R s m args below meth c g Q k n pc' lv (.int (x >>> (y &&& 31)) :: st) σ) : jW p l e R s m args below meth c g Q k n pc lv (.int y :: .int x :: st) σ := by
  subst hp; exact fun H locs ls h1 h2 h3 => lv_ishr C.1 C.2.1 hd (kk H locs ls h1 h2 h3)
theorem r_idiv (C : jC p l s m args meth c g own cc nL rt) {x y : Int32} (pc' : Nat) (hp : pc + 1 = pc') (hd : decode cc pc = .ok (.idiv, 1)) (hne : ¬ y = 0) (kk : jW p l e R s m args below meth c g Q k n pc' lv (.int (x / y) :: st) σ) : jW p l e R s m args below meth c g Q k n pc lv (.int y :: .int x :: st) σ := by
  subst hp; exact fun H locs ls h1 h2 h3 => lv_idiv C.1 C.2.1 hd hne (kk H locs ls h1 h2 h3)
theorem r_irem (C : jC p l s m args meth c g own cc nL rt) {x y : Int32} (pc' : Nat) (hp : pc + 1 = pc') (hd : decode cc pc = .ok (.irem, 1)) (hne : ¬ y = 0) (kk : jW p l e R s m args below meth c g Q k n pc' lv (.int (x - x / y * y) :: st) σ) : jW p l e R s m args below meth c g Q k n pc lv (.int y :: .int x :: st) σ := by
  subst hp; exact fun H locs ls h1 h2 h3 => lv_irem C.1 C.2.1 hd hne (kk H locs ls h1 h2 h3)
theorem r_idivz (C : jC p l s m args meth c g own cc nL rt) {x y : Int32} {K : jR} (pc' : Nat) (hp : pc + 1 = pc') (hd : decode cc pc = .ok (.idiv, 1)) (h : jnz y K = some X) (kk : K = some X → jW p l e R s m args below meth c g Q k n pc' lv (.int (x / y) :: st) σ) : jW p l e R s m args below meth c g Q k n pc lv (.int y :: .int x :: st) σ := by
  obtain ⟨hne, h⟩ := jif_some h
  exact r_idiv C pc' hp hd hne (kk h)
theorem r_iremz (C : jC p l s m args meth c g own cc nL rt) {x y : Int32} {K : jR} (pc' : Nat) (hp : pc + 1 = pc') (hd : decode cc pc = .ok (.irem, 1)) (h : jnz y K = some X) (kk : K = some X → jW p l e R s m args below meth c g Q k n pc' lv (.int (x - x / y * y) :: st) σ) : jW p l e R s m args below meth c g Q k n pc lv (.int y :: .int x :: st) σ := by
  obtain ⟨hne, h⟩ := jif_some h
  exact r_irem C pc' hp hd hne (kk h)
theorem r_i2c (C : jC p l s m args meth c g own cc nL rt) {x : Int32} (pc' : Nat) (hp : pc + 1 = pc') (hd : decode cc pc = .ok (.i2c, 1)) (kk : jW p l e R s m args below meth c g Q k n pc' lv (.int (x.toUInt32 % 65536).toInt32 :: st) σ) : jW p l e R s m args below meth c g Q k n pc lv (.int x :: st) σ := by
  subst hp; exact fun H locs ls h1 h2 h3 => lv_i2c C.1 C.2.1 hd rfl (kk H locs ls h1 h2 h3)
theorem r_dup (C : jC p l s m args meth c g own cc nL rt) {v : Value} (pc' : Nat) (hp : pc + 1 = pc') (hd : decode cc pc = .ok (.dup, 1)) (hv : v.category = 1) (kk : jW p l e R s m args below meth c g Q k n pc' lv (v :: v :: st) σ) : jW p l e R s m args below meth c g Q k n pc lv (v :: st) σ := by
  subst hp; exact fun H locs ls h1 h2 h3 => lv_dup C.1 C.2.1 hd hv (kk H locs ls h1 h2 h3)
theorem r_dup2 (C : jC p l s m args meth c g own cc nL rt) {v w : Value} (pc' : Nat) (hp : pc + 1 = pc') (hd : decode cc pc = .ok (.dup2, 1)) (hv : v.category = 1) (hw : w.category = 1) (kk : jW p l e R s m args below meth c g Q k n pc' lv (v :: w :: v :: w :: st) σ) : jW p l e R s m args below meth c g Q k n pc lv (v :: w :: st) σ := by
  subst hp; exact fun H locs ls h1 h2 h3 => lv_dup2_11 C.1 C.2.1 hd hv hw (kk H locs ls h1 h2 h3)
theorem r_pop (C : jC p l s m args meth c g own cc nL rt) {v : Value} (pc' : Nat) (hp : pc + 1 = pc') (hd : decode cc pc = .ok (.pop, 1)) (hv : v.category = 1) (kk : jW p l e R s m args below meth c g Q k n pc' lv st σ) : jW p l e R s m args below meth c g Q k n pc lv (v :: st) σ := by
  subst hp; exact fun H locs ls h1 h2 h3 => lv_pop C.1 C.2.1 hd hv (kk H locs ls h1 h2 h3)
theorem r_goto (C : jC p l s m args meth c g own cc nL rt) {off : Int} (pc' : Nat) (hd : decode cc pc = .ok (.goto off, 3)) (ht : (pc : Int) + off = (pc' : Int)) (kk : jW p l e R s m args below meth c g Q k n pc' lv st σ) : jW p l e R s m args below meth c g Q k n pc lv st σ :=
  fun H locs ls h1 h2 h3 => lv_goto C.1 C.2.1 hd ht (kk H locs ls h1 h2 h3)
/-- fewer of the locals are remembered -/
theorem r_lv (is : List Nat) (h : lv_pick lv is = lv') (kk : jW p l e R s m args below meth c g Q k n pc lv' st σ) : jW p l e R s m args below meth c g Q k n pc lv st σ :=
  fun H locs ls h1 h2 h3 => kk H locs ls h1 h2 (lv_sub h3 is h)
theorem r_widen {k' n' : Nat} (hk : k ≤ k') (hn : n ≤ n') (kk : jW p l e R s m args below meth c g Q k' n' pc lv st σ) : jW p l e R s m args below meth c g Q k n pc lv st σ :=
  fun H locs ls h1 h2 h3 => W.widen hk hn (kk H locs ls h1 h2 h3)
theorem r_icmp_eq (C : jC p l s m args meth c g own cc nL rt) {x y : Int32} {off : Int} {A B : jR} {dec : Decidable (x = y)} (pc1 pc2 : Nat) (hp : pc + 3 = pc2) (hd : decode cc pc = .ok (.if_icmp .eq off, 3)) (ht : (pc : Int) + off = (pc1 : Int)) (h : (@ite _ (x = y) dec A B) = some X) (kt : A = some X → jW p l e R s m args below meth c g Q k n pc1 lv st σ) (kf : B = some X → jW p l e R s m args below meth c g Q k n pc2 lv st σ) : jW p l e R s m args below meth c g Q k n pc lv (.int y :: .int x :: st) σ := by
  subst hp; exact fun H locs ls h1 h2 h3 => lv_icmp_eq C.1 C.2.1 hd ht (fun q => kt (by rw [if_pos q] at h; exact h) H locs ls h1 h2 h3) (fun q => kf (by rw [if_neg q] at h; exact h) H locs ls h1 h2 h3)
theorem r_if_eq (C : jC p l s m args meth c g own cc nL rt) {x : Int32} {off : Int} {A B : jR} {dec : Decidable (x = 0)} (pc1 pc2 : Nat) (hp : pc + 3 = pc2) (hd : decode cc pc = .ok (.ifCond .eq off, 3)) (ht : (pc : Int) + off = (pc1 : Int)) (h : (@ite _ (x = 0) dec A B) = some X) (kt : A = some X → jW p l e R s m args below meth c g Q k n pc1 lv st σ) (kf : B = some X → jW p l e R s m args below meth c g Q k n pc2 lv st σ) : jW p l e R s m args below meth c g Q k n pc lv (.int x :: st) σ := by
  subst hp; exact fun H locs ls h1 h2 h3 => lv_if_eq C.1 C.2.1 hd ht (fun q => kt (by rw [if_pos q] at h; exact h) H locs ls h1 h2 h3) (fun q => kf (by rw [if_neg q] at h; exact h) H locs ls h1 h2 h3)
theorem r_icmp_lt (C : jC p l s m args meth c g own cc nL rt) {x y : Int32} {off : Int} {A B : jR} {dec : Decidable (x < y)} (pc1 pc2 : Nat) (hp : pc + 3 = pc2) (hd : decode cc pc = .ok (.if_icmp .lt off, 3)) (ht : (pc : Int) + off = (pc1 : Int)) (h : (@ite _ (x < y) dec A B) = some X) (kt : A = some X → jW p l e R s m args below meth c g Q k n pc1 lv st σ) (kf : B = some X → jW p l e R s m args below meth c g Q k n pc2 lv st σ) : jW p l e R s m args below meth c g Q k n pc lv (.int y :: .int x :: st) σ := by
  subst hp; exact fun H locs ls h1 h2 h3 => lv_icmp_lt C.1 C.2.1 hd ht (fun q => kt (by rw [if_pos q] at h; exact h) H locs ls h1 h2 h3) (fun q => kf (by rw [if_neg q] at h; exact h) H locs ls h1 h2 h3)
theorem r_if_lt (C : jC p l s m args meth c g own cc nL rt) {x : Int32} {off : Int} {A B : jR} {dec : Decidable (x < 0)} (pc1 pc2 : Nat) (hp : pc + 3 = pc2) (hd : decode cc pc = .ok (.ifCond .lt off, 3)) (ht : (pc : Int) + off = (pc1 : Int)) (h : (@ite _ (x < 0) dec A B) = some X) (kt : A = some X → jW p l e R s m args below meth c g Q k n pc1 lv st σ) (kf : B = some X → jW p l e R s m args below meth c g Q k n pc2 lv st σ) : jW p l e R s m args below meth c g Q k n pc lv (.int x :: st) σ := by
  subst hp; exact fun H locs ls h1 h2 h3 => lv_if_lt C.1 C.2.1 hd ht (fun q => kt (by rw [if_pos q] at h; exact h) H locs ls h1 h2 h3) (fun q => kf (by rw [if_neg q] at h; exact h) H locs ls h1 h2 h3)
theorem r_icmp_ge (C : jC p l s m args meth c g own cc nL rt) {x y : Int32} {off : Int} {A B : jR} {dec : Decidable (y ≤ x)} (pc1 pc2 : Nat) (hp : pc + 3 = pc2) (hd : decode cc pc = .ok (.if_icmp .ge off, 3)) (ht : (pc : Int) + off = (pc1 : Int)) (h : (@ite _ (y ≤ x) dec A B) = some X) (kt : A = some X → jW p l e R s m args below meth c g Q k n pc1 lv st σ) (kf : B = some X → jW p l e R s m args below meth c g Q k n pc2 lv st σ) : jW p l e R s m args below meth c g Q k n pc lv (.int y :: .int x :: st) σ := by
  subst hp; exact fun H locs ls h1 h2 h3 => lv_icmp_ge C.1 C.2.1 hd ht (fun q => kt (by rw [if_pos q] at h; exact h) H locs ls h1 h2 h3) (fun q => kf (by rw [if_neg q] at h; exact h) H locs ls h1 h2 h3)
theorem r_if_ge (C : jC p l s m args meth c g own cc nL rt) {x : Int32} {off : Int} {A B : jR} {dec : Decidable (0 ≤ x)} (pc1 pc2 : Nat) (hp : pc + 3 = pc2) (hd : decode cc pc = .ok (.ifCond .ge off, 3)) (ht : (pc : Int) + off = (pc1 : Int)) (h : (@ite _ (0 ≤ x) dec A B) = some X) (kt : A = some X → jW p l e R s m args below meth c g Q k n pc1 lv st σ) (kf : B = some X → jW p l e R s m args below meth c g Q k n pc2 lv st σ) : jW p l e R s m args below meth c g Q k n pc lv (.int x :: st) σ := by
  subst hp; exact fun H locs ls h1 h2 h3 => lv_if_ge C.1 C.2.1 hd ht (fun q => kt (by rw [if_pos q] at h; exact h) H locs ls h1 h2 h3) (fun q => kf (by rw [if_neg q] at h; exact h) H locs ls h1 h2 h3)
theorem r_icmp_gt (C : jC p l s m args meth c g own cc nL rt) {x y : Int32} {off : Int} {A B : jR} {dec : Decidable (y < x)} (pc1 pc2 : Nat) (hp : pc + 3 = pc2) (hd : decode cc pc = .ok (.if_icmp .gt off, 3)) (ht : (pc : Int) + off = (pc1 : Int)) (h : (@ite _ (y < x) dec A B) = some X) (kt : A = some X → jW p l e R s m args below meth c g Q k n pc1 lv st σ) (kf : B = some X → jW p l e R s m args below meth c g Q k n pc2 lv st σ) : jW p l e R s m args below meth c g Q k n pc lv (.int y :: .int x :: st) σ := by
  subst hp; exact fun H locs ls h1 h2 h3 => lv_icmp_gt C.1 C.2.1 hd ht (fun q => kt (by rw [if_pos q] at h; exact h) H locs ls h1 h2 h3) (fun q => kf (by rw [if_neg q] at h; exact h) H locs ls h1 h2 h3)
theorem r_if_gt (C : jC p l s m args meth c g own cc nL rt) {x : Int32} {off : Int} {A B : jR} {dec : Decidable (0 < x)} (pc1 pc2 : Nat) (hp : pc + 3 = pc2) (hd : decode cc pc = .ok (.ifCond .gt off, 3)) (ht : (pc : Int) + off = (pc1 : Int)) (h : (@ite _ (0 < x) dec A B) = some X) (kt : A = some X → jW p l e R s m args below meth c g Q k n pc1 lv st σ) (kf : B = some X → jW p l e R s m args below meth c g Q k n pc2 lv st σ) : jW p l e R s m args below meth c g Q k n pc lv (.int x :: st) σ := by
  subst hp; exact fun H locs ls h1 h2 h3 => lv_if_gt C.1 C.2.1 hd ht (fun q => kt (by rw [if_pos q] at h; exact h) H locs ls h1 h2 h3) (fun q => kf (by rw [if_neg q] at h; exact h) H locs ls h1 h2 h3)
theorem r_icmp_le (C : jC p l s m args meth c g own cc nL rt) {x y : Int32} {off : Int} {A B : jR} {dec : Decidable (x ≤ y)} (pc1 pc2 : Nat) (hp : pc + 3 = pc2) (hd : decode cc pc = .ok (.if_icmp .le off, 3)) (ht : (pc : Int) + off = (pc1 : Int)) (h : (@ite _ (x ≤ y) dec A B) = some X) (kt : A = some X → jW p l e R s m args below meth c g Q k n pc1 lv st σ) (kf : B = some X → jW p l e R s m args below meth c g Q k n pc2 lv st σ) : jW p l e R s m args below meth c g Q k n pc lv (.int y :: .int x :: st) σ := by
  subst hp; exact fun H locs ls h1 h2 h3 => lv_icmp_le C.1 C.2.1 hd ht (fun q => kt (by rw [if_pos q] at h; exact h) H locs ls h1 h2 h3) (fun q => kf (by rw [if_neg q] at h; exact h) H locs ls h1 h2 h3)
theorem r_if_le (C : jC p l s m args meth c g own cc nL rt) {x : Int32} {off : Int} {A B : jR} {dec : Decidable (x ≤ 0)} (pc1 pc2 : Nat) (hp : pc + 3 = pc2) (hd : decode cc pc = .ok (.ifCond .le off, 3)) (ht : (pc : Int) + off = (pc1 : Int)) (h : (@ite _ (x ≤ 0) dec A B) = some X) (kt : A = some X → jW p l e R s m args below meth c g Q k n pc1 lv st σ) (kf : B = some X → jW p l e R s m args below meth c g Q k n pc2 lv st σ) : jW p l e R s m args below meth c g Q k n pc lv (.int x :: st) σ := by
  subst hp; exact fun H locs ls h1 h2 h3 => lv_if_le C.1 C.2.1 hd ht (fun q => kt (by rw [if_pos q] at h; exact h) H locs ls h1 h2 h3) (fun q => kf (by rw [if_neg q] at h; exact h) H locs ls h1 h2 h3)
theorem r_icmp_ne (C : jC p l s m args meth c g own cc nL rt) {x y : Int32} {off : Int} {A B : jR} {dec : Decidable (x = y)} (pc1 pc2 : Nat) (hp : pc + 3 = pc2) (hd : decode cc pc = .ok (.if_icmp .ne off, 3)) (ht : (pc : Int) + off = (pc1 : Int)) (h : (@ite _ (x = y) dec B A) = some X) (kt : A = some X → jW p l e R s m args below meth c g Q k n pc1 lv st σ) (kf : B = some X → jW p l e R s m args below meth c g Q k n pc2 lv st σ) : jW p l e R s m args below meth c g Q k n pc lv (.int y :: .int x :: st) σ := by
  subst hp; exact fun H locs ls h1 h2 h3 => lv_icmp_ne C.1 C.2.1 hd ht (fun q => kt (by rw [if_neg q] at h; exact h) H locs ls h1 h2 h3) (fun q => kf (by rw [if_pos q] at h; exact h) H locs ls h1 h2 h3)
theorem r_if_ne (C : jC p l s m args meth c g own cc nL rt) {x : Int32} {off : Int} {A B : jR} {dec : Decidable (x = 0)} (pc1 pc2 : Nat) (hp : pc + 3 = pc2) (hd : decode cc pc = .ok (.ifCond .ne off, 3)) (ht : (pc : Int) + off = (pc1 : Int)) (h : (@ite _ (x = 0) dec B A) = some X) (kt : A = some X → jW p l e R s m args below meth c g Q k n pc1 lv st σ) (kf : B = some X → jW p l e R s m args below meth c g Q k n pc2 lv st σ) : jW p l e R s m args below meth c g Q k n pc lv (.int x :: st) σ := by
  subst hp; exact fun H locs ls h1 h2 h3 => lv_if_ne C.1 C.2.1 hd ht (fun q => kt (by rw [if_neg q] at h; exact h) H locs ls h1 h2 h3) (fun q => kf (by rw [if_pos q] at h; exact h) H locs ls h1 h2 h3)
theorem r_ifnull (C : jC p l s m args meth c g own cc nL rt) {r : Option Nat} {off : Int} {A : jR} {B : Nat → jR} (pc1 pc2 : Nat) (hp : pc + 3 = pc2) (hd : decode cc pc = .ok (.ifnull off, 3)) (ht : (pc : Int) + off = (pc1 : Int)) (h : jnu r A B = some X) (kt : r = none → A = some X → jW p l e R s m args below meth c g Q k n pc1 lv st σ) (kf : ∀ a, r = some a → B a = some X → jW p l e R s m args below meth c g Q k n pc2 lv st σ) : jW p l e R s m args below meth c g Q k n pc lv (va_rf r :: st) σ := by
  subst hp
  cases r with
  | none => exact fun H locs ls h1 h2 h3 => lv_ifnullN C.1 C.2.1 hd ht (kt rfl h H locs ls h1 h2 h3)
  | some a => exact fun H locs ls h1 h2 h3 => lv_ifnull C.1 C.2.1 hd (kf a rfl h H locs ls h1 h2 h3)
theorem r_ifnonnull (C : jC p l s m args meth c g own cc nL rt) {r : Option Nat} {off : Int} {A : jR} {B : Nat → jR} (pc1 pc2 : Nat) (hp : pc + 3 = pc2) (hd : decode cc pc = .ok (.ifnonnull off, 3)) (ht : (pc : Int) + off = (pc1 : Int)) (h : jnu r A B = some X) (kt : ∀ a, r = some a → B a = some X → jW p l e R s m args below meth c g Q k n pc1 lv st σ) (kf : r = none → A = some X → jW p l e R s m args below meth c g Q k n pc2 lv st σ) : jW p l e R s m args below meth c g Q k n pc lv (va_rf r :: st) σ := by
  subst hp
  cases r with
  | none => exact fun H locs ls h1 h2 h3 => lv_ifnonnullN C.1 C.2.1 hd (kf rfl h H locs ls h1 h2 h3)
  | some a => exact fun H locs ls h1 h2 h3 => lv_ifnonnull C.1 C.2.1 hd ht (kt a rfl h H locs ls h1 h2 h3)
theorem r_aconst (C : jC p l s m args meth c g own cc nL rt) (pc' : Nat) (hp : pc + 1 = pc') (hd : decode cc pc = .ok (.aconst_null, 1)) (kk : jW p l e R s m args below meth c g Q k n pc' lv (va_rf none :: st) σ) : jW p l e R s m args below meth c g Q k n pc lv st σ := by
  subst hp; exact fun H locs ls h1 h2 h3 => lv_null C.1 C.2.1 hd (kk H locs ls h1 h2 h3)
theorem r_dup_x1 (C : jC p l s m args meth c g own cc nL rt) {v w : Value} (pc' : Nat) (hp : pc + 1 = pc') (hd : decode cc pc = .ok (.dup_x1, 1)) (hv : v.category = 1) (hw : w.category = 1) (kk : jW p l e R s m args below meth c g Q k n pc' lv (v :: w :: v :: st) σ) : jW p l e R s m args below meth c g Q k n pc lv (v :: w :: st) σ := by
  subst hp; exact fun H locs ls h1 h2 h3 => lv_dup_x1 C.1 C.2.1 hd hv hw (kk H locs ls h1 h2 h3)
theorem r_ldcI (C : jC p l s m args meth c g own cc nL rt) {i : Nat} {v : Int32} (pc' : Nat) (hp : pc + 2 = pc') (hd : decode cc pc = .ok (.ldc i, 2)) (hw : Cond.constant own i v ∈ gT) (kk : jW p l e R s m args below meth c g Q k n pc' lv (.int v :: st) σ) : jW p l e R s m args below meth c g Q k n pc lv st σ := by
  subst hp; exact fun H locs ls h1 h2 h3 => lv_ldc C.1 C.2.1 C.2.2.2.1 (C.2.2.2.2.1 _ hw) hd (kk H locs ls h1 h2 h3)
end JROWS
