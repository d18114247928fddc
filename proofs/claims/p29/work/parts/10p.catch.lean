section JLAW
variable {p : Program} {l : Launch} {e : Env} {R : Room} {s : State} {m : MethodId} {args : Array Value} {below : List Frame} {meth : Method} {c : Code} {g : jG} {Q : State → Prop} {own : String} {cc : ByteArray} {nL k n pc : Nat} {rt : Option FieldType} {lv lv' : List (Nat × Value)} {st : List Value} {σ τ : Hp} {X : jO × Hp} {o : jO} {mc ms : Nat}
/-- a handler of the method's own table catches: those ahead of it name other classes -/
theorem r_catch (C : jC p l s m args meth c g own cc nL rt) {hh : List (Nat × Nat × Nat × Nat)} {E : String} (hT : c.exceptionTable.toList = tableOf hh) (pre : List ExceptionTableEntry) (x : ExceptionTableEntry) (suf : List ExceptionTableEntry) (hs : tableOf hh = pre ++ x :: suf)
    (hpass : ∀ z ∈ pre, z.catchType ≠ 0 ∧ ∃ nm : String, Cond.classLink own z.catchType nm ∈ gT ∧ (E, nm) ∈ jNl) (hx : covers x pc = true) (h0 : x.catchType ≠ 0) (hl : Cond.classLink own x.catchType E ∈ gT) (hc : Cond.castable E E ∈ jNt) (pc' : Nat) (hp : x.handlerPc = pc')
    (kk : ∀ q : Nat, jW p l e R s m args below meth c g Q k n pc' lv [.ref q] σ) : jX p l e R s m args below meth c g Q k n pc lv st σ E := by
  subst hp
  intro H locs ls ce q h1 h2 h3 g1 g2 g3
  have hts := C.2.2.2.2.1
  have hS := C.2.2.2.2.2.2.2.2.1
  exact vx_catch C.2.2.2.1 pre x suf (hT.trans hs) (fun z hz => Or.inr ⟨(hpass z hz).1, by obtain ⟨nm, a, b⟩ := (hpass z hz).2; exact ⟨nm, hts _ a, hS.2.2.2.2.1 _ b⟩⟩) hx h0 (hts _ hl) (va_Nw.use rfl (hS.2.1 _ hc)) g1 g2 g3 (kk q H locs ls h1 h2 h3)
end JLAW
theorem jWsH {y : MethodName} {bytes : ByteArray} {maxL : Nat} {ret : Option FieldType} {hh : List (Nat × Nat × Nat × Nat)} (h : Cond.codeWith y bytes maxL ret hh ∈ gT) : GoodIn gT (Cond.codeWith y bytes maxL ret hh :: gT) := by
  intro w hw
  rcases List.mem_cons.mp hw with rfl | hw
  · exact ⟨h, good_of_word (gT_good _ h)⟩
  · exact ⟨hw, good_of_word (gT_good _ hw)⟩
def jLkH (own : String) (index : Nat) (y : MethodName) (bytes : ByteArray) (maxL : Nat) (ret : Option FieldType) (hh : List (Nat × Nat × Nat × Nat)) (nA : Nat) : Prop :=
  Cond.methodLink own index y ∈ gT ∧ Cond.initialized y.cls ∈ gT ∧ Cond.codeWith y bytes maxL ret hh ∈ gT ∧ (y.cls ≠ "java/lang/invoke/MethodHandle" ∧ y.cls ≠ "java/lang/invoke/VarHandle" ∧ (parseMethodDescriptor y.desc).map (fun d => d.parameters.length) = some nA)
/-- a static call of a method with a table of its own -/
theorem r_callSX {p : Program} {l : Launch} {e : Env} {R : Room} {s : State} {m : MethodId} {args : Array Value} {below : List Frame} {meth : Method} {c : Code} {g : jG} {Q : State → Prop} {own : String} {cc : ByteArray} {nL k n pc : Nat} {rt : Option FieldType} {lv : List (Nat × Value)} {st : List Value} {σ : Hp} {X : jO × Hp} {mc ms : Nat}
    (C : jC p l s m args meth c g own cc nL rt) {index maxL nA : Nat} {y : MethodName} {bytes : ByteArray} {ret : Option FieldType} {hh : List (Nat × Nat × Nat × Nat)} {rm : Room} {As st0 : List Value} {J : jR} {K : Option Value → Hp → jR} {KX : String → Hp → jR} (hw : jLkH own index y bytes maxL ret hh nA) (hs : Cond.static y ∈ gT) (pc' k' n' : Nat) (hp : pc + 3 = pc') (hk : k + mc = k') (hn : n + ms = n') (hd : decode cc pc = .ok (.invokestatic index, 3))
    (hrc : rm.cells = mc) (hrs : rm.slots = ms) (hst : st0 = As.reverse ++ st) (hA : As.length = nA) (hcat : (st.map fun v => v.category).sum ≤ 8) (hR : rm.frames + 1 ≤ R.frames ∧ 8 + (maxL + 11) + rm.locals ≤ R.locals) (hf : k + mc ≤ R.cells ∧ n + ms ≤ R.slots)
    (hM : ∀ o τ, J = some (o, τ) → jMet l g y (Cond.codeWith y bytes maxL ret hh :: gT) rm mc ms As σ o τ) (h : jcs J K KX = some X)
    (kk : ∀ v τ, K v τ = some X → jW p l e R s m args below meth c g Q k' n' pc' lv (v.toList ++ st) τ) (kx : ∀ E τ, KX E τ = some X → jX p l e R s m args below meth c g Q k' n' pc lv st τ E) : jW p l e R s m args below meth c g Q k n pc lv st0 σ := by
  subst hst
  subst hp
  subst hk
  subst hn
  obtain ⟨w1, w2, w3, w4⟩ := hw
  have hts := C.2.2.2.2.1
  refine r_run (av := As.toArray) C (fun o τ hJ H locs ls h1 h2 h3 => vx_runSX (hh := hh) (bytes := bytes) (maxL := maxL) (ret := ret) (nL := c.maxLocals) ⟨C.1, C.2.1, rfl, C.2.2.2.1, hts⟩ (hM o τ hJ) ⟨⟨hrc, hrs, hR.1, hR.2, pay_in hts (jWsH w3), List.mem_cons_self⟩, hts _ w3, hts _ w2, ⟨w4.1, w4.2.1⟩, fun sig h => ?_, hts _ w1, hts _ hs⟩ ⟨jPre_blind, fun U hU hW => ⟨rfl, jPre_at C h1 h2 hU hW⟩⟩ rfl hA h3.1 rfl (lv_room hcat) hd hf) h kk kx
  have h2 := w4.2.2
  rw [h] at h2
  exact (Option.some.inj h2).symm
theorem j_startH (l : Launch) (hst : l.stackTraces = false) {g : jG} {y : MethodName} {rm : Room} {mc ms : Nat} {av : List Value} {σ τ : Hp} {o : jO} {cc : ByteArray} {maxL : Nat} {ret : Option FieldType} {hh : List (Nat × Nat × Nat × Nat)} {own : String} (hy : plainName y.cls = true) (ho : y.cls = own) (hlen : (lg_sl av).length ≤ maxL)
    (body : ∀ p e s m args below meth c, jC p l s m args meth c g own cc maxL ret → c.exceptionTable.toList = tableOf hh → jW p l e rm s m args below meth c g (jQ below g o τ args s mc ms) 0 0 0 (lv_args 0 av) [] σ) : jMet l g y (Cond.codeWith y cc maxL ret hh :: gT) rm mc ms av σ o τ := by
  refine vx_ofWH (cc := cc) (maxL := maxL) (ret := ret) (hh := hh) (ws' := gT) hy rfl ?_
  intro p e s m args below meth c s₁ B hml hv
  obtain ⟨rfl, hS, hZ, hR⟩ := hv
  have hts := atoms_spec (ws := Cond.codeWith y cc maxL ret hh :: gT) B.pre
  have hT := vx_table (x := y) B (hts _ List.mem_cons_self)
  have C : jC p l s m av.toArray meth c g own cc maxL ret := ⟨B.exec, B.bytes, hml, by rw [← ho]; exact findClass_of_methodNamed B.named, fun w hw => hts w (List.mem_cons_of_mem _ hw), B.notSynchronized, hst, B.returns, hS, hZ⟩
  have K := body p e s m _ below meth c C hT
  have hl := lv_entry av (n := maxL) hlen
  rw [lg_entry_eq]
  exact K s.heap [] _ hR va_S.rf (by rw [hml]; exact hl)
