section
-- ===== PART A: goes FIRST, ahead of the names: the tables' words, and 'selects' of the private methods out of them =====
/-- a private method of a class that the tables say can be made, by its rows of tables_1 -/
def lw_okq (q : MethodName × Nat) : Prop := (q.1.cls ≠ "java/lang/invoke/MethodHandle" ∧ q.1.cls ≠ "java/lang/invoke/VarHandle") ∧ Cond.instantiable q.1.cls q.2 ∈ tables_1 ∧ Cond.privateMethod q.1 ∈ tables_1 ∧ Cond.instanceMethod q.1 ∈ tables_1
theorem lw_p0 : lw_okq (⟨"java/lang/Throwable", "fillInStackTrace", "(I)Ljava/lang/Throwable;"⟩, 6) := ⟨⟨by decide +kernel, by decide +kernel⟩, List.mem_of_getElem? (i := 179) (by decide +kernel), List.mem_of_getElem? (i := 177) (by decide +kernel), List.mem_of_getElem? (i := 178) (by decide +kernel)⟩
theorem lw_p1 : lw_okq (⟨"Dotpress$RuleBook", "addCells", "(LDotpress$Row;IIILDotpress$Pieces;)I"⟩, 5) := ⟨⟨by decide +kernel, by decide +kernel⟩, List.mem_of_getElem? (i := 48) (by decide +kernel), List.mem_of_getElem? (i := 334) (by decide +kernel), List.mem_of_getElem? (i := 335) (by decide +kernel)⟩
theorem lw_p2 : lw_okq (⟨"Dotpress$Text", "unmark", "(I)V"⟩, 7) := ⟨⟨by decide +kernel, by decide +kernel⟩, List.mem_of_getElem? (i := 227) (by decide +kernel), List.mem_of_getElem? (i := 354) (by decide +kernel), List.mem_of_getElem? (i := 355) (by decide +kernel)⟩
theorem lw_p3 : lw_okq (⟨"Dotpress$Text", "beginWord", "(II)V"⟩, 7) := ⟨⟨by decide +kernel, by decide +kernel⟩, List.mem_of_getElem? (i := 227) (by decide +kernel), List.mem_of_getElem? (i := 385) (by decide +kernel), List.mem_of_getElem? (i := 386) (by decide +kernel)⟩
theorem lw_p4 : lw_okq (⟨"Dotpress", "textNumbered", "(I)LDotpress$Text;"⟩, 7) := ⟨⟨by decide +kernel, by decide +kernel⟩, List.mem_of_getElem? (i := 26) (by decide +kernel), List.mem_of_getElem? (i := 403) (by decide +kernel), List.mem_of_getElem? (i := 404) (by decide +kernel)⟩
theorem lw_p5 : lw_okq (⟨"Dotpress", "textWithWord", "(II)LDotpress$Text;"⟩, 7) := ⟨⟨by decide +kernel, by decide +kernel⟩, List.mem_of_getElem? (i := 26) (by decide +kernel), List.mem_of_getElem? (i := 425) (by decide +kernel), List.mem_of_getElem? (i := 426) (by decide +kernel)⟩
theorem lw_p6 : lw_okq (⟨"Dotpress", "typedKey", "()I"⟩, 7) := ⟨⟨by decide +kernel, by decide +kernel⟩, List.mem_of_getElem? (i := 26) (by decide +kernel), List.mem_of_getElem? (i := 826) (by decide +kernel), List.mem_of_getElem? (i := 827) (by decide +kernel)⟩
theorem lw_p7 : lw_okq (⟨"Dotpress", "translateTexts", "()I"⟩, 7) := ⟨⟨by decide +kernel, by decide +kernel⟩, List.mem_of_getElem? (i := 26) (by decide +kernel), List.mem_of_getElem? (i := 871) (by decide +kernel), List.mem_of_getElem? (i := 872) (by decide +kernel)⟩
theorem lw_p8 : lw_okq (⟨"Dotpress", "planLine", "(LDotpress$Text;I)V"⟩, 7) := ⟨⟨by decide +kernel, by decide +kernel⟩, List.mem_of_getElem? (i := 26) (by decide +kernel), List.mem_of_getElem? (i := 956) (by decide +kernel), List.mem_of_getElem? (i := 957) (by decide +kernel)⟩
def lw_privs_1 : List (MethodName × Nat) := [(⟨"java/lang/Throwable", "fillInStackTrace", "(I)Ljava/lang/Throwable;"⟩, 6), (⟨"Dotpress$RuleBook", "addCells", "(LDotpress$Row;IIILDotpress$Pieces;)I"⟩, 5), (⟨"Dotpress$Text", "unmark", "(I)V"⟩, 7), (⟨"Dotpress$Text", "beginWord", "(II)V"⟩, 7), (⟨"Dotpress", "textNumbered", "(I)LDotpress$Text;"⟩, 7), (⟨"Dotpress", "textWithWord", "(II)LDotpress$Text;"⟩, 7), (⟨"Dotpress", "typedKey", "()I"⟩, 7), (⟨"Dotpress", "translateTexts", "()I"⟩, 7), (⟨"Dotpress", "planLine", "(LDotpress$Text;I)V"⟩, 7)]
theorem lw_r1 : ∀ q ∈ lw_privs_1, lw_okq q := List.forall_mem_cons.mpr ⟨lw_p0, List.forall_mem_cons.mpr ⟨lw_p1, List.forall_mem_cons.mpr ⟨lw_p2, List.forall_mem_cons.mpr ⟨lw_p3, List.forall_mem_cons.mpr ⟨lw_p4, List.forall_mem_cons.mpr ⟨lw_p5, List.forall_mem_cons.mpr ⟨lw_p6, List.forall_mem_cons.mpr ⟨lw_p7, List.forall_mem_cons.mpr ⟨lw_p8, fun _ h => absurd h List.not_mem_nil⟩⟩⟩⟩⟩⟩⟩⟩⟩
def lw_privs : List (MethodName × Nat) := lw_privs_1
def lw_tbl : List Cond := k2_sels lw_privs ++ tables_1
theorem lw_privs_ok : ∀ q ∈ lw_privs, lw_okq q := lw_r1
-- ===== end of PART A; then your names; then what follows =====
end
section
/-! ===== BEGIN words of one list among another's, by their places ===== -/
theorem goodIn_r {big : List Cond} (ws : List Cond) (ps : List Nat) (hp : ws = ps.filterMap (fun i => big[i]?)) (h : ws.all goodWord = true) : GoodIn big ws := by
  intro w hw
  have h1 := List.all_eq_true.mp h w hw
  rw [hp] at hw
  obtain ⟨i, -, hi⟩ := List.mem_filterMap.mp hw
  have hm : w ∈ big := by first | exact List.mem_of_getElem? hi | exact List.getElem?_mem hi
  exact ⟨hm, good_of_word h1⟩
theorem goodIn_app {big a b : List Cond} (ha : GoodIn big a) (hb : GoodIn big b) : GoodIn big (a ++ b) := fun w h => (List.mem_append.mp h).elim (ha w) (hb w)
theorem goodIn_ca {big a b : List Cond} {c : Cond} (ha : GoodIn big (c :: a)) (hb : GoodIn big b) : GoodIn big (c :: (a ++ b)) := fun w h => (List.mem_cons.mp h).elim (fun e => ha w (List.mem_cons.mpr (Or.inl e))) (fun h => (List.mem_append.mp h).elim (fun h => ha w (List.mem_cons.mpr (Or.inr h))) (hb w))
theorem goodIn_sub {big ws : List Cond} (hm : ∀ w ∈ ws, w ∈ big) (h : ws.all goodWord = true) : GoodIn big ws := fun w hw => ⟨hm w hw, good_of_word (List.all_eq_true.mp h w hw)⟩
/-! ===== END ===== -/

/-! ===== BEGIN exceptions that leave a method, and their catching by the caller (launches without stack traces) ===== -/
section VXA
/-! The laws vx_back, vx_callV, vx_callS, vx_callSW, vx_throw0, vx_throwS follow proofs of the library, with one case more: JvmDerived/Free/Laws.lean (Back.of_free), Shelf42/LK1.lean (callV, callS), Shelf/KitTraced.lean (throwNew0V, throwNewS). -/
/-- where a method has thrown q: the class by its name, the cell, what was written, the world -/
def vx_T (XC : String → State → State → Prop) (st : State) (q : Addr) (t : State) (mc ms : Nat) (free : Addr → Prop) : Prop :=
  ∃ (E : String) (ce : Cell) (L : List Loc), XC E st t ∧ t.heap[q]? = some ce ∧ ce.vm = .none ∧ st.vm.findClass E = some ce.cls ∧ st.WarmedH t.vm ∧ st.sameButNew ({ t with vm := st.vm } : State) L mc ms ∧ ∀ z ∈ L, free z.base
def vx_Q (Qc : Array Value → State → Outcome → State → Prop) (XC : String → State → State → Prop) (mc ms : Nat) (free : Addr → Prop) : Array Value → State → Outcome → State → Prop := fun a st o t =>
  (Qc a st o t ∧ ∃ L, FrameEnd st o t L mc ms ∧ ∀ q ∈ L, free q.base) ∨ ∃ q, o = .threw q ∧ vx_T XC st q t mc ms free
/-- a callee that returns or throws -/
def vx_Met (l : Launch) (y : MethodName) (ws : List Cond) (rm : Room) (Pc : Array Value → State → Prop) (Qc : Array Value → State → Outcome → State → Prop) (XC : String → State → State → Prop) (mc ms : Nat) (free : Addr → Prop) : Prop :=
  MetFree l y (headSpec ws rm) Pc (fun _ _ _ _ _ => True) (vx_Q Qc XC mc ms free)
def vx_Post (XC : String → State → State → Prop) (mc ms : Nat) (free : Addr → Prop) : Pt → Array Value → Addr → Pt → Prop := fun A a q B =>
  ∃ (g : JFrame) (mk : MethodId) (t : State) (L : List Loc) (E : String) (ce : Cell), B.U.heap = t.heap ∧ B.U.vm = t.vm ∧ XC E (A.U.calling g mk a) t ∧ t.heap[q]? = some ce ∧ ce.vm = .none ∧ A.U.vm.findClass E = some ce.cls ∧ B.locs = A.locs ++ L ∧ (∀ z ∈ L, free z.base) ∧ B.cells = A.cells + mc ∧ B.slots = A.slots + ms
def vx_Back (l : Launch) (R : Room) (p : Program) (e : Env) (below : List Frame) (s : State) (sargs : Array Value) (y : MethodName) (len W9 : Nat)
    (Pre : Pt → Array Value → Prop) (Post : Pt → Array Value → Option Value → Pt → Prop) (PostX : Pt → Array Value → Addr → Pt → Prop) : Prop :=
  ∀ (m : MethodId) (meth : Method) (c : Code) (A : Pt) (g : JFrame) (ig : Instr) (mk : MethodId) (a : Array Value),
    Stand p l e R s m sargs below meth c A.U A.locs A.cells A.slots → g.method = m → g.locals.size = c.maxLocals → decode c.code g.pc = .ok (ig, len) →
    2 * g.monitorRoom + (g.stack.map fun v => v.category).sum ≤ W9 → A.U.methodNamed? y = some mk → Pre A a →
    (∃ (v : Option Value) (B : Pt), Stand p l e R s m sargs below meth c B.U B.locs B.cells B.slots ∧ Post A a v B ∧
      Steps p.tables e below (doInvoke e (A.U.setTop g) [] mk a).1 (B.U.setTop { g with pc := g.pc + len, stack := v.toList ++ g.stack })) ∨
    (∃ (q : Addr) (B : Pt), Stand p l e R s m sargs below meth c B.U B.locs B.cells B.slots ∧ PostX A a q B ∧
      Steps p.tables e below (doInvoke e (A.U.setTop g) [] mk a).1 ((B.U.setTop g).pushFrame (.throwing q)))
section Payer
variable {l : Launch} {R : Room} {p : Program} {e : Env} {below : List Frame} {s : State} {sargs : Array Value} {y : MethodName} {len W9 : Nat}
theorem vx_back {ws : List Cond} {rm : Room} {Pc : Array Value → State → Prop} {Qc : Array Value → State → Outcome → State → Prop} {XC : String → State → State → Prop} {mc ms : Nat} {free : Addr → Prop} {bytes : ByteArray} {maxL : Nat} {ret : Option FieldType}
    (hM : vx_Met l y ws rm Pc Qc XC mc ms free) (hblind : FrameBlind Pc) (hrc : rm.cells = mc) (hrs : rm.slots = ms)
    (hframes : rm.frames + 1 ≤ R.frames) (hlocals : W9 + (maxL + 11) + rm.locals ≤ R.locals)
    (hws : ∀ w ∈ ws, ∀ a' U, s.WarmedH U.vm → w.before a' U = true) (hcode : Cond.code y bytes maxL ret ∈ ws) (hinit : ∀ a' U, s.WarmedH U.vm → (Cond.initialized y.cls).before a' U = true) :
    vx_Back l R p e below s sargs y len W9 (PreOf R mc ms Pc) (PostOf Qc mc ms free) (vx_Post XC mc ms free) := by
  intro m meth c A g ig mk a X hg hsize hdg hW hn hp
  have h1 : (headSpec ws rm).pre.before a A.U = true := atoms_intro fun w hw => hws w hw _ _ X.warmed
  have h2 : (Cond.code y bytes maxL ret).before a A.U = true := hws _ hcode _ _ X.warmed
  have h3 : (Cond.initialized y.cls).before a A.U = true := hinit _ _ X.warmed
  have h4 : A.cells + (headSpec ws rm).room.cells ≤ R.cells := by rw [show (headSpec ws rm).room.cells = mc from hrc]; exact hp.1
  have h5 : A.slots + (headSpec ws rm).room.slots ≤ R.slots := by rw [show (headSpec ws rm).room.slots = ms from hrs]; exact hp.2.1
  have hPc : Pc a (A.U.calling g mk a) := hblind _ _ _ _ hp.2.2
  obtain ⟨U, Ls, c0, s0⟩ := A
  dsimp only [Pt.U, Pt.locs, Pt.cells, Pt.slots] at h1 h2 h3 h4 h5 X hn hPc ⊢
  obtain ⟨methY, cY, hmY, hcY, -, hlY, -, -, -, -⟩ := Cond.code_spec hn h2
  obtain ⟨kY, hkY, -⟩ := className_of_methodNamed hn
  have hinitY : kY.init = .initialized := Cond.initialized_spec (findClass_of_methodNamed hn) hkY h3
  have h : At U g.method c below := by rw [hg]; exact X.here
  have hlocals9 : W9 + (maxL + 11) + (headSpec ws rm).room.locals ≤ R.locals := hlocals
  have happ : (headSpec ws rm).appliesLoose y e.platform (U.calling g mk a) = true :=
    Spec.appliesLoose_calling (g := g) h hdg hn hkY hinitY
      (X.room_calling (g := g) (R' := (headSpec ws rm).room) hsize hmY hcY hframes (by rw [hlY]; omega) h4 h5) h1
  obtain ⟨mid, hmid⟩ := h.above
  have hfr : (U.setTop g).frames = (.java g :: mid) ++ below := by rw [State.frames_setTop' g h.top, hmid]; rfl
  obtain ⟨o, s₂, hsteps, -, hend, hq⟩ := Steps.callFree hM p X.admits X.cas X.clock (acts := []) hfr happ hPc trivial
  have hq' : vx_Q Qc XC mc ms free a (U.calling g mk a) o s₂ := hq
  rw [State.frames_setTop' g h.top] at hend
  obtain ⟨g₀, hg0⟩ := Option.isSome_iff_exists.mp h.top
  obtain ⟨r, hr⟩ := State.topJava?_eq_some.mp hg0
  have hr' : (({ U with heap := s₂.heap, slotsUsed := s₂.slotsUsed } : State).setVm s₂.vm).frames = .java g₀ :: r := hr
  rcases hq' with ⟨hqc, L, hfe, hL⟩ | ⟨q, rfl, E, ce, L, hx, hce, hcv, hcl, hW₂, hsm, hL⟩
  · obtain ⟨⟨v, rfl⟩, hW₂, e2, q2, q3, q4, q5, q6⟩ := id hfe
    have e3 : s₂ = ({ (U.calling g mk a).setFrames s₂.frames with heap := s₂.heap, slotsUsed := s₂.slotsUsed } : State).setVm s₂.vm := by
      have : s₂ = ({ s₂ with vm := (U.calling g mk a).vm } : State).setVm s₂.vm := rfl
      rw [e2] at this
      exact this
    obtain ⟨c₂, i₂, len₂, hc₂, hd₂, hf₂⟩ := hend
    have hW' : U.WarmedH s₂.vm := hW₂
    have hcc : c₂ = c := by
      have h1 : s₂.code? g.method = U.code? g.method := by
        rw [State.code?_eq, State.code?_eq, hW'.alike.method?]
      exact Option.some.inj (hc₂.symm.trans (h1.trans h.code))
    subst hcc
    have hlen : len₂ = len := by rw [hdg] at hd₂; cases hd₂; rfl
    subst hlen
    have hs₂ : s₂ = (({ U with heap := s₂.heap, slotsUsed := s₂.slotsUsed } : State).setVm s₂.vm).setTop { g with pc := g.pc + len₂, stack := v.toList ++ g.stack } := by
      refine e3.trans ?_
      rw [hf₂, State.calling_eq h.top, State.setFrames_setFrames, State.setTop_of_frames _ hr', hr]
      rfl
    have hsame : U.sameButNew ({ U with heap := s₂.heap, slotsUsed := s₂.slotsUsed } : State) L mc ms := by
      refine ⟨?_, q2, q3, q4, q5, q6⟩
      obtain ⟨t, ht, -⟩ := State.frames_cons hr
      show ({ U with heap := s₂.heap, slotsUsed := s₂.slotsUsed } : State) = { U.setFrames U.frames with heap := s₂.heap, slotsUsed := s₂.slotsUsed }
      rw [State.setFrames_self ht]
    subst hg
    refine Or.inl ⟨v, ⟨(({ U with heap := s₂.heap, slotsUsed := s₂.slotsUsed } : State).setVm s₂.vm), Ls ++ L, c0 + mc, s0 + ms⟩,
      ⟨X.admits, X.cas, X.clock, X.frames, X.room, X.hears, X.method, X.code, (X.here.setHeapUsed s₂.heap s₂.slotsUsed).setVm hW'.alike, X.tail, State.WarmedH.trans X.warmed hW', X.limits, X.bytes, X.same.trans (hsame.setVm s.vm)⟩,
      ⟨g, mk, s₂, L, rfl, rfl, hqc, rfl, hL, rfl, rfl⟩, ?_⟩
    show Steps p.tables e below _ ((({ U with heap := s₂.heap, slotsUsed := s₂.slotsUsed } : State).setVm s₂.vm).setTop { g with pc := g.pc + len₂, stack := v.toList ++ g.stack })
    rw [← hs₂]
    exact hsteps
  · obtain ⟨e2, q2, q3, q4, q5, q6⟩ := id hsm
    have e3 : s₂ = ({ (U.calling g mk a).setFrames s₂.frames with heap := s₂.heap, slotsUsed := s₂.slotsUsed } : State).setVm s₂.vm := by
      have : s₂ = ({ s₂ with vm := (U.calling g mk a).vm } : State).setVm s₂.vm := rfl
      rw [e2] at this
      exact this
    have hf₂ : s₂.frames = .throwing q :: .java g :: U.frames.tail := hend
    have hW' : U.WarmedH s₂.vm := hW₂
    have hs₂ : s₂ = ((({ U with heap := s₂.heap, slotsUsed := s₂.slotsUsed } : State).setVm s₂.vm).setTop g).pushFrame (.throwing q) := by
      refine e3.trans ?_
      rw [hf₂, State.calling_eq h.top, State.setFrames_setFrames, State.pushFrame, State.frames_setTop _ hr', State.setTop_of_frames _ hr', State.setFrames_setFrames, hr]
      rfl
    have hsame : U.sameButNew ({ U with heap := s₂.heap, slotsUsed := s₂.slotsUsed } : State) L mc ms := by
      refine ⟨?_, q2, q3, q4, q5, q6⟩
      obtain ⟨t, ht, -⟩ := State.frames_cons hr
      show ({ U with heap := s₂.heap, slotsUsed := s₂.slotsUsed } : State) = { U.setFrames U.frames with heap := s₂.heap, slotsUsed := s₂.slotsUsed }
      rw [State.setFrames_self ht]
    subst hg
    refine Or.inr ⟨q, ⟨(({ U with heap := s₂.heap, slotsUsed := s₂.slotsUsed } : State).setVm s₂.vm), Ls ++ L, c0 + mc, s0 + ms⟩,
      ⟨X.admits, X.cas, X.clock, X.frames, X.room, X.hears, X.method, X.code, (X.here.setHeapUsed s₂.heap s₂.slotsUsed).setVm hW'.alike, X.tail, State.WarmedH.trans X.warmed hW', X.limits, X.bytes, X.same.trans (hsame.setVm s.vm)⟩,
      ⟨g, mk, s₂, L, E, ce, rfl, rfl, hx, hce, hcv, hcl, rfl, hL, rfl, rfl⟩, ?_⟩
    show Steps p.tables e below _ (((({ U with heap := s₂.heap, slotsUsed := s₂.slotsUsed } : State).setVm s₂.vm).setTop g).pushFrame (.throwing q))
    rw [← hs₂]
    exact hsteps
end Payer
section Calls
variable {p : Program} {l : Launch} {e : Env} {R : Room} {s : State} {m : MethodId} {args : Array Value} {below : List Frame} {meth : Method} {c : Code} {T : State} {locs : List Loc} {cells slots : Nat}
theorem vx_callV (X : Stand p l e R s m args below meth c T locs cells slots) (hexec : p.tables.exec = Jvm.exec) {own C : String} {index : Nat} {y : MethodName} {bytes : ByteArray} {maxL : Nat} {ret : Option FieldType}
    (hown : s.vm.findClass own = some m.cls) (hlink : (Cond.methodLink own index y).before args s = true) (hinst : (Cond.instanceMethod y).before args s = true) (hsel : (Cond.selects C y y).before args s = true)
    (hcode : (Cond.code y bytes maxL ret).before args s = true) (hy : y.cls ≠ "java/lang/invoke/MethodHandle" ∧ y.cls ≠ "java/lang/invoke/VarHandle")
    {W9 : Nat} {Pre : Pt → Array Value → Prop} {Post : Pt → Array Value → Option Value → Pt → Prop} {PostX : Pt → Array Value → Addr → Pt → Prop} (hK : vx_Back l R p e below s args y 3 W9 Pre Post PostX)
    {b : Addr} {cellB : Cell} (hcell : T.heap[b]? = some cellB) (hobj : cellB.vm.isStatics = false) (hcls : s.vm.findClass C = some cellB.cls)
    {g : JFrame} (hg : g.method = m) (hsize : g.locals.size = c.maxLocals) {argsL rest : List Value} (hlen : ∀ sig, parseMethodDescriptor y.desc = some sig → argsL.length = sig.parameters.length)
    (hstack : g.stack = argsL.reverse ++ .ref b :: rest) (hW : 2 * g.monitorRoom + (rest.map fun v => v.category).sum ≤ W9) (hdg : decode c.code g.pc = .ok (.invokevirtual index, 3))
    (hpre : ∀ vm₁, s.WarmedH vm₁ → Pre ⟨T.setVm vm₁, locs, cells, slots⟩ (Value.ref b :: argsL).toArray) :
    (∃ (v : Option Value) (vm₁ : Vm) (B : Pt), s.WarmedH vm₁ ∧ Stand p l e R s m args below meth c B.U B.locs B.cells B.slots ∧ Post ⟨T.setVm vm₁, locs, cells, slots⟩ (Value.ref b :: argsL).toArray v B ∧
      ∀ target, Steps p.tables e below (B.U.setTop { g with pc := g.pc + 3, stack := v.toList ++ rest }) target → Steps p.tables e below (T.setTop g) target) ∨
    (∃ (q : Addr) (vm₁ : Vm) (B : Pt), s.WarmedH vm₁ ∧ Stand p l e R s m args below meth c B.U B.locs B.cells B.slots ∧ PostX ⟨T.setVm vm₁, locs, cells, slots⟩ (Value.ref b :: argsL).toArray q B ∧
      Steps p.tables e below (T.setTop g) ((B.U.setTop { g with stack := rest }).pushFrame (.throwing q))) := by
  obtain ⟨mk, methM, hnamed, hmethM, hstM, habM⟩ := Cond.instanceMethod_spec hinst
  obtain ⟨methM', cM, hmethM', -, -, -, -, -, -, hsigM⟩ := Cond.code_spec hnamed hcode
  cases hmethM.symm.trans hmethM'
  obtain ⟨c2, r2, m2, q1, q2, q3, q4, kP, hkP, hkPi⟩ := Cond.selects_spec hsel
  cases hcls.symm.trans q1
  cases (State.methodFound?_of_named hnamed hy).symm.trans q2
  cases hnamed.symm.trans q3
  have hselP : selectMethod e.platform s.vm cellB.cls mk = .method mk := by rw [Launch.admits_selectMethod X.admits]; exact q4
  obtain ⟨vm₁, X₁, hstep₁⟩ := X.invokevirtual hexec hown hlink hnamed hmethM hstM hkP hkPi hy (a := b) (cell := cellB) hcell
    (fun z h => by rw [h] at hobj; cases hobj) hselP hmethM habM hkP hkPi (g := g) hg (argsL := argsL) (rest := rest) (hlen _ hsigM) hstack hdg
  rcases hK m meth c ⟨T.setVm vm₁, locs, cells, slots⟩ { g with stack := rest } (.invokevirtual index) mk (Value.ref b :: argsL).toArray X₁ hg hsize hdg hW (X₁.named hnamed) (hpre vm₁ X₁.warmed) with ⟨v, B, X', hpost, hsteps⟩ | ⟨q, B, X', hpost, hsteps⟩
  · exact Or.inl ⟨v, vm₁, B, X₁.warmed, X', hpost, fun target h => hstep₁ _ fun acts => by rw [doInvoke_state]; exact hsteps.trans h⟩
  · exact Or.inr ⟨q, vm₁, B, X₁.warmed, X', hpost, hstep₁ _ fun acts => by rw [doInvoke_state]; exact hsteps⟩
theorem vx_callS (X : Stand p l e R s m args below meth c T locs cells slots) (hexec : p.tables.exec = Jvm.exec) {own : String} {index : Nat} {y : MethodName} {bytes : ByteArray} {maxL : Nat} {ret : Option FieldType}
    (hown : s.vm.findClass own = some m.cls) (hlink : (Cond.methodLink own index y).before args s = true) (hstat : (Cond.static y).before args s = true) (hinit : (Cond.initialized y.cls).before args s = true)
    (hcode : (Cond.code y bytes maxL ret).before args s = true) (hy : y.cls ≠ "java/lang/invoke/MethodHandle" ∧ y.cls ≠ "java/lang/invoke/VarHandle")
    {W9 : Nat} {Pre : Pt → Array Value → Prop} {Post : Pt → Array Value → Option Value → Pt → Prop} {PostX : Pt → Array Value → Addr → Pt → Prop} (hK : vx_Back l R p e below s args y 3 W9 Pre Post PostX)
    {g : JFrame} (hg : g.method = m) (hsize : g.locals.size = c.maxLocals) {argsL rest : List Value} (hlen : ∀ sig, parseMethodDescriptor y.desc = some sig → argsL.length = sig.parameters.length)
    (hstack : g.stack = argsL.reverse ++ rest) (hW : 2 * g.monitorRoom + (rest.map fun v => v.category).sum ≤ W9) (hdg : decode c.code g.pc = .ok (.invokestatic index, 3))
    (hpre : ∀ vm₁, s.WarmedH vm₁ → Pre ⟨T.setVm vm₁, locs, cells, slots⟩ argsL.toArray) :
    (∃ (v : Option Value) (vm₁ : Vm) (B : Pt), s.WarmedH vm₁ ∧ Stand p l e R s m args below meth c B.U B.locs B.cells B.slots ∧ Post ⟨T.setVm vm₁, locs, cells, slots⟩ argsL.toArray v B ∧
      ∀ target, Steps p.tables e below (B.U.setTop { g with pc := g.pc + 3, stack := v.toList ++ rest }) target → Steps p.tables e below (T.setTop g) target) ∨
    (∃ (q : Addr) (vm₁ : Vm) (B : Pt), s.WarmedH vm₁ ∧ Stand p l e R s m args below meth c B.U B.locs B.cells B.slots ∧ PostX ⟨T.setVm vm₁, locs, cells, slots⟩ argsL.toArray q B ∧
      Steps p.tables e below (T.setTop g) ((B.U.setTop { g with stack := rest }).pushFrame (.throwing q))) := by
  obtain ⟨mk, hnamed⟩ := Cond.code_named hcode
  obtain ⟨methM, cM, hmethM, -, -, -, -, -, -, hsigM⟩ := Cond.code_spec hnamed hcode
  have hstatic : methM.isStatic = true := Cond.static_spec hnamed hmethM hstat
  obtain ⟨kP, hkP, -⟩ := className_of_methodNamed hnamed
  have hinitP : kP.init = .initialized := Cond.initialized_spec (findClass_of_methodNamed hnamed) hkP hinit
  obtain ⟨vm₁, X₁, hstep₁⟩ := X.invokestatic hexec hown hlink hnamed hmethM hstatic hkP hinitP hy (g := g) hg (argsL := argsL) (rest := rest) (hlen _ hsigM) hstack hdg
  rcases hK m meth c ⟨T.setVm vm₁, locs, cells, slots⟩ { g with stack := rest } (.invokestatic index) mk argsL.toArray X₁ hg hsize hdg hW (X₁.named hnamed) (hpre vm₁ X₁.warmed) with ⟨v, B, X', hpost, hsteps⟩ | ⟨q, B, X', hpost, hsteps⟩
  · exact Or.inl ⟨v, vm₁, B, X₁.warmed, X', hpost, fun target h => hstep₁ _ fun acts => by rw [doInvoke_state]; exact hsteps.trans h⟩
  · exact Or.inr ⟨q, vm₁, B, X₁.warmed, X', hpost, hstep₁ _ fun acts => by rw [doInvoke_state]; exact hsteps⟩
end Calls
theorem vx_cls {s : State} {T : State} {vm₁ : Vm} {E : String} {k : ClassId} (hW : s.WarmedH vm₁) (h : (T.setVm vm₁).vm.findClass E = some k) : s.vm.findClass E = some k := by
  have h1 : vm₁.findClass E = some k := h
  rw [hW.alike.findClass] at h1
  exact h1
/-- the method's frame g, with q thrown over it -/
def vx_W (p : Program) (l : Launch) (e : Env) (R : Room) (s : State) (m : MethodId) (args : Array Value) (below : List Frame) (meth : Method) (c : Code) (H : Heap) (locs : List Loc) (cells slots : Nat) (Q : State → Prop) (g : JFrame) (q : Addr) : Prop :=
  ∀ T : State, T.heap = H → Stand p l e R s m args below meth c T locs cells slots → ∃ t, Steps p.tables e below ((T.setTop g).pushFrame (.throwing q)) t ∧ Q t
def vx_Run (p : Program) (l : Launch) (e : Env) (R : Room) (s : State) (m : MethodId) (args : Array Value) (below : List Frame) (meth : Method) (c : Code) (H : Heap) (locs : List Loc) (cells slots mc ms : Nat) (g : JFrame) (rest : List Value) (Qa : State → Outcome → State → Prop) (XC : String → State → State → Prop) (free : Addr → Prop) : Prop :=
  ∀ T : State, T.heap = H → Stand p l e R s m args below meth c T locs cells slots →
    (∃ (v : Option Value) (st₀ t T' : State) (L : List Loc), st₀.heap = H ∧ Stand p l e R s m args below meth c T' (locs ++ L) (cells + mc) (slots + ms) ∧ (∀ q ∈ L, free q.base) ∧ T'.heap = t.heap ∧ T'.vm = t.vm ∧ Qa st₀ (.returned v) t ∧
      Goes p e below T g T' { g with pc := g.pc + 3, stack := v.toList ++ rest }) ∨
    (∃ (q : Addr) (st₀ t T' : State) (L : List Loc) (E : String) (ce : Cell), st₀.heap = H ∧ Stand p l e R s m args below meth c T' (locs ++ L) (cells + mc) (slots + ms) ∧ (∀ z ∈ L, free z.base) ∧ T'.heap = t.heap ∧ T'.vm = t.vm ∧ XC E st₀ t ∧ t.heap[q]? = some ce ∧ ce.vm = .none ∧ s.vm.findClass E = some ce.cls ∧
      Steps p.tables e below (T.setTop g) ((T'.setTop { g with stack := rest }).pushFrame (.throwing q)))
def vx_X {S : Type} (px : S → Prop) (B : String → S → State → Prop) (A : Nat → Prop) : String → State → State → Prop := fun E st t => ∃ u : S, px u ∧ B E u t ∧ va_F A st t
section Runs
variable {p : Program} {l : Launch} {e : Env} {R : Room} {s : State} {m : MethodId} {args : Array Value} {below : List Frame} {meth : Method} {c : Code} {H : Heap} {locs : List Loc} {cells slots : Nat}
variable {y : MethodName} {bytes cc : ByteArray} {maxL nL mc ms n index : Nat} {ret : Option FieldType} {ws : List Cond} {rm : Room} {Pc : Array Value → State → Prop} {Qc : Array Value → State → Outcome → State → Prop} {XC : String → State → State → Prop} {free : Addr → Prop} {Ts : List Cond} {own C : String} {b : Addr} {As rest : List Value} {g : JFrame}
theorem vx_callBack (cb : CallB R s args own index y bytes maxL ret ws rm mc ms n) (hM : vx_Met l y ws rm Pc Qc XC mc ms free) (hbl : FrameBlind Pc) : vx_Back l R p e below s args y 3 8 (PreOf R mc ms Pc) (PostOf Qc mc ms free) (vx_Post XC mc ms free) := by
  obtain ⟨hrc, hrs, hfr, hlo, hws, hcw, -, hini, -⟩ := cb
  exact vx_back (bytes := bytes) (maxL := maxL) (ret := ret) hM hbl hrc hrs hfr hlo hws hcw (fun a' U hW => word_at hW (Or.inl (by first | rfl | simp [Cond.onTables, Cond.keeps, Cond.steady])) hini)
theorem vx_runV (S : CallFix p m c cc nL s args Ts own) (hM : vx_Met l y ws rm Pc Qc XC mc ms free) (cw : CallW R s args own C index y bytes maxL ret ws rm mc ms n) (hp : PreV s H C b Pc As)
    (hg : g.method = m) (hn : As.length = n) (hsize : g.locals.size = nL) (hstack : g.stack = As.reverse ++ .ref b :: rest) (hW : 2 * g.monitorRoom + (rest.map fun v => v.category).sum ≤ 8) (hdg : decode cc g.pc = .ok (.invokevirtual index, 3)) (hf : cells + mc ≤ R.cells ∧ slots + ms ≤ R.slots) :
    vx_Run p l e R s m args below meth c H locs cells slots mc ms g rest (Qc (Value.ref b :: As).toArray) XC free := by
  have hK : vx_Back l R p e below s args y 3 8 (PreOf R mc ms Pc) (PostOf Qc mc ms free) (vx_Post XC mc ms free) := vx_callBack cw.1 hM hp.1
  obtain ⟨⟨-, -, -, -, -, -, hcode, -, hy, hlen, hl⟩, hin, hse⟩ := cw
  obtain ⟨hx, hb, hml, ho, -⟩ := S
  obtain ⟨-, ⟨cellB, hcB, hoB, hclB⟩, hPc⟩ := hp
  intro T hT X
  rcases vx_callV X hx (C := C) (bytes := bytes) (maxL := maxL) (ret := ret) ho hl hin hse hcode hy hK (by rw [hT]; exact hcB) hoB hclB hg (hsize.trans hml.symm) (argsL := As) (rest := rest) (fun sig h => hn.trans (hlen sig h)) hstack hW (by rw [hb]; exact hdg)
    (fun vm₁ hW₁ => ⟨hf.1, hf.2, hPc (T.setVm vm₁) hT hW₁⟩) with ⟨v, vm₁, ⟨U', l2, c2, s2⟩, hW₁, X', ⟨g', mk, t, L, e1, e2, hq, h1, hL, h2, h3⟩, st⟩ | ⟨q, vm₁, ⟨U', l2, c2, s2⟩, hW₁, X', ⟨g', mk, t, L, E, ce, e1, e2, hq, hce, hcv, hcl, h1, hL, h2, h3⟩, st⟩
  · dsimp only [Pt.U, Pt.locs, Pt.cells, Pt.slots] at X' e1 e2 h1 h2 h3 st
    subst h1; subst h2; subst h3
    exact Or.inl ⟨v, (T.setVm vm₁).calling g' mk (Value.ref b :: As).toArray, t, U', L, hT, X', hL, e1, e2, hq, st⟩
  · dsimp only [Pt.U, Pt.locs, Pt.cells, Pt.slots] at X' e1 e2 h1 h2 h3 st hcl
    subst h1; subst h2; subst h3
    exact Or.inr ⟨q, (T.setVm vm₁).calling g' mk (Value.ref b :: As).toArray, t, U', L, E, ce, hT, X', hL, e1, e2, hq, hce, hcv, vx_cls hW₁ hcl, st⟩
theorem vx_runS (S : CallFix p m c cc nL s args Ts own) (hM : vx_Met l y ws rm Pc Qc XC mc ms free) (cw : CallB R s args own index y bytes maxL ret ws rm mc ms n ∧ (Cond.static y).before args s = true) (hp : PreS s H Pc As)
    (hg : g.method = m) (hn : As.length = n) (hsize : g.locals.size = nL) (hstack : g.stack = As.reverse ++ rest) (hW : 2 * g.monitorRoom + (rest.map fun v => v.category).sum ≤ 8) (hdg : decode cc g.pc = .ok (.invokestatic index, 3)) (hf : cells + mc ≤ R.cells ∧ slots + ms ≤ R.slots) :
    vx_Run p l e R s m args below meth c H locs cells slots mc ms g rest (Qc As.toArray) XC free := by
  have hK : vx_Back l R p e below s args y 3 8 (PreOf R mc ms Pc) (PostOf Qc mc ms free) (vx_Post XC mc ms free) := vx_callBack cw.1 hM hp.1
  obtain ⟨⟨-, -, -, -, -, -, hcode, hini, hy, hlen, hl⟩, hstt⟩ := cw
  obtain ⟨hx, hb, hml, ho, -⟩ := S
  intro T hT X
  rcases vx_callS X hx (bytes := bytes) (maxL := maxL) (ret := ret) ho hl hstt hini hcode hy hK hg (hsize.trans hml.symm) (argsL := As) (rest := rest) (fun sig h => hn.trans (hlen sig h)) hstack hW (by rw [hb]; exact hdg)
    (fun vm₁ hW₁ => ⟨hf.1, hf.2, hp.2 (T.setVm vm₁) hT hW₁⟩) with ⟨v, vm₁, ⟨U', l2, c2, s2⟩, hW₁, X', ⟨g', mk, t, L, e1, e2, hq, h1, hL, h2, h3⟩, st⟩ | ⟨q, vm₁, ⟨U', l2, c2, s2⟩, hW₁, X', ⟨g', mk, t, L, E, ce, e1, e2, hq, hce, hcv, hcl, h1, hL, h2, h3⟩, st⟩
  · dsimp only [Pt.U, Pt.locs, Pt.cells, Pt.slots] at X' e1 e2 h1 h2 h3 st
    subst h1; subst h2; subst h3
    exact Or.inl ⟨v, (T.setVm vm₁).calling g' mk As.toArray, t, U', L, hT, X', hL, e1, e2, hq, st⟩
  · dsimp only [Pt.U, Pt.locs, Pt.cells, Pt.slots] at X' e1 e2 h1 h2 h3 st hcl
    subst h1; subst h2; subst h3
    exact Or.inr ⟨q, (T.setVm vm₁).calling g' mk As.toArray, t, U', L, E, ce, hT, X', hL, e1, e2, hq, hce, hcv, vx_cls hW₁ hcl, st⟩
end Runs
section Rows
variable {p : Program} {l : Launch} {e : Env} {R : Room} {s : State} {m : MethodId} {args : Array Value} {below : List Frame} {meth : Method} {c : Code} {H : Heap} {locs : List Loc} {cells slots : Nat} {Q : State → Prop}
variable {mc ms : Nat} {free : Addr → Prop} {A0 A1 : Nat → Prop} {H0 : Heap} {a : Array Value} {pc : Nat} {ls : Array Slot} {st0 rest : List Value}
theorem vx_keep {st₀ t T' : State} {L : List Loc} (h0 : st₀.heap = H) (e1 : T'.heap = t.heap) (hS : va_S A0 H0 H locs) (hA : ∀ q, q < H.size → A1 q → A0 q) (hf : ∀ q, free q → A0 q) (hL : ∀ q ∈ L, free q.base) (hF : va_F A1 st₀ t) :
    H.size ≤ T'.heap.size ∧ (∀ q : Nat, q < H.size → ¬ A1 q → T'.heap[q]? = H[q]?) ∧ va_S A0 H0 T'.heap (locs ++ L) := by
  obtain ⟨hz, hk⟩ := hF
  rw [h0] at hz hk
  exact ⟨by rw [e1]; exact hz, fun q h1 h2 => by rw [e1]; exact hk q h1 h2,
    ⟨Nat.le_trans hS.1 (by rw [e1]; exact hz), fun q h1 h2 => by rw [e1, hk q (Nat.lt_of_lt_of_le h1 hS.1) (fun z => h2 (hA q (Nat.lt_of_lt_of_le h1 hS.1) z))]; exact hS.2.1 q h1 h2, fun q hq => by
      rcases List.mem_append.mp hq with h | h
      · exact hS.2.2 q h
      · exact hf _ (hL q h)⟩⟩
theorem vx_calli {S SX : Type} {post : Int32 → S → Prop} {px : SX → Prop} {B : S → State → Prop} {BX : String → SX → State → Prop} {AX : Nat → Prop} (hr : vx_Run p l e R s m args below meth c H locs cells slots mc ms (F0 m pc ls st0) rest (va_Qi post B A1 a) (vx_X px BX AX) free) (hS : va_S A0 H0 H locs) (hA : ∀ q, q < H.size → A1 q → A0 q) (hf : ∀ q, free q → A0 q) (hAX : ∀ q, q < H.size → AX q → A0 q)
    (kx : ∀ (E : String) (ce : Cell) (q9 : Addr) (u : SX) (t : State) (H1 : Heap) (locs1 : List Loc), t.heap = H1 → s.vm.Alike t.vm → px u → BX E u t → H.size ≤ H1.size → (∀ q : Nat, q < H.size → ¬ AX q → H1[q]? = H[q]?) → va_S A0 H0 H1 locs1 → H1[q9]? = some ce → ce.vm = .none → s.vm.findClass E = some ce.cls → vx_W p l e R s m args below meth c H1 locs1 (cells + mc) (slots + ms) Q (F0 m pc ls rest) q9)
    (kk : ∀ (r : Int32) (u : S) (t : State) (H1 : Heap) (locs1 : List Loc), t.heap = H1 → s.vm.Alike t.vm → post r u → B u t → H.size ≤ H1.size → (∀ q : Nat, q < H.size → ¬ A1 q → H1[q]? = H[q]?) → va_S A0 H0 H1 locs1 → W p l e R s m args below meth c H1 locs1 (cells + mc) (slots + ms) Q (F0 m (pc + 3) ls (.int r :: rest))) : W p l e R s m args below meth c H locs cells slots Q (F0 m pc ls st0) := by
  intro T hT X
  rcases hr T hT X with ⟨v, st₀, t, T', L, h0, X', hL, e1, e2, ⟨⟨r, u, hv, hp, hb⟩, hF⟩, st⟩ | ⟨q, st₀, t, T', L, E, ce, h0, X', hL, e1, e2, ⟨u, hp, hb, hF⟩, hce, hcv, hcl, st⟩
  · cases hv
    obtain ⟨k1, k2, k3⟩ := vx_keep h0 e1 hS hA hf hL hF
    obtain ⟨t2, a1, b1⟩ := kk r u t T'.heap (locs ++ L) e1.symm (by rw [← e2]; exact X'.warmed.alike) hp hb k1 k2 k3 T' rfl X'
    exact ⟨t2, st t2 a1, b1⟩
  · obtain ⟨k1, k2, k3⟩ := vx_keep h0 e1 hS hAX hf hL hF
    obtain ⟨t2, a1, b1⟩ := kx E ce q u t T'.heap (locs ++ L) e1.symm (by rw [← e2]; exact X'.warmed.alike) hp hb k1 k2 k3 (by rw [e1]; exact hce) hcv hcl T' rfl X'
    exact ⟨t2, st.trans a1, b1⟩
theorem vx_calll {S SX : Type} {post : Int64 → S → Prop} {px : SX → Prop} {B : S → State → Prop} {BX : String → SX → State → Prop} {AX : Nat → Prop} (hr : vx_Run p l e R s m args below meth c H locs cells slots mc ms (F0 m pc ls st0) rest (va_Ql post B A1 a) (vx_X px BX AX) free) (hS : va_S A0 H0 H locs) (hA : ∀ q, q < H.size → A1 q → A0 q) (hf : ∀ q, free q → A0 q) (hAX : ∀ q, q < H.size → AX q → A0 q)
    (kx : ∀ (E : String) (ce : Cell) (q9 : Addr) (u : SX) (t : State) (H1 : Heap) (locs1 : List Loc), t.heap = H1 → s.vm.Alike t.vm → px u → BX E u t → H.size ≤ H1.size → (∀ q : Nat, q < H.size → ¬ AX q → H1[q]? = H[q]?) → va_S A0 H0 H1 locs1 → H1[q9]? = some ce → ce.vm = .none → s.vm.findClass E = some ce.cls → vx_W p l e R s m args below meth c H1 locs1 (cells + mc) (slots + ms) Q (F0 m pc ls rest) q9)
    (kk : ∀ (r : Int64) (u : S) (t : State) (H1 : Heap) (locs1 : List Loc), t.heap = H1 → s.vm.Alike t.vm → post r u → B u t → H.size ≤ H1.size → (∀ q : Nat, q < H.size → ¬ A1 q → H1[q]? = H[q]?) → va_S A0 H0 H1 locs1 → W p l e R s m args below meth c H1 locs1 (cells + mc) (slots + ms) Q (F0 m (pc + 3) ls (.long r :: rest))) : W p l e R s m args below meth c H locs cells slots Q (F0 m pc ls st0) := by
  intro T hT X
  rcases hr T hT X with ⟨v, st₀, t, T', L, h0, X', hL, e1, e2, ⟨⟨r, u, hv, hp, hb⟩, hF⟩, st⟩ | ⟨q, st₀, t, T', L, E, ce, h0, X', hL, e1, e2, ⟨u, hp, hb, hF⟩, hce, hcv, hcl, st⟩
  · cases hv
    obtain ⟨k1, k2, k3⟩ := vx_keep h0 e1 hS hA hf hL hF
    obtain ⟨t2, a1, b1⟩ := kk r u t T'.heap (locs ++ L) e1.symm (by rw [← e2]; exact X'.warmed.alike) hp hb k1 k2 k3 T' rfl X'
    exact ⟨t2, st t2 a1, b1⟩
  · obtain ⟨k1, k2, k3⟩ := vx_keep h0 e1 hS hAX hf hL hF
    obtain ⟨t2, a1, b1⟩ := kx E ce q u t T'.heap (locs ++ L) e1.symm (by rw [← e2]; exact X'.warmed.alike) hp hb k1 k2 k3 (by rw [e1]; exact hce) hcv hcl T' rfl X'
    exact ⟨t2, st.trans a1, b1⟩
theorem vx_callf {S SX : Type} {post : UInt32 → S → Prop} {px : SX → Prop} {B : S → State → Prop} {BX : String → SX → State → Prop} {AX : Nat → Prop} (hr : vx_Run p l e R s m args below meth c H locs cells slots mc ms (F0 m pc ls st0) rest (va_Qf post B A1 a) (vx_X px BX AX) free) (hS : va_S A0 H0 H locs) (hA : ∀ q, q < H.size → A1 q → A0 q) (hf : ∀ q, free q → A0 q) (hAX : ∀ q, q < H.size → AX q → A0 q)
    (kx : ∀ (E : String) (ce : Cell) (q9 : Addr) (u : SX) (t : State) (H1 : Heap) (locs1 : List Loc), t.heap = H1 → s.vm.Alike t.vm → px u → BX E u t → H.size ≤ H1.size → (∀ q : Nat, q < H.size → ¬ AX q → H1[q]? = H[q]?) → va_S A0 H0 H1 locs1 → H1[q9]? = some ce → ce.vm = .none → s.vm.findClass E = some ce.cls → vx_W p l e R s m args below meth c H1 locs1 (cells + mc) (slots + ms) Q (F0 m pc ls rest) q9)
    (kk : ∀ (r : UInt32) (u : S) (t : State) (H1 : Heap) (locs1 : List Loc), t.heap = H1 → s.vm.Alike t.vm → post r u → B u t → H.size ≤ H1.size → (∀ q : Nat, q < H.size → ¬ A1 q → H1[q]? = H[q]?) → va_S A0 H0 H1 locs1 → W p l e R s m args below meth c H1 locs1 (cells + mc) (slots + ms) Q (F0 m (pc + 3) ls (.float r :: rest))) : W p l e R s m args below meth c H locs cells slots Q (F0 m pc ls st0) := by
  intro T hT X
  rcases hr T hT X with ⟨v, st₀, t, T', L, h0, X', hL, e1, e2, ⟨⟨r, u, hv, hp, hb⟩, hF⟩, st⟩ | ⟨q, st₀, t, T', L, E, ce, h0, X', hL, e1, e2, ⟨u, hp, hb, hF⟩, hce, hcv, hcl, st⟩
  · cases hv
    obtain ⟨k1, k2, k3⟩ := vx_keep h0 e1 hS hA hf hL hF
    obtain ⟨t2, a1, b1⟩ := kk r u t T'.heap (locs ++ L) e1.symm (by rw [← e2]; exact X'.warmed.alike) hp hb k1 k2 k3 T' rfl X'
    exact ⟨t2, st t2 a1, b1⟩
  · obtain ⟨k1, k2, k3⟩ := vx_keep h0 e1 hS hAX hf hL hF
    obtain ⟨t2, a1, b1⟩ := kx E ce q u t T'.heap (locs ++ L) e1.symm (by rw [← e2]; exact X'.warmed.alike) hp hb k1 k2 k3 (by rw [e1]; exact hce) hcv hcl T' rfl X'
    exact ⟨t2, st.trans a1, b1⟩
theorem vx_calld {S SX : Type} {post : UInt64 → S → Prop} {px : SX → Prop} {B : S → State → Prop} {BX : String → SX → State → Prop} {AX : Nat → Prop} (hr : vx_Run p l e R s m args below meth c H locs cells slots mc ms (F0 m pc ls st0) rest (va_Qd post B A1 a) (vx_X px BX AX) free) (hS : va_S A0 H0 H locs) (hA : ∀ q, q < H.size → A1 q → A0 q) (hf : ∀ q, free q → A0 q) (hAX : ∀ q, q < H.size → AX q → A0 q)
    (kx : ∀ (E : String) (ce : Cell) (q9 : Addr) (u : SX) (t : State) (H1 : Heap) (locs1 : List Loc), t.heap = H1 → s.vm.Alike t.vm → px u → BX E u t → H.size ≤ H1.size → (∀ q : Nat, q < H.size → ¬ AX q → H1[q]? = H[q]?) → va_S A0 H0 H1 locs1 → H1[q9]? = some ce → ce.vm = .none → s.vm.findClass E = some ce.cls → vx_W p l e R s m args below meth c H1 locs1 (cells + mc) (slots + ms) Q (F0 m pc ls rest) q9)
    (kk : ∀ (r : UInt64) (u : S) (t : State) (H1 : Heap) (locs1 : List Loc), t.heap = H1 → s.vm.Alike t.vm → post r u → B u t → H.size ≤ H1.size → (∀ q : Nat, q < H.size → ¬ A1 q → H1[q]? = H[q]?) → va_S A0 H0 H1 locs1 → W p l e R s m args below meth c H1 locs1 (cells + mc) (slots + ms) Q (F0 m (pc + 3) ls (.double r :: rest))) : W p l e R s m args below meth c H locs cells slots Q (F0 m pc ls st0) := by
  intro T hT X
  rcases hr T hT X with ⟨v, st₀, t, T', L, h0, X', hL, e1, e2, ⟨⟨r, u, hv, hp, hb⟩, hF⟩, st⟩ | ⟨q, st₀, t, T', L, E, ce, h0, X', hL, e1, e2, ⟨u, hp, hb, hF⟩, hce, hcv, hcl, st⟩
  · cases hv
    obtain ⟨k1, k2, k3⟩ := vx_keep h0 e1 hS hA hf hL hF
    obtain ⟨t2, a1, b1⟩ := kk r u t T'.heap (locs ++ L) e1.symm (by rw [← e2]; exact X'.warmed.alike) hp hb k1 k2 k3 T' rfl X'
    exact ⟨t2, st t2 a1, b1⟩
  · obtain ⟨k1, k2, k3⟩ := vx_keep h0 e1 hS hAX hf hL hF
    obtain ⟨t2, a1, b1⟩ := kx E ce q u t T'.heap (locs ++ L) e1.symm (by rw [← e2]; exact X'.warmed.alike) hp hb k1 k2 k3 (by rw [e1]; exact hce) hcv hcl T' rfl X'
    exact ⟨t2, st.trans a1, b1⟩
theorem vx_callv {S SX : Type} {post : S → Prop} {px : SX → Prop} {B : S → State → Prop} {BX : String → SX → State → Prop} {AX : Nat → Prop} (hr : vx_Run p l e R s m args below meth c H locs cells slots mc ms (F0 m pc ls st0) rest (va_Qv post B A1 a) (vx_X px BX AX) free) (hS : va_S A0 H0 H locs) (hA : ∀ q, q < H.size → A1 q → A0 q) (hf : ∀ q, free q → A0 q) (hAX : ∀ q, q < H.size → AX q → A0 q)
    (kx : ∀ (E : String) (ce : Cell) (q9 : Addr) (u : SX) (t : State) (H1 : Heap) (locs1 : List Loc), t.heap = H1 → s.vm.Alike t.vm → px u → BX E u t → H.size ≤ H1.size → (∀ q : Nat, q < H.size → ¬ AX q → H1[q]? = H[q]?) → va_S A0 H0 H1 locs1 → H1[q9]? = some ce → ce.vm = .none → s.vm.findClass E = some ce.cls → vx_W p l e R s m args below meth c H1 locs1 (cells + mc) (slots + ms) Q (F0 m pc ls rest) q9)
    (kk : ∀ (u : S) (t : State) (H1 : Heap) (locs1 : List Loc), t.heap = H1 → s.vm.Alike t.vm → post u → B u t → H.size ≤ H1.size → (∀ q : Nat, q < H.size → ¬ A1 q → H1[q]? = H[q]?) → va_S A0 H0 H1 locs1 → W p l e R s m args below meth c H1 locs1 (cells + mc) (slots + ms) Q (F0 m (pc + 3) ls (rest))) : W p l e R s m args below meth c H locs cells slots Q (F0 m pc ls st0) := by
  intro T hT X
  rcases hr T hT X with ⟨v, st₀, t, T', L, h0, X', hL, e1, e2, ⟨⟨u, hv, hp, hb⟩, hF⟩, st⟩ | ⟨q, st₀, t, T', L, E, ce, h0, X', hL, e1, e2, ⟨u, hp, hb, hF⟩, hce, hcv, hcl, st⟩
  · cases hv
    obtain ⟨k1, k2, k3⟩ := vx_keep h0 e1 hS hA hf hL hF
    obtain ⟨t2, a1, b1⟩ := kk u t T'.heap (locs ++ L) e1.symm (by rw [← e2]; exact X'.warmed.alike) hp hb k1 k2 k3 T' rfl X'
    exact ⟨t2, st t2 a1, b1⟩
  · obtain ⟨k1, k2, k3⟩ := vx_keep h0 e1 hS hAX hf hL hF
    obtain ⟨t2, a1, b1⟩ := kx E ce q u t T'.heap (locs ++ L) e1.symm (by rw [← e2]; exact X'.warmed.alike) hp hb k1 k2 k3 (by rw [e1]; exact hce) hcv hcl T' rfl X'
    exact ⟨t2, st.trans a1, b1⟩
/-- caught by the row x of this method's table; the rows ahead don't take it -/
theorem vx_catch {own name : String} {E : String} {ce : Cell} {q : Addr} (hown : s.vm.findClass own = some m.cls) (pre : List ExceptionTableEntry) (x : ExceptionTableEntry) (suf : List ExceptionTableEntry) (hsplit : c.exceptionTable.toList = pre ++ x :: suf)
    (hpass : ∀ z ∈ pre, covers z pc = false ∨ (z.catchType ≠ 0 ∧ ∃ nm : String, (Cond.classLink own z.catchType nm).before args s = true ∧ va_Nc E nm s)) (hx : covers x pc = true) (h0 : x.catchType ≠ 0)
    (hlink : (Cond.classLink own x.catchType name).before args s = true) (hcast : (Cond.castable E name).before args s = true) (hcell : H[q]? = some ce) (hv : ce.vm = .none) (hcl : s.vm.findClass E = some ce.cls)
    (kk : W p l e R s m args below meth c H locs cells slots Q (F0 m x.handlerPc ls [.ref q])) : vx_W p l e R s m args below meth c H locs cells slots Q (F0 m pc ls rest) q := by
  intro T hT X
  have hpl : e.platform.magicAccessors = ({} : Platform).magicAccessors := by rw [X.admits.platform]
  obtain ⟨c3, c4, hc3, hc4, hasg⟩ := Cond.castable_spec hcast
  cases Option.some.inj (hc3.symm.trans hcl)
  obtain ⟨c5, hc5, hcl5⟩ := Cond.classLink_spec hown hlink e.platform hpl
  cases Option.some.inj (hc4.symm.trans hc5)
  obtain ⟨vm', X', st⟩ := X.thenCaughtThrough q (g := F0 m pc ls rest) rfl (Steps.refl _) (by rw [hT]; exact hcell) (by rw [hv]; rfl) (by obtain ⟨k9, h9, -⟩ := Vm.findClass_spec hcl; exact ⟨k9, h9⟩) pre x suf hsplit
    (fun z hz => by
      rcases hpass z hz with h | ⟨hz0, nm, hl1, hn1⟩
      · exact Or.inl h
      · obtain ⟨c6, hc6, hcl6⟩ := Cond.classLink_spec hown hl1 e.platform hpl
        obtain ⟨a8, b8, h1, h2, h3⟩ := hn1
        cases Option.some.inj (h1.symm.trans hcl)
        cases Option.some.inj (h2.symm.trans hc6)
        exact Or.inr ⟨hz0, _, hcl6, h3⟩) hx (Or.inr ⟨h0, c4, hcl5, hasg⟩)
  obtain ⟨t, a1, b1⟩ := kk (T.setVm vm') hT X'
  exact ⟨t, st.trans a1, b1⟩
end Rows
section Ends
variable {p : Program} {l : Launch} {e : Env} {R : Room} {s : State} {m : MethodId} {args : Array Value} {below : List Frame} {meth : Method} {c : Code} {H : Heap} {locs : List Loc} {cells slots : Nat} {Q : State → Prop}
variable {mc ms : Nat} {free : Addr → Prop} {A0 A1 : Nat → Prop} {H0 : Heap} {a : Array Value} {ls : Array Slot} {st0 rest : List Value}
variable {Qc : Array Value → State → Outcome → State → Prop} {XC : String → State → State → Prop}
/-- what a body that may throw owes at its end -/
def vx_MQ (below : List Frame) (Qc : Array Value → State → Outcome → State → Prop) (XC : String → State → State → Prop) (a : Array Value) (s : State) (mc ms : Nat) (free : Addr → Prop) : State → Prop := fun t =>
  ∃ o, t.status = .running ∧ Ended t below o ∧ vx_Q Qc XC mc ms free a s o t
theorem vx_ret {g : JFrame} {mc ms : Nat} (k : W p l e R s m args below meth c H locs cells slots (MQ below Qc args s mc ms free) g) : W p l e R s m args below meth c H locs cells slots (vx_MQ below Qc XC args s mc ms free) g := by
  intro T hT X
  obtain ⟨t, a1, o, b1, b2, b3, b4⟩ := k T hT X
  exact ⟨t, a1, o, b1, b2, Or.inl ⟨b3, b4⟩⟩
/-- not caught here: it goes on to the caller -/
theorem vx_widen {g : JFrame} {q : Addr} {k n : Nat} (h1 : cells ≤ k) (h2 : slots ≤ n) (kk : vx_W p l e R s m args below meth c H locs k n Q g q) : vx_W p l e R s m args below meth c H locs cells slots Q g q := fun T hT X => kk T hT (stand_widen X h1 h2)
theorem vx_out {pc : Nat} {E : String} {ce : Cell} {q : Addr} {mc ms : Nat} (hout : ∀ x ∈ c.exceptionTable.toList, covers x pc = false) (hlocks : meth.locks = false) (hcell : H[q]? = some ce) (hv : ce.vm = .none) (hcl : s.vm.findClass E = some ce.cls)
    (hx : ∀ t : State, t.heap = H → s.vm.Alike t.vm → XC E s t) (hf : ∀ z ∈ locs, free z.base) (hc : cells ≤ mc) (hs : slots ≤ ms) :
    vx_W p l e R s m args below meth c H locs cells slots (vx_MQ below Qc XC args s mc ms free) (F0 m pc ls rest) q := by
  intro T hT X
  obtain ⟨st1, hrun, hend, hW, hsm⟩ := X.leaveThrown q (g := F0 m pc ls rest) rfl rfl rfl hout hlocks
  have hcell9 : (T.setFrames (.throwing q :: below)).heap[q]? = some ce := by
    show T.heap[q]? = some ce
    rw [hT]; exact hcell
  exact ⟨_, st1, .threw q, hrun, hend, Or.inr ⟨q, rfl, E, ce, locs, hx _ hT hW.alike, hcell9, hv, hcl, hW, hsm.mono hc hs, hf⟩⟩
theorem vx_frame {U : State} {k n : Nat} (h : s.sameButNew ({ U with vm := s.vm } : State) locs k n) : s.heap.size ≤ U.heap.size ∧ ∀ q : Nat, q < s.heap.size → (∀ z ∈ locs, z.base ≠ q) → U.heap[q]? = s.heap[q]? := by
  obtain ⟨-, h2, -, -, -, h6⟩ := h
  refine ⟨h2, fun q hq hz => ?_⟩
  obtain ⟨c9, e1, e2, e3, e4⟩ := h6 q _ (Array.getElem?_eq_getElem hq)
  have hs : c9.slots = (s.heap[q]).slots := Array.ext_getElem? fun i => e4 i fun hm => hz _ hm rfl
  have h9 : c9 = s.heap[q] := by
    rw [hs] at e2
    exact e2
  have e5 : U.heap[q]? = some c9 := e1
  rw [e5, h9, Array.getElem?_eq_getElem hq]
/-- the words of a throw but the four that speak of the heap -/
def vx_no (w : Cond) : Bool := decide (w ≠ .isRef (.static Bundle.tN "UNASSIGNED_STACK" Bundle.steD)) && decide (w ≠ .isRef (.static Bundle.tN "SUPPRESSED_SENTINEL" Bundle.listD)) && decide (w ≠ .laysStatic Bundle.tN "UNASSIGNED_STACK" Bundle.steD) && decide (w ≠ .laysStatic Bundle.tN "SUPPRESSED_SENTINEL" Bundle.listD)
def vx_at0 (own : String) (ic : Nat) (X : String) (names : List String) : List Cond := (Bundle.ownAtoms0 own ic X names).filter vx_no
def vx_atS (own : String) (ic : Nat) (X : String) (names : List String) : List Cond := (Bundle.ownAtoms own ic X names).filter vx_no
/-- a word that the tables alone decide, or a good one -/
def vx_ot (w : Cond) : Bool := w.onTables || goodWord w
theorem vx_ot_at {args a' : Array Value} {s U : State} {w : Cond} (hW : s.WarmedH U.vm) (hvm : s.vm = U.vm) (hg : vx_ot w = true) (h : w.before args s = true) : w.before a' U = true := by
  simp only [vx_ot, Bool.or_eq_true] at hg
  rcases hg with hg | hg
  · exact va_tabs hg hvm h
  · exact word_at hW (good_of_word hg) h
/-- a list's words: the good ones out of the method's own list, the others by premises of their own -/
theorem vx_hat {args : Array Value} {s : State} {L B : List Cond} (h1 : ∀ w ∈ L.filter goodWord, w.before args s = true) (h2 : ∀ w ∈ L.filter (fun w => !goodWord w), w ∈ B) (h3 : ∀ w ∈ B, w.before args s = true) : ∀ w ∈ L, w.before args s = true := by
  intro w hw
  by_cases g : goodWord w = true
  · exact h1 w (List.mem_filter.mpr ⟨hw, g⟩)
  · refine h3 w (h2 w (List.mem_filter.mpr ⟨hw, ?_⟩))
    show (!goodWord w) = true
    cases hgw : goodWord w
    · rfl
    · exact absurd hgw g
theorem vx_c {args : Array Value} {s : State} {w : Cond} {B : List Cond} (h : w.before args s = true) (t : ∀ w ∈ B, w.before args s = true) : ∀ w' ∈ w :: B, w'.before args s = true := fun w' h' => (List.mem_cons.mp h').elim (fun e => by rw [e]; exact h) (t w')
theorem vx_n {args : Array Value} {s : State} : ∀ w ∈ ([] : List Cond), w.before args s = true := fun _ h => nomatch h
theorem vx_own {args : Array Value} {s : State} {L : List Cond} (h1 : ∀ w ∈ L.filter vx_no, w.before args s = true)
    (hU : (Cond.isRef (.static Bundle.tN "UNASSIGNED_STACK" Bundle.steD)).before args s = true) (hN : (Cond.isRef (.static Bundle.tN "SUPPRESSED_SENTINEL" Bundle.listD)).before args s = true)
    (lU : (Cond.laysStatic Bundle.tN "UNASSIGNED_STACK" Bundle.steD).before args s = true) (lN : (Cond.laysStatic Bundle.tN "SUPPRESSED_SENTINEL" Bundle.listD).before args s = true) : ∀ w ∈ L, w.before args s = true := by
  intro w hw
  by_cases e1 : w = .isRef (.static Bundle.tN "UNASSIGNED_STACK" Bundle.steD)
  · rw [e1]; exact hU
  · by_cases e2 : w = .isRef (.static Bundle.tN "SUPPRESSED_SENTINEL" Bundle.listD)
    · rw [e2]; exact hN
    · by_cases e3 : w = .laysStatic Bundle.tN "UNASSIGNED_STACK" Bundle.steD
      · rw [e3]; exact lU
      · by_cases e4 : w = .laysStatic Bundle.tN "SUPPRESSED_SENTINEL" Bundle.listD
        · rw [e4]; exact lN
        · exact h1 w (List.mem_filter.mpr ⟨hw, by unfold vx_no; rw [decide_eq_true e1, decide_eq_true e2, decide_eq_true e3, decide_eq_true e4]; rfl⟩)
/-- where a static field lies, its class's statics cell in H -/
def vx_L (C n d : String) (A : Nat → Prop) (U : State) (H : Heap) : Prop := ∃ (c : ClassId) (k : Class) (i : Nat) (f : Field) (a : Nat) (cell : Cell), U.vm.findClass C = some c ∧ U.fieldFound? C n d = some (c, k, i, f) ∧ f.isStatic = true ∧ k.statics = some a ∧ H[a]? = some cell ∧ cell.vm.isStatics = true ∧ cell.cls = c ∧ f.slot < cell.slots.size ∧ k.staticTypes[f.slot]? = some f.type ∧ ¬ A a
theorem vx_L.moved {C n d : String} {A : Nat → Prop} {u U : State} {H : Heap} (hvm : u.vm.Alike U.vm) (h : vx_L C n d A u H) : vx_L C n d A U H := by
  obtain ⟨c, k, i, f, a, cell, h1, h2, h3, h4, h5, h6, h7, h8, h9, h10⟩ := h
  obtain ⟨k', hi', he⟩ := State.fieldFound?_setVm hvm h2
  exact ⟨c, k', i, f, a, cell, by rw [hvm.findClass]; exact h1, hi', h3, by rw [he]; exact h4, h5, h6, h7, h8, by rw [he]; exact h9, h10⟩
theorem vx_L.kept {C n d : String} {A : Nat → Prop} {U : State} {H H1 : Heap} (h : vx_L C n d A U H) (hq : ∀ a : Nat, a < H.size → ¬ A a → H1[a]? = H[a]?) : vx_L C n d A U H1 := by
  obtain ⟨c, k, i, f, a, cell, h1, h2, h3, h4, h5, h6, h7, h8, h9, h10⟩ := h
  exact ⟨c, k, i, f, a, cell, h1, h2, h3, h4, by rw [hq a (Array.getElem?_eq_some_iff.mp h5).1 h10]; exact h5, h6, h7, h8, h9, h10⟩
theorem vx_L.narrow {C n d : String} {A B : Nat → Prop} {U : State} {H : Heap} (h : vx_L C n d A U H) (hAB : ∀ q, B q → A q) : vx_L C n d B U H := by
  obtain ⟨c, k, i, f, a, cell, h1, h2, h3, h4, h5, h6, h7, h8, h9, h10⟩ := h
  exact ⟨c, k, i, f, a, cell, h1, h2, h3, h4, h5, h6, h7, h8, h9, fun z => h10 (hAB _ z)⟩
theorem vx_L.word {C n d : String} {A : Nat → Prop} {s : State} {args : Array Value} (h : vx_L C n d A s s.heap) : (Cond.laysStatic C n d).before args s = true := by
  obtain ⟨c, k, i, f, a, cell, h1, h2, h3, h4, h5, h6, h7, h8, h9, -⟩ := h
  show (Cond.laysStatic C n d).holds args s none s [] = true
  exact Cond.laysStatic_of h1 h2 h3 h4 h5 h6 h7 h8 h9
/-- .. and what it holds: null or some reference -/
def vx_Zq (C n d : String) (A : Nat → Prop) (U : State) (H : Heap) : Prop := va_Zq C n d A U H ∧ vx_L C n d A U H
theorem vx_Zq.moved {C n d : String} {A : Nat → Prop} {u U : State} {H : Heap} (hvm : u.vm.Alike U.vm) (h : vx_Zq C n d A u H) : vx_Zq C n d A U H := ⟨va_Zq.moved hvm h.1, vx_L.moved hvm h.2⟩
theorem vx_Zq.kept {C n d : String} {A : Nat → Prop} {U : State} {H H1 : Heap} (h : vx_Zq C n d A U H) (hq : ∀ a : Nat, a < H.size → ¬ A a → H1[a]? = H[a]?) : vx_Zq C n d A U H1 := ⟨va_Zq.kept h.1 hq, vx_L.kept h.2 hq⟩
theorem vx_Zq.narrow {C n d : String} {A B : Nat → Prop} {U : State} {H : Heap} (h : vx_Zq C n d A U H) (hAB : ∀ q, B q → A q) : vx_Zq C n d B U H := ⟨va_Zq.narrow h.1 hAB, vx_L.narrow h.2 hAB⟩
theorem vx_Zqof {args : Array Value} {s : State} {C n d : String} {A : Nat → Prop} (hl : (Cond.laysStatic C n d).before args s = true) (hini : (Cond.initialized C).before args s = true) (h : (Cond.isRef (.static C n d)).before args s = true) (hA : ∀ a : Nat, a < s.heap.size → ¬ A a) : vx_Zq C n d A s s.heap := by
  refine ⟨va_Zqof hl hini h hA, ?_⟩
  obtain ⟨c, k, i, f, a, cell, h1, h2, h3, h4, h5, h6, h7, h8, h9⟩ := Cond.laysStatic_spec hl
  exact ⟨c, k, i, f, a, cell, h1, h2, h3, h4, h5, h6, h7, h8, h9, hA a (Array.getElem?_eq_some_iff.mp h5).1⟩
theorem vx_isRef {C n d : String} {v : Value} {A : Nat → Prop} {s : State} {args : Array Value} (h : va_Z C n d v A s s.heap) (hv : v.isRef = true) : (Cond.isRef (.static C n d)).before args s = true := by
  obtain ⟨cf, kf, fi, f, a, cell, h1, h2, h3, h4, h5, h6, h7, -⟩ := h
  have he : (Term.static C n d).eval args s none [] s = some v := by
    simp [Term.eval, State.fieldNamed?, h1, h2, h4, h5, h6, h7]
  simp only [Cond.before, Cond.holds, Cond.value, he]
  cases v <;> simp_all [Value.isRef]
theorem vx_isRefq {C n d : String} {A : Nat → Prop} {s : State} {args : Array Value} (h : va_Zq C n d A s s.heap) : (Cond.isRef (.static C n d)).before args s = true := by
  rcases h with h | ⟨t, h⟩
  · exact vx_isRef h rfl
  · exact vx_isRef h rfl
/-- the same frame, seen from here: as if the method were called anew in this heap -/
theorem vx_rebase {T : State} (X : Stand p l e R s m args below meth c T locs cells slots) {R' : Room} (hf : R'.frames ≤ R.frames) (hl : R'.locals ≤ R.locals) (hc : cells + R'.cells ≤ R.cells) (hs : slots + R'.slots ≤ R.slots) :
    Stand p l e R' ((T.setVm s.vm).setFrames (.invoking m args :: below)) m args below meth c T [] 0 0 := by
  have htop : (T.setVm s.vm).topJava?.isSome := X.here.top
  have hF : ((T.setVm s.vm).setFrames (.invoking m args :: below)).frames = .invoking m args :: below := State.frames_setFrames _ (State.cur_lt_of_top htop)
  obtain ⟨g₀, hg0⟩ := Option.isSome_iff_exists.mp htop
  obtain ⟨r, hr⟩ := State.topJava?_eq_some.mp hg0
  have hl9 : e.platform.stackLimits (T.setVm s.vm).me = e.platform.stackLimits s.me := X.limits
  have hb9 : (T.setVm s.vm).me.stackBytes = s.me.stackBytes := X.bytes
  refine ⟨X.admits, X.cas, X.clock, hF, ?_, X.hears, X.method, X.code, X.here, X.tail, X.warmed, ?_, ?_, ?_⟩
  · have h := X.room
    have hU : ((T.setVm s.vm).setFrames (.invoking m args :: below)).localsInUse = s.localsInUse := by
      rw [State.localsInUse_invoking hF (meth := meth) (c := c) X.method X.code, State.localsInUse_invoking X.frames X.method X.code]
    simp only [State.hasRoom, Bool.and_eq_true, decide_eq_true_eq] at h ⊢
    obtain ⟨⟨⟨⟨h1, h2, h3, h4, h5, h6⟩, h7⟩, h8⟩, h9⟩ := h
    rw [X.frames, List.length_cons] at h2 h3
    have q1 := X.heapSize
    have q2 := X.used
    simp only [hF, hU, List.length_cons, State.stackLimits_setFrames, State.stackBytes_setFrames, hl9, hb9]
    refine ⟨⟨⟨⟨by omega, by omega, by omega, by omega, by omega, h6⟩, ?_⟩, ?_⟩, X.book⟩
    · show T.heap.size + R'.cells ≤ e.platform.maxCells
      omega
    · show T.slotsUsed + R'.slots ≤ e.platform.maxSlots
      omega
  · rw [State.stackLimits_setFrames]; rfl
  · rw [State.stackBytes_setFrames]; rfl
  · refine ⟨?_, Nat.le_refl _, Nat.le_refl _, ?_, ?_, fun a c9 h9 => ⟨c9, h9, rfl, rfl, fun _ _ => rfl⟩⟩
    · obtain ⟨t, ht, -⟩ := State.frames_cons hr
      show T.setVm s.vm = { ((T.setVm s.vm).setFrames (.invoking m args :: below)).setFrames (T.setVm s.vm).frames with heap := T.heap, slotsUsed := T.slotsUsed }
      rw [State.setFrames_setFrames, State.setFrames_self ht]
      rfl
    · show T.slotsUsed = T.slotsUsed + ((T.heap.toList.drop T.heap.size).map (·.slots.size)).sum
      rw [List.drop_eq_nil_of_le (Nat.le_of_eq Array.length_toList)]
      rfl
    · show ((T.heap.toList.drop T.heap.size).map (·.slots.size)).sum ≤ 0
      rw [List.drop_eq_nil_of_le (Nat.le_of_eq Array.length_toList)]
      exact Nat.le_refl _
/-- 'throw new E()': new; dup; invokespecial; athrow -/
theorem vx_throw0 {cc : ByteArray} {pc : Nat} (hexec : p.tables.exec = Jvm.exec) (hb : c.code = cc) (hl : l.stackTraces = false) {own cls : String} {names : List String} {ik ic mc ms : Nat} {A : Nat → Prop}
    (hown : s.vm.findClass own = some m.cls) (hcls : Bundle.fit cls = true) (hnames : ∀ n ∈ names, Bundle.fit n = true)
    (hk : (Cond.classLink own ik cls).before args s = true) (hini : (Cond.initialized cls).before args s = true) (hat : ∀ w ∈ vx_at0 own ic cls names, w.before args s = true)
    (hgood : ∀ w ∈ Cond.classLink own ik cls :: Cond.initialized cls :: vx_at0 own ic cls names, vx_ot w = true)
    (hU : vx_Zq Bundle.tN "UNASSIGNED_STACK" Bundle.steD A s s.heap) (hN : vx_Zq Bundle.tN "SUPPRESSED_SENTINEL" Bundle.listD A s s.heap) (hS : va_S A s.heap H locs) (hsize : ls.size = c.maxLocals)
    (d0 : decode cc pc = .ok (.new ik, 3)) (d3 : decode cc (pc + 3) = .ok (.dup, 1)) (d4 : decode cc (pc + 4) = .ok (.invokespecial ic, 3)) (d7 : decode cc (pc + 7) = .ok (.athrow, 1))
    (hout : ∀ x ∈ c.exceptionTable.toList, covers x (pc + 7) = false)
    (hRframes : names.length + 3 < R.frames) (hRlocals : (rest.map fun v => v.category).sum + (13 * (names.length + 1) + 42) ≤ R.locals) (hRcells : cells + 1 ≤ R.cells) (hRslots : slots + 6 ≤ R.slots) (hlocks : meth.locks = false)
    (hx : ∀ t : State, s.vm.Alike t.vm → H.size ≤ t.heap.size → (∀ q : Nat, q < H.size → t.heap[q]? = H[q]?) → XC cls s t)
    (hf : ∀ z ∈ locs, free z.base) (hc : cells + 1 ≤ mc) (hs : slots + 6 ≤ ms) :
    W p l e R s m args below meth c H locs cells slots (vx_MQ below Qc XC args s mc ms free) (F0 m pc ls rest) := by
  intro T hT X
  have htr : e.platform.stackTraces = false := (show e.platform.stackTraces = l.stackTraces by rw [X.admits.platform]).trans hl
  have Y := vx_rebase X (R' := { frames := R.frames, locals := R.locals, cells := 1, slots := 6 }) (Nat.le_refl _) (Nat.le_refl _) hRcells hRslots
  obtain ⟨s', hA⟩ : ∃ z, z = (T.setVm s.vm).setFrames (.invoking m args :: below) := ⟨_, rfl⟩
  rw [← hA] at Y
  have hvm : s'.vm = s.vm := by rw [hA]; rfl
  have hhp : s'.heap = H := by rw [hA]; exact hT
  have hW0 : s.WarmedH s'.vm := by rw [hvm]; exact State.WarmedH.refl s
  have hat' : ∀ w ∈ vx_at0 own ic cls names, w.before args s' = true := fun w hw => vx_ot_at hW0 hvm.symm (hgood w (List.mem_cons_of_mem _ (List.mem_cons_of_mem _ hw))) (hat w hw)
  have hk' : (Cond.classLink own ik cls).before args s' = true := vx_ot_at hW0 hvm.symm (hgood _ List.mem_cons_self) hk
  have hini' : (Cond.initialized cls).before args s' = true := vx_ot_at hW0 hvm.symm (hgood _ (List.mem_cons_of_mem _ List.mem_cons_self)) hini
  have hU' : vx_Zq Bundle.tN "UNASSIGNED_STACK" Bundle.steD A s' s'.heap := by rw [hhp]; exact vx_Zq.moved hW0.alike (hU.kept hS.2.1)
  have hN' : vx_Zq Bundle.tN "SUPPRESSED_SENTINEL" Bundle.listD A s' s'.heap := by rw [hhp]; exact vx_Zq.moved hW0.alike (hN.kept hS.2.1)
  have h : ∀ w ∈ Bundle.ownAtoms0 own ic cls names, w.before args s' = true := vx_own hat' (vx_isRefq hU'.1) (vx_isRefq hN'.1) hU'.2.word hN'.2.word
  have hown' : s'.vm.findClass own = some m.cls := by rw [hvm]; exact hown
  have hins : (Cond.instantiable cls 6).before args s' = true := h _ (by simp [Bundle.ownAtoms0])
  obtain ⟨vm₁, cX, kX, hfX, hkX, -, -, X₁, st1⟩ := Y.newCold hexec (own := own) (C := cls) (index := ik) (n := 6) hown' hk' hins hini'
    (g := F0 m pc ls rest) rfl (by rw [hb]; exact d0) (Nat.le_refl _) (Nat.le_refl _)
  generalize hT1 : (T.setVm vm₁).pushCell { cls := cX, slots := kX.instanceTypes.map defaultValue, vm := .none } = T1 at X₁ st1
  have hcat : (Value.ref T.heap.size).category = 1 := rfl
  have hcellA : T1.heap[T.heap.size]? = some (freshCell cX kX) := by rw [← hT1]; exact State.heap_pushCell_size _ _
  have d3' : decode c.code (pc + 3) = .ok (.dup, 1) := by rw [hb]; exact d3
  obtain ⟨U, hsteps, hrun, hend, hW, hsame, ce, hce, hO⟩ := X₁.ctorThrow0 hexec htr (own := own) (cls := cls) (names := names) (ic := ic) hown' hcls hnames h (fun x hx => nomatch hx) hfX hkX hcellA (by rw [hhp, hT]; exact Nat.le_refl _)
    (g := { method := m, pc := pc + 4, locals := ls, stack := .ref T.heap.size :: .ref T.heap.size :: rest, locked := none }) rfl hsize rfl rfl (rest := rest) rfl
    (by rw [hb]; exact d4) (by rw [hb]; exact d7) hout hRframes (by simp only [List.map_cons, List.sum_cons, hcat]; omega) hlocks
  obtain ⟨f1, f2⟩ := vx_frame hsame
  rw [hhp] at f1 f2
  have hWs : s.WarmedH U.vm := State.WarmedH.trans hW0 hW
  have hcl : s.vm.findClass cls = some ce.cls := by
    have h9 := hO.cls
    rw [hvm] at h9
    exact h9
  have hall : s.sameButNew ({ U with vm := s.vm } : State) locs mc ms := by
    subst hA
    obtain ⟨e1, e2⟩ := hsame
    rw [State.setFrames_setFrames] at e1
    have h2 : (T.setVm s.vm).sameButNew ({ U with vm := s.vm } : State) [] (0 + 1) (0 + 6) := ⟨e1, e2⟩
    have h3 := X.same.trans h2
    rw [List.append_nil] at h3
    exact h3.mono hc hs
  refine ⟨U, ?_, .threw T.heap.size, hrun, hend, Or.inr ⟨T.heap.size, rfl, cls, ce, locs, hx U hWs.alike f1 (fun q hq => f2 q hq (fun z hz => nomatch hz)), hce, hO.vm, hcl, hWs, hall, hf⟩⟩
  refine st1 _ ?_
  show Steps p.tables e below (T1.setTop { method := m, pc := pc + 3, locals := ls, stack := .ref T.heap.size :: rest, locked := none }) _
  jvm_step X₁.here [X₁.here.top, hexec, d3', Value.category]
  exact hsteps
/-- 'throw new E("text")': new; dup; ldc; invokespecial; athrow -/
theorem vx_throwS {cc : ByteArray} {pc : Nat} (hexec : p.tables.exec = Jvm.exec) (hb : c.code = cc) (hl : l.stackTraces = false) {own cls text : String} {names : List String} {ik is ic mc ms sa : Nat} {A : Nat → Prop}
    (hown : s.vm.findClass own = some m.cls) (hcls : Bundle.fit cls = true) (hnames : ∀ n ∈ names, Bundle.fit n = true)
    (hk : (Cond.classLink own ik cls).before args s = true) (hini : (Cond.initialized cls).before args s = true) (hstr : vk_R own is text sa s) (hat : ∀ w ∈ vx_atS own ic cls names, w.before args s = true)
    (hgood : ∀ w ∈ Cond.classLink own ik cls :: Cond.initialized cls :: vx_atS own ic cls names, vx_ot w = true)
    (hU : vx_Zq Bundle.tN "UNASSIGNED_STACK" Bundle.steD A s s.heap) (hN : vx_Zq Bundle.tN "SUPPRESSED_SENTINEL" Bundle.listD A s s.heap) (hS : va_S A s.heap H locs) (hsize : ls.size = c.maxLocals)
    (d0 : decode cc pc = .ok (.new ik, 3)) (d3 : decode cc (pc + 3) = .ok (.dup, 1)) (d4 : decode cc (pc + 4) = .ok (.ldc is, 2)) (d6 : decode cc (pc + 6) = .ok (.invokespecial ic, 3)) (d9 : decode cc (pc + 9) = .ok (.athrow, 1))
    (hout : ∀ x ∈ c.exceptionTable.toList, covers x (pc + 9) = false)
    (hRframes : names.length + 3 < R.frames) (hRlocals : (rest.map fun v => v.category).sum + (13 * (names.length + 1) + 43) ≤ R.locals) (hRcells : cells + 1 ≤ R.cells) (hRslots : slots + 6 ≤ R.slots) (hlocks : meth.locks = false)
    (hx : ∀ t : State, s.vm.Alike t.vm → H.size ≤ t.heap.size → (∀ q : Nat, q < H.size → t.heap[q]? = H[q]?) → XC cls s t)
    (hf : ∀ z ∈ locs, free z.base) (hc : cells + 1 ≤ mc) (hs : slots + 6 ≤ ms) :
    W p l e R s m args below meth c H locs cells slots (vx_MQ below Qc XC args s mc ms free) (F0 m pc ls rest) := by
  intro T hT X
  have htr : e.platform.stackTraces = false := (show e.platform.stackTraces = l.stackTraces by rw [X.admits.platform]).trans hl
  have Y := vx_rebase X (R' := { frames := R.frames, locals := R.locals, cells := 1, slots := 6 }) (Nat.le_refl _) (Nat.le_refl _) hRcells hRslots
  obtain ⟨s', hA⟩ : ∃ z, z = (T.setVm s.vm).setFrames (.invoking m args :: below) := ⟨_, rfl⟩
  rw [← hA] at Y
  have hvm : s'.vm = s.vm := by rw [hA]; rfl
  have hhp : s'.heap = H := by rw [hA]; exact hT
  have hW0 : s.WarmedH s'.vm := by rw [hvm]; exact State.WarmedH.refl s
  have hat' : ∀ w ∈ vx_atS own ic cls names, w.before args s' = true := fun w hw => vx_ot_at hW0 hvm.symm (hgood w (List.mem_cons_of_mem _ (List.mem_cons_of_mem _ hw))) (hat w hw)
  have hk' : (Cond.classLink own ik cls).before args s' = true := vx_ot_at hW0 hvm.symm (hgood _ List.mem_cons_self) hk
  have hini' : (Cond.initialized cls).before args s' = true := vx_ot_at hW0 hvm.symm (hgood _ (List.mem_cons_of_mem _ List.mem_cons_self)) hini
  have hU' : vx_Zq Bundle.tN "UNASSIGNED_STACK" Bundle.steD A s' s'.heap := by rw [hhp]; exact vx_Zq.moved hW0.alike (hU.kept hS.2.1)
  have hN' : vx_Zq Bundle.tN "SUPPRESSED_SENTINEL" Bundle.listD A s' s'.heap := by rw [hhp]; exact vx_Zq.moved hW0.alike (hN.kept hS.2.1)
  have h : ∀ w ∈ Bundle.ownAtoms own ic cls names, w.before args s' = true := vx_own hat' (vx_isRefq hU'.1) (vx_isRefq hN'.1) hU'.2.word hN'.2.word
  have hown' : s'.vm.findClass own = some m.cls := by rw [hvm]; exact hown
  have hins : (Cond.instantiable cls 6).before args s' = true := h _ (by simp [Bundle.ownAtoms])
  obtain ⟨vm₁, cX, kX, hfX, hkX, -, -, X₁, st1⟩ := Y.newCold hexec (own := own) (C := cls) (index := ik) (n := 6) hown' hk' hins hini'
    (g := F0 m pc ls rest) rfl (by rw [hb]; exact d0) (Nat.le_refl _) (Nat.le_refl _)
  generalize hT1 : (T.setVm vm₁).pushCell { cls := cX, slots := kX.instanceTypes.map defaultValue, vm := .none } = T1 at X₁ st1
  have hcat : (Value.ref T.heap.size).category = 1 := rfl
  have hcellA : T1.heap[T.heap.size]? = some (freshCell cX kX) := by rw [← hT1]; exact State.heap_pushCell_size _ _
  have d3' : decode c.code (pc + 3) = .ok (.dup, 1) := by rw [hb]; exact d3
  have d4' : decode c.code (pc + 4) = .ok (.ldc is, 2) := by rw [hb]; exact d4
  have hstr' : vk_R own is text sa s' := vk_R.warm hW0 hstr
  obtain ⟨U, hsteps, hrun, hend, hW, hsame, ce, hce, hO⟩ := X₁.ctorThrowS hexec htr (own := own) (cls := cls) (names := names) (ic := ic) hown' hcls hnames h (fun x hx => nomatch hx) hfX hkX hcellA (by rw [hhp, hT]; exact Nat.le_refl _) (msg := .ref sa) rfl
    (g := { method := m, pc := pc + 6, locals := ls, stack := .ref sa :: .ref T.heap.size :: .ref T.heap.size :: rest, locked := none }) rfl hsize rfl rfl (rest := rest) rfl
    (by rw [hb]; exact d6) (by rw [hb]; exact d9) hout hRframes (by simp only [List.map_cons, List.sum_cons, hcat]; omega) hlocks
  obtain ⟨f1, f2⟩ := vx_frame hsame
  rw [hhp] at f1 f2
  have hWs : s.WarmedH U.vm := State.WarmedH.trans hW0 hW
  have hcl : s.vm.findClass cls = some ce.cls := by
    have h9 := hO.cls
    rw [hvm] at h9
    exact h9
  have hall : s.sameButNew ({ U with vm := s.vm } : State) locs mc ms := by
    subst hA
    obtain ⟨e1, e2⟩ := hsame
    rw [State.setFrames_setFrames] at e1
    have h2 : (T.setVm s.vm).sameButNew ({ U with vm := s.vm } : State) [] (0 + 1) (0 + 6) := ⟨e1, e2⟩
    have h3 := X.same.trans h2
    rw [List.append_nil] at h3
    exact h3.mono hc hs
  refine ⟨U, ?_, .threw T.heap.size, hrun, hend, Or.inr ⟨T.heap.size, rfl, cls, ce, locs, hx U hWs.alike f1 (fun q hq => f2 q hq (fun z hz => nomatch hz)), hce, hO.vm, hcl, hWs, hall, hf⟩⟩
  refine st1 _ ?_
  show Steps p.tables e below (T1.setTop { method := m, pc := pc + 3, locals := ls, stack := .ref T.heap.size :: rest, locked := none }) _
  jvm_step X₁.here [X₁.here.top, hexec, d3', Value.category]
  exact X₁.ldcString hexec (own := own) (text := text) (index := is) (a := sa) hown' hstr'.1 hstr'.2
    (g := { method := m, pc := pc + 4, locals := ls, stack := .ref T.heap.size :: .ref T.heap.size :: rest, locked := none }) rfl d4' _ hsteps
/-- 'throw new E("text")', the text by a wide index -/
theorem vx_throwSW {cc : ByteArray} {pc : Nat} (hexec : p.tables.exec = Jvm.exec) (hb : c.code = cc) (hl : l.stackTraces = false) {own cls text : String} {names : List String} {ik is ic mc ms sa : Nat} {A : Nat → Prop}
    (hown : s.vm.findClass own = some m.cls) (hcls : Bundle.fit cls = true) (hnames : ∀ n ∈ names, Bundle.fit n = true)
    (hk : (Cond.classLink own ik cls).before args s = true) (hini : (Cond.initialized cls).before args s = true) (hstr : vk_R own is text sa s) (hat : ∀ w ∈ vx_atS own ic cls names, w.before args s = true)
    (hgood : ∀ w ∈ Cond.classLink own ik cls :: Cond.initialized cls :: vx_atS own ic cls names, vx_ot w = true)
    (hU : vx_Zq Bundle.tN "UNASSIGNED_STACK" Bundle.steD A s s.heap) (hN : vx_Zq Bundle.tN "SUPPRESSED_SENTINEL" Bundle.listD A s s.heap) (hS : va_S A s.heap H locs) (hsize : ls.size = c.maxLocals)
    (d0 : decode cc pc = .ok (.new ik, 3)) (d3 : decode cc (pc + 3) = .ok (.dup, 1)) (d4 : decode cc (pc + 4) = .ok (.ldc_w is, 3)) (d7 : decode cc (pc + 7) = .ok (.invokespecial ic, 3)) (d10 : decode cc (pc + 10) = .ok (.athrow, 1))
    (hout : ∀ x ∈ c.exceptionTable.toList, covers x (pc + 10) = false)
    (hRframes : names.length + 3 < R.frames) (hRlocals : (rest.map fun v => v.category).sum + (13 * (names.length + 1) + 43) ≤ R.locals) (hRcells : cells + 1 ≤ R.cells) (hRslots : slots + 6 ≤ R.slots) (hlocks : meth.locks = false)
    (hx : ∀ t : State, s.vm.Alike t.vm → H.size ≤ t.heap.size → (∀ q : Nat, q < H.size → t.heap[q]? = H[q]?) → XC cls s t)
    (hf : ∀ z ∈ locs, free z.base) (hc : cells + 1 ≤ mc) (hs : slots + 6 ≤ ms) :
    W p l e R s m args below meth c H locs cells slots (vx_MQ below Qc XC args s mc ms free) (F0 m pc ls rest) := by
  intro T hT X
  have htr : e.platform.stackTraces = false := (show e.platform.stackTraces = l.stackTraces by rw [X.admits.platform]).trans hl
  have Y := vx_rebase X (R' := { frames := R.frames, locals := R.locals, cells := 1, slots := 6 }) (Nat.le_refl _) (Nat.le_refl _) hRcells hRslots
  obtain ⟨s', hA⟩ : ∃ z, z = (T.setVm s.vm).setFrames (.invoking m args :: below) := ⟨_, rfl⟩
  rw [← hA] at Y
  have hvm : s'.vm = s.vm := by rw [hA]; rfl
  have hhp : s'.heap = H := by rw [hA]; exact hT
  have hW0 : s.WarmedH s'.vm := by rw [hvm]; exact State.WarmedH.refl s
  have hat' : ∀ w ∈ vx_atS own ic cls names, w.before args s' = true := fun w hw => vx_ot_at hW0 hvm.symm (hgood w (List.mem_cons_of_mem _ (List.mem_cons_of_mem _ hw))) (hat w hw)
  have hk' : (Cond.classLink own ik cls).before args s' = true := vx_ot_at hW0 hvm.symm (hgood _ List.mem_cons_self) hk
  have hini' : (Cond.initialized cls).before args s' = true := vx_ot_at hW0 hvm.symm (hgood _ (List.mem_cons_of_mem _ List.mem_cons_self)) hini
  have hU' : vx_Zq Bundle.tN "UNASSIGNED_STACK" Bundle.steD A s' s'.heap := by rw [hhp]; exact vx_Zq.moved hW0.alike (hU.kept hS.2.1)
  have hN' : vx_Zq Bundle.tN "SUPPRESSED_SENTINEL" Bundle.listD A s' s'.heap := by rw [hhp]; exact vx_Zq.moved hW0.alike (hN.kept hS.2.1)
  have h : ∀ w ∈ Bundle.ownAtoms own ic cls names, w.before args s' = true := vx_own hat' (vx_isRefq hU'.1) (vx_isRefq hN'.1) hU'.2.word hN'.2.word
  have hown' : s'.vm.findClass own = some m.cls := by rw [hvm]; exact hown
  have hins : (Cond.instantiable cls 6).before args s' = true := h _ (by simp [Bundle.ownAtoms])
  obtain ⟨vm₁, cX, kX, hfX, hkX, -, -, X₁, st1⟩ := Y.newCold hexec (own := own) (C := cls) (index := ik) (n := 6) hown' hk' hins hini'
    (g := F0 m pc ls rest) rfl (by rw [hb]; exact d0) (Nat.le_refl _) (Nat.le_refl _)
  generalize hT1 : (T.setVm vm₁).pushCell { cls := cX, slots := kX.instanceTypes.map defaultValue, vm := .none } = T1 at X₁ st1
  have hcat : (Value.ref T.heap.size).category = 1 := rfl
  have hcellA : T1.heap[T.heap.size]? = some (freshCell cX kX) := by rw [← hT1]; exact State.heap_pushCell_size _ _
  have d3' : decode c.code (pc + 3) = .ok (.dup, 1) := by rw [hb]; exact d3
  have d4' : decode c.code (pc + 4) = .ok (.ldc_w is, 3) := by rw [hb]; exact d4
  have hstr' : vk_R own is text sa s' := vk_R.warm hW0 hstr
  obtain ⟨U, hsteps, hrun, hend, hW, hsame, ce, hce, hO⟩ := X₁.ctorThrowS hexec htr (own := own) (cls := cls) (names := names) (ic := ic) hown' hcls hnames h (fun x hx => nomatch hx) hfX hkX hcellA (by rw [hhp, hT]; exact Nat.le_refl _) (msg := .ref sa) rfl
    (g := { method := m, pc := pc + 7, locals := ls, stack := .ref sa :: .ref T.heap.size :: .ref T.heap.size :: rest, locked := none }) rfl hsize rfl rfl (rest := rest) rfl
    (by rw [hb]; exact d7) (by rw [hb]; exact d10) hout hRframes (by simp only [List.map_cons, List.sum_cons, hcat]; omega) hlocks
  obtain ⟨f1, f2⟩ := vx_frame hsame
  rw [hhp] at f1 f2
  have hWs : s.WarmedH U.vm := State.WarmedH.trans hW0 hW
  have hcl : s.vm.findClass cls = some ce.cls := by
    have h9 := hO.cls
    rw [hvm] at h9
    exact h9
  have hall : s.sameButNew ({ U with vm := s.vm } : State) locs mc ms := by
    subst hA
    obtain ⟨e1, e2⟩ := hsame
    rw [State.setFrames_setFrames] at e1
    have h2 : (T.setVm s.vm).sameButNew ({ U with vm := s.vm } : State) [] (0 + 1) (0 + 6) := ⟨e1, e2⟩
    have h3 := X.same.trans h2
    rw [List.append_nil] at h3
    exact h3.mono hc hs
  refine ⟨U, ?_, .threw T.heap.size, hrun, hend, Or.inr ⟨T.heap.size, rfl, cls, ce, locs, hx U hWs.alike f1 (fun q hq => f2 q hq (fun z hz => nomatch hz)), hce, hO.vm, hcl, hWs, hall, hf⟩⟩
  refine st1 _ ?_
  show Steps p.tables e below (T1.setTop { method := m, pc := pc + 3, locals := ls, stack := .ref T.heap.size :: rest, locked := none }) _
  jvm_step X₁.here [X₁.here.top, hexec, d3', Value.category]
  exact X₁.ldcStringW hexec (own := own) (text := text) (index := is) (a := sa) hown' hstr'.1 hstr'.2
    (g := { method := m, pc := pc + 4, locals := ls, stack := .ref T.heap.size :: .ref T.heap.size :: rest, locked := none }) rfl d4' _ hsteps
end Ends
section Bodies
variable {l : Launch}
theorem vx_ofW {y : MethodName} {ws ws' : List Cond} {rm : Room} {Pc : Array Value → State → Prop} {Qc : Array Value → State → Outcome → State → Prop} {XC : String → State → State → Prop} {mc ms : Nat} {free : Addr → Prop} {cc : ByteArray} {maxL : Nat} {ret : Option FieldType}
    (hy : plainName y.cls = true) (hw : ws = Cond.code y cc maxL ret :: ws')
    (body : ∀ p e s m args below meth c s₁, BodyLoose p l y (headSpec ws rm) cc maxL ret e s m args below meth c s₁ → c.maxLocals = maxL → (∀ x ∈ c.exceptionTable.toList, False) → Pc args s →
      W p l e (headSpec ws rm).room s m args below meth c s.heap [] 0 0 (vx_MQ below Qc XC args s mc ms free) (entryFrame m args maxL)) : vx_Met l y ws rm Pc Qc XC mc ms free := by
  refine MetFree.of_bodyS (code := cc) (maxLocals := maxL) (ret := ret) hy ?_ ?_
  · intro args s m h hn
    obtain ⟨meth, c, h1, h2, h3, h4, h5, h6, -, -⟩ := Cond.code_spec hn (atoms_spec (ws := ws) h _ (by rw [hw]; exact List.mem_cons_self))
    exact ⟨meth, c, h1, h2, h3, h4, h5, h6⟩
  · intro p e s m args below meth c s₁ B hml hP _
    have hh0 : s₁.heap = s.heap := by rw [B.state]; rfl
    have ht : ∀ x ∈ c.exceptionTable.toList, False := by
      obtain ⟨meth9, c9, h1, h2, -, -, -, -, h7, -⟩ := Cond.code_spec B.named (atoms_spec (ws := ws) B.pre _ (by rw [hw]; exact List.mem_cons_self))
      cases Option.some.inj (h1.symm.trans B.method)
      cases Option.some.inj (h2.symm.trans (Stand.of_body B).code)
      intro x hx
      rw [Array.isEmpty_iff.mp h7] at hx
      cases hx
    obtain ⟨t, a1, o, b1, b2, b3⟩ := body p e s m args below meth c s₁ B hml ht hP s₁ hh0 (Stand.of_body B)
    exact ⟨t, o, a1, b1, b2, b3⟩
/-- the table of a body with handlers -/
theorem vx_table {p : Program} {x y : MethodName} {S : Spec} {cc bytes : ByteArray} {maxL maxL' : Nat} {ret ret' : Option FieldType} {e : Env} {s s₁ : State} {m : MethodId} {args : Array Value} {below : List Frame} {meth : Method} {c : Code} {hh : List (Nat × Nat × Nat × Nat)}
    (B : BodyLoose p l y S cc maxL ret e s m args below meth c s₁) (h : (Cond.codeWith y bytes maxL' ret' hh).before args s = true) : c.exceptionTable.toList = tableOf hh := by
  obtain ⟨m9, meth9, c9, hn9, h1, h2, -, -, h6, -⟩ := Cond.codeWith_spec h
  cases Option.some.inj (hn9.symm.trans B.named)
  cases Option.some.inj (h1.symm.trans B.method)
  cases Option.some.inj (h2.symm.trans (Stand.of_body B).code)
  rw [← h6, table_eq]
end Bodies
end VXA
/-! ===== END ===== -/
/-! ===== BEGIN a static call of a method with an exception table ===== -/
section VXS
variable {p : Program} {l : Launch} {e : Env} {R : Room} {s : State} {m : MethodId} {args : Array Value} {below : List Frame} {meth : Method} {c : Code} {T : State} {H : Heap} {locs : List Loc} {cells slots : Nat}
abbrev vx_CSW (R : Room) (s : State) (args : Array Value) (own : String) (index : Nat) (y : MethodName) (bytes : ByteArray) (maxL : Nat) (ret : Option FieldType) (hh : List (Nat × Nat × Nat × Nat)) (ws : List Cond) (rm : Room) (mc ms n : Nat) : Prop :=
  (rm.cells = mc ∧ rm.slots = ms ∧ rm.frames + 1 ≤ R.frames ∧ 8 + (maxL + 11) + rm.locals ≤ R.locals ∧ (∀ w ∈ ws, ∀ (a' : Array Value) (U : State), s.WarmedH U.vm → w.before a' U = true) ∧ Cond.codeWith y bytes maxL ret hh ∈ ws) ∧
  (Cond.codeWith y bytes maxL ret hh).before args s = true ∧ (Cond.initialized y.cls).before args s = true ∧ (y.cls ≠ "java/lang/invoke/MethodHandle" ∧ y.cls ≠ "java/lang/invoke/VarHandle") ∧
  (∀ sig, parseMethodDescriptor y.desc = some sig → n = sig.parameters.length) ∧ (Cond.methodLink own index y).before args s = true ∧ (Cond.static y).before args s = true
theorem vx_cwSW {own : String} {index maxL mc ms : Nat} {y : MethodName} {bytes : ByteArray} {ret : Option FieldType} {hh : List (Nat × Nat × Nat × Nat)} {Ts ws ws' : List Cond} {rm : Room} (n : Nat) (ht : ∀ w ∈ Ts, w.before args s = true) (hT : GoodIn Ts (va_wsS own index y ws)) (hw : ws = Cond.codeWith y bytes maxL ret hh :: ws') (hrc : rm.cells = mc) (hrs : rm.slots = ms)
    (hd : y.cls ≠ "java/lang/invoke/MethodHandle" ∧ y.cls ≠ "java/lang/invoke/VarHandle" ∧ (parseMethodDescriptor y.desc).map (fun d => d.parameters.length) = some n) (hR : rm.frames + 1 ≤ R.frames ∧ 8 + (maxL + 11) + rm.locals ≤ R.locals) :
    vx_CSW R s args own index y bytes maxL ret hh ws rm mc ms n := by
  have ok : ∀ w ∈ va_wsS own index y ws, w.before args s = true := fun w h => ht w (hT w h).1
  have hG : GoodIn Ts ws := fun w h => hT w (by unfold va_wsS; exact List.mem_append_right _ h)
  have hc : Cond.codeWith y bytes maxL ret hh ∈ ws := by rw [hw]; exact List.mem_cons_self
  refine ⟨⟨hrc, hrs, hR.1, hR.2, pay_in ht hG, hc⟩, ht _ (hG _ hc).1, ok _ (by simp [va_wsS]), ⟨hd.1, hd.2.1⟩, fun sig h => ?_, ok _ (by simp [va_wsS]), ok _ (by simp [va_wsS])⟩
  have h2 := hd.2.2
  rw [h] at h2
  exact (Option.some.inj h2).symm
theorem vx_callSW (X : Stand p l e R s m args below meth c T locs cells slots) (hexec : p.tables.exec = Jvm.exec) {own : String} {index : Nat} {y : MethodName} {bytes : ByteArray} {maxL : Nat} {ret : Option FieldType} {hh : List (Nat × Nat × Nat × Nat)}
    (hown : s.vm.findClass own = some m.cls) (hlink : (Cond.methodLink own index y).before args s = true) (hstat : (Cond.static y).before args s = true) (hinit : (Cond.initialized y.cls).before args s = true)
    (hcode : (Cond.codeWith y bytes maxL ret hh).before args s = true) (hy : y.cls ≠ "java/lang/invoke/MethodHandle" ∧ y.cls ≠ "java/lang/invoke/VarHandle")
    {W9 : Nat} {Pre : Pt → Array Value → Prop} {Post : Pt → Array Value → Option Value → Pt → Prop} (hK : Back l R p e below s args y 3 W9 Pre Post)
    {g : JFrame} (hg : g.method = m) (hsize : g.locals.size = c.maxLocals) {argsL rest : List Value} (hlen : ∀ sig, parseMethodDescriptor y.desc = some sig → argsL.length = sig.parameters.length)
    (hstack : g.stack = argsL.reverse ++ rest) (hW : 2 * g.monitorRoom + (rest.map fun v => v.category).sum ≤ W9) (hdg : decode c.code g.pc = .ok (.invokestatic index, 3))
    (hpre : ∀ vm₁, s.WarmedH vm₁ → Pre ⟨T.setVm vm₁, locs, cells, slots⟩ argsL.toArray) :
    ∃ (v : Option Value) (vm₁ : Vm) (B : Pt), s.WarmedH vm₁ ∧ Stand p l e R s m args below meth c B.U B.locs B.cells B.slots ∧ Post ⟨T.setVm vm₁, locs, cells, slots⟩ argsL.toArray v B ∧
      ∀ target, Steps p.tables e below (B.U.setTop { g with pc := g.pc + 3, stack := v.toList ++ rest }) target → Steps p.tables e below (T.setTop g) target := by
  obtain ⟨mk, methM, cM, hnamed, hmethM, -, -, -, -, -, -, hsigM⟩ := Cond.codeWith_spec hcode
  have hstatic : methM.isStatic = true := Cond.static_spec hnamed hmethM hstat
  obtain ⟨kP, hkP, -⟩ := className_of_methodNamed hnamed
  have hinitP : kP.init = .initialized := Cond.initialized_spec (findClass_of_methodNamed hnamed) hkP hinit
  obtain ⟨vm₁, X₁, hstep₁⟩ := X.invokestatic hexec hown hlink hnamed hmethM hstatic hkP hinitP hy (g := g) hg (argsL := argsL) (rest := rest) (hlen _ hsigM) hstack hdg
  obtain ⟨v, B, X', hpost, hsteps⟩ := hK m meth c ⟨T.setVm vm₁, locs, cells, slots⟩ { g with stack := rest } (.invokestatic index) mk argsL.toArray X₁ hg hsize hdg hW (X₁.named hnamed) (hpre vm₁ X₁.warmed)
  exact ⟨v, vm₁, B, X₁.warmed, X', hpost, fun target h => hstep₁ _ fun acts => by rw [doInvoke_state]; exact hsteps.trans h⟩
theorem vx_runSW {y : MethodName} {bytes cc : ByteArray} {maxL nL mc ms n index : Nat} {ret : Option FieldType} {hh : List (Nat × Nat × Nat × Nat)} {ws : List Cond} {rm : Room} {Pc : Array Value → State → Prop} {Qc : Array Value → State → Outcome → State → Prop} {free : Addr → Prop} {Ts : List Cond} {own : String} {As rest : List Value} {g : JFrame}
    (S : CallFix p m c cc nL s args Ts own) (hM : Met l y ws rm Pc Qc mc ms free) (cw : vx_CSW R s args own index y bytes maxL ret hh ws rm mc ms n) (hp : PreS s H Pc As)
    (hg : g.method = m) (hn : As.length = n) (hsize : g.locals.size = nL) (hstack : g.stack = As.reverse ++ rest) (hW : 2 * g.monitorRoom + (rest.map fun v => v.category).sum ≤ 8) (hdg : decode cc g.pc = .ok (.invokestatic index, 3)) (hf : cells + mc ≤ R.cells ∧ slots + ms ≤ R.slots) :
    va_Run p l e R s m args below meth c H locs cells slots mc ms g rest (Qc As.toArray) (free) := by
  obtain ⟨⟨hrc, hrs, hfr, hlo, hws, hcw⟩, hcode, hini, hy, hlen, hl, hstt⟩ := cw
  have hK : Back l R p e below s args y 3 8 (PreOf R mc ms Pc) (PostOf Qc mc ms free) := va_backW (hh := hh) (bytes := bytes) (maxL := maxL) (ret := ret) hM hp.1 hrc hrs hfr hlo hws hcw (fun a' U hW => word_at hW (Or.inl (by first | rfl | simp [Cond.onTables, Cond.keeps, Cond.steady])) hini)
  obtain ⟨hx, hb, hml, ho, -⟩ := S
  intro T hT X
  obtain ⟨v, vm₁, ⟨U', l2, c2, s2⟩, hW₁, X', ⟨g', mk, t, L, e1, e2, hq, h1, hL, h2, h3⟩, st⟩ := vx_callSW X hx (hh := hh) (bytes := bytes) (maxL := maxL) (ret := ret) ho hl hstt hini hcode hy hK hg (hsize.trans hml.symm) (argsL := As) (rest := rest) (fun sig h => hn.trans (hlen sig h)) hstack hW (by rw [hb]; exact hdg)
    (fun vm₁ hW₁ => ⟨hf.1, hf.2, hp.2 (T.setVm vm₁) hT hW₁⟩)
  dsimp only [Pt.U, Pt.locs, Pt.cells, Pt.slots] at X' e1 e2 h1 h2 h3 st
  subst h1; subst h2; subst h3
  exact ⟨v, (T.setVm vm₁).calling g' mk As.toArray, t, U', L, hT, X', hL, e1, e2, hq, st⟩
/-- not caught here, past rows that name other classes: it goes on to the caller -/
theorem vx_outP {p : Program} {l : Launch} {e : Env} {R : Room} {s : State} {m : MethodId} {args : Array Value} {below : List Frame} {meth : Method} {c : Code} {H : Heap} {locs : List Loc} {cells slots : Nat} {free : Addr → Prop} {ls : Array Slot} {rest : List Value} {Qc : Array Value → State → Outcome → State → Prop} {XC : String → State → State → Prop}
    {pc : Nat} {own E : String} {ce : Cell} {q : Addr} {mc ms : Nat} (hown : s.vm.findClass own = some m.cls) (hlocks : meth.locks = false)
    (hpass : ∀ z ∈ c.exceptionTable.toList, covers z pc = false ∨ (z.catchType ≠ 0 ∧ ∃ nm : String, (Cond.classLink own z.catchType nm).before args s = true ∧ va_Nc E nm s)) (hcell : H[q]? = some ce) (hv : ce.vm = .none) (hcl : s.vm.findClass E = some ce.cls)
    (hx : ∀ t : State, t.heap = H → s.vm.Alike t.vm → XC E s t) (hf : ∀ z ∈ locs, free z.base) (hc : cells ≤ mc) (hs : slots ≤ ms) :
    vx_W p l e R s m args below meth c H locs cells slots (vx_MQ below Qc XC args s mc ms free) (F0 m pc ls rest) q := by
  intro T hT X
  have hpl : e.platform.magicAccessors = ({} : Platform).magicAccessors := by rw [X.admits.platform]
  obtain ⟨vm', hW', X', st⟩ := X.outThrough hlocks q (g := F0 m pc ls rest) rfl rfl rfl (cell := ce) (by rw [hT]; exact hcell) (by rw [hv]; rfl)
    (by obtain ⟨k9, h9, -⟩ := Vm.findClass_spec hcl; exact ⟨k9, h9⟩) (fun z hz => by
      rcases hpass z hz with h | ⟨hz0, nm, hl1, hn1⟩
      · exact Or.inl h
      · obtain ⟨c6, hc6, hcl6⟩ := Cond.classLink_spec hown hl1 e.platform hpl
        obtain ⟨a8, b8, h1, h2, h3⟩ := hn1
        cases Option.some.inj (h1.symm.trans hcl)
        cases Option.some.inj (h2.symm.trans hc6)
        exact Or.inr ⟨hz0, _, hcl6, h3⟩)
  obtain ⟨g₀, hfr⟩ := X'.frames_eq
  have hcell9 : ((T.setVm vm').setFrames (.throwing q :: below)).heap[q]? = some ce := by
    show T.heap[q]? = some ce
    rw [hT]; exact hcell
  have hend : Ended ((T.setVm vm').setFrames (.throwing q :: below)) below (.threw q) := State.frames_setFrames _ (State.cur_lt_of_frames hfr)
  refine ⟨(T.setVm vm').setFrames (.throwing q :: below), ?_, .threw q, X'.here.running, hend, Or.inr ⟨q, rfl, E, ce, locs, hx _ hT (X'.ends _).1.alike, hcell9, hv, hcl, (X'.ends _).1, (X'.ends _).2.mono hc hs, hf⟩⟩
  rw [X.pushThrowing_eq]
  exact st
/-- a thing of a world lies in the heap -/
theorem vx_lt {D : va_G} {cl : List vw_C} {ws : va_W} {H1 : Heap} (h : va_P D cl ws H1) {k : Nat} {q : Nat × va_E} (hk : ws[k]? = some q) : q.1 < H1.size := (h k q hk).lt
end VXS
/-! ===== END ===== -/
/-! ===== BEGIN methods with a table of their own: called by a name, returning or throwing ===== -/
section VXH
/-! vx_backW, vx_callVX, vx_callSX, vx_callVW, vx_runVW, vx_runVX, vx_runSX, vx_ofWH follow the same proofs as their sisters above (Free/Laws.lean, Shelf42/LK1.lean); vx_outP calls Shelf42/NT130.lean (outThrough). -/
section
variable {l : Launch} {R : Room} {p : Program} {e : Env} {below : List Frame} {s : State} {sargs : Array Value} {y : MethodName} {len W9 : Nat}
theorem vx_backW {ws : List Cond} {rm : Room} {Pc : Array Value → State → Prop} {Qc : Array Value → State → Outcome → State → Prop} {XC : String → State → State → Prop} {mc ms : Nat} {free : Addr → Prop} {bytes : ByteArray} {maxL : Nat} {ret : Option FieldType} {hh : List (Nat × Nat × Nat × Nat)}
    (hM : vx_Met l y ws rm Pc Qc XC mc ms free) (hblind : FrameBlind Pc) (hrc : rm.cells = mc) (hrs : rm.slots = ms)
    (hframes : rm.frames + 1 ≤ R.frames) (hlocals : W9 + (maxL + 11) + rm.locals ≤ R.locals)
    (hws : ∀ w ∈ ws, ∀ a' U, s.WarmedH U.vm → w.before a' U = true) (hcode : Cond.codeWith y bytes maxL ret hh ∈ ws) (hinit : ∀ a' U, s.WarmedH U.vm → (Cond.initialized y.cls).before a' U = true) :
    vx_Back l R p e below s sargs y len W9 (PreOf R mc ms Pc) (PostOf Qc mc ms free) (vx_Post XC mc ms free) := by
  intro m meth c A g ig mk a X hg hsize hdg hW hn hp
  have h1 : (headSpec ws rm).pre.before a A.U = true := atoms_intro fun w hw => hws w hw _ _ X.warmed
  have h2 : (Cond.codeWith y bytes maxL ret hh).before a A.U = true := hws _ hcode _ _ X.warmed
  have h3 : (Cond.initialized y.cls).before a A.U = true := hinit _ _ X.warmed
  have h4 : A.cells + (headSpec ws rm).room.cells ≤ R.cells := by rw [show (headSpec ws rm).room.cells = mc from hrc]; exact hp.1
  have h5 : A.slots + (headSpec ws rm).room.slots ≤ R.slots := by rw [show (headSpec ws rm).room.slots = ms from hrs]; exact hp.2.1
  have hPc : Pc a (A.U.calling g mk a) := hblind _ _ _ _ hp.2.2
  obtain ⟨U, Ls, c0, s0⟩ := A
  dsimp only [Pt.U, Pt.locs, Pt.cells, Pt.slots] at h1 h2 h3 h4 h5 X hn hPc ⊢
  obtain ⟨m9, methY, cY, hn9, hmY, hcY, -, hlY, -⟩ := Cond.codeWith_spec h2
  cases Option.some.inj (hn9.symm.trans hn)
  obtain ⟨kY, hkY, -⟩ := className_of_methodNamed hn
  have hinitY : kY.init = .initialized := Cond.initialized_spec (findClass_of_methodNamed hn) hkY h3
  have h : At U g.method c below := by rw [hg]; exact X.here
  have hlocals9 : W9 + (maxL + 11) + (headSpec ws rm).room.locals ≤ R.locals := hlocals
  have happ : (headSpec ws rm).appliesLoose y e.platform (U.calling g mk a) = true :=
    Spec.appliesLoose_calling (g := g) h hdg hn hkY hinitY
      (X.room_calling (g := g) (R' := (headSpec ws rm).room) hsize hmY hcY hframes (by rw [hlY]; omega) h4 h5) h1
  obtain ⟨mid, hmid⟩ := h.above
  have hfr : (U.setTop g).frames = (.java g :: mid) ++ below := by rw [State.frames_setTop' g h.top, hmid]; rfl
  obtain ⟨o, s₂, hsteps, -, hend, hq⟩ := Steps.callFree hM p X.admits X.cas X.clock (acts := []) hfr happ hPc trivial
  have hq' : vx_Q Qc XC mc ms free a (U.calling g mk a) o s₂ := hq
  rw [State.frames_setTop' g h.top] at hend
  obtain ⟨g₀, hg0⟩ := Option.isSome_iff_exists.mp h.top
  obtain ⟨r, hr⟩ := State.topJava?_eq_some.mp hg0
  have hr' : (({ U with heap := s₂.heap, slotsUsed := s₂.slotsUsed } : State).setVm s₂.vm).frames = .java g₀ :: r := hr
  rcases hq' with ⟨hqc, L, hfe, hL⟩ | ⟨q, rfl, E, ce, L, hx, hce, hcv, hcl, hW₂, hsm, hL⟩
  · obtain ⟨⟨v, rfl⟩, hW₂, e2, q2, q3, q4, q5, q6⟩ := id hfe
    have e3 : s₂ = ({ (U.calling g mk a).setFrames s₂.frames with heap := s₂.heap, slotsUsed := s₂.slotsUsed } : State).setVm s₂.vm := by
      have : s₂ = ({ s₂ with vm := (U.calling g mk a).vm } : State).setVm s₂.vm := rfl
      rw [e2] at this
      exact this
    obtain ⟨c₂, i₂, len₂, hc₂, hd₂, hf₂⟩ := hend
    have hW' : U.WarmedH s₂.vm := hW₂
    have hcc : c₂ = c := by
      have h1 : s₂.code? g.method = U.code? g.method := by
        rw [State.code?_eq, State.code?_eq, hW'.alike.method?]
      exact Option.some.inj (hc₂.symm.trans (h1.trans h.code))
    subst hcc
    have hlen : len₂ = len := by rw [hdg] at hd₂; cases hd₂; rfl
    subst hlen
    have hs₂ : s₂ = (({ U with heap := s₂.heap, slotsUsed := s₂.slotsUsed } : State).setVm s₂.vm).setTop { g with pc := g.pc + len₂, stack := v.toList ++ g.stack } := by
      refine e3.trans ?_
      rw [hf₂, State.calling_eq h.top, State.setFrames_setFrames, State.setTop_of_frames _ hr', hr]
      rfl
    have hsame : U.sameButNew ({ U with heap := s₂.heap, slotsUsed := s₂.slotsUsed } : State) L mc ms := by
      refine ⟨?_, q2, q3, q4, q5, q6⟩
      obtain ⟨t, ht, -⟩ := State.frames_cons hr
      show ({ U with heap := s₂.heap, slotsUsed := s₂.slotsUsed } : State) = { U.setFrames U.frames with heap := s₂.heap, slotsUsed := s₂.slotsUsed }
      rw [State.setFrames_self ht]
    subst hg
    refine Or.inl ⟨v, ⟨(({ U with heap := s₂.heap, slotsUsed := s₂.slotsUsed } : State).setVm s₂.vm), Ls ++ L, c0 + mc, s0 + ms⟩,
      ⟨X.admits, X.cas, X.clock, X.frames, X.room, X.hears, X.method, X.code, (X.here.setHeapUsed s₂.heap s₂.slotsUsed).setVm hW'.alike, X.tail, State.WarmedH.trans X.warmed hW', X.limits, X.bytes, X.same.trans (hsame.setVm s.vm)⟩,
      ⟨g, mk, s₂, L, rfl, rfl, hqc, rfl, hL, rfl, rfl⟩, ?_⟩
    show Steps p.tables e below _ ((({ U with heap := s₂.heap, slotsUsed := s₂.slotsUsed } : State).setVm s₂.vm).setTop { g with pc := g.pc + len₂, stack := v.toList ++ g.stack })
    rw [← hs₂]
    exact hsteps
  · obtain ⟨e2, q2, q3, q4, q5, q6⟩ := id hsm
    have e3 : s₂ = ({ (U.calling g mk a).setFrames s₂.frames with heap := s₂.heap, slotsUsed := s₂.slotsUsed } : State).setVm s₂.vm := by
      have : s₂ = ({ s₂ with vm := (U.calling g mk a).vm } : State).setVm s₂.vm := rfl
      rw [e2] at this
      exact this
    have hf₂ : s₂.frames = .throwing q :: .java g :: U.frames.tail := hend
    have hW' : U.WarmedH s₂.vm := hW₂
    have hs₂ : s₂ = ((({ U with heap := s₂.heap, slotsUsed := s₂.slotsUsed } : State).setVm s₂.vm).setTop g).pushFrame (.throwing q) := by
      refine e3.trans ?_
      rw [hf₂, State.calling_eq h.top, State.setFrames_setFrames, State.pushFrame, State.frames_setTop _ hr', State.setTop_of_frames _ hr', State.setFrames_setFrames, hr]
      rfl
    have hsame : U.sameButNew ({ U with heap := s₂.heap, slotsUsed := s₂.slotsUsed } : State) L mc ms := by
      refine ⟨?_, q2, q3, q4, q5, q6⟩
      obtain ⟨t, ht, -⟩ := State.frames_cons hr
      show ({ U with heap := s₂.heap, slotsUsed := s₂.slotsUsed } : State) = { U.setFrames U.frames with heap := s₂.heap, slotsUsed := s₂.slotsUsed }
      rw [State.setFrames_self ht]
    subst hg
    refine Or.inr ⟨q, ⟨(({ U with heap := s₂.heap, slotsUsed := s₂.slotsUsed } : State).setVm s₂.vm), Ls ++ L, c0 + mc, s0 + ms⟩,
      ⟨X.admits, X.cas, X.clock, X.frames, X.room, X.hears, X.method, X.code, (X.here.setHeapUsed s₂.heap s₂.slotsUsed).setVm hW'.alike, X.tail, State.WarmedH.trans X.warmed hW', X.limits, X.bytes, X.same.trans (hsame.setVm s.vm)⟩,
      ⟨g, mk, s₂, L, E, ce, rfl, rfl, hx, hce, hcv, hcl, rfl, hL, rfl, rfl⟩, ?_⟩
    show Steps p.tables e below _ (((({ U with heap := s₂.heap, slotsUsed := s₂.slotsUsed } : State).setVm s₂.vm).setTop g).pushFrame (.throwing q))
    rw [← hs₂]
    exact hsteps
end
variable {p : Program} {l : Launch} {e : Env} {R : Room} {s : State} {m : MethodId} {args : Array Value} {below : List Frame} {meth : Method} {c : Code} {T : State} {H : Heap} {locs : List Loc} {cells slots : Nat}
theorem vx_callVX (X : Stand p l e R s m args below meth c T locs cells slots) (hexec : p.tables.exec = Jvm.exec) {own C : String} {index : Nat} {y : MethodName} {bytes : ByteArray} {maxL : Nat} {ret : Option FieldType} {hh : List (Nat × Nat × Nat × Nat)}
    (hown : s.vm.findClass own = some m.cls) (hlink : (Cond.methodLink own index y).before args s = true) (hinst : (Cond.instanceMethod y).before args s = true) (hsel : (Cond.selects C y y).before args s = true)
    (hcode : (Cond.codeWith y bytes maxL ret hh).before args s = true) (hy : y.cls ≠ "java/lang/invoke/MethodHandle" ∧ y.cls ≠ "java/lang/invoke/VarHandle")
    {W9 : Nat} {Pre : Pt → Array Value → Prop} {Post : Pt → Array Value → Option Value → Pt → Prop} {PostX : Pt → Array Value → Addr → Pt → Prop} (hK : vx_Back l R p e below s args y 3 W9 Pre Post PostX)
    {b : Addr} {cellB : Cell} (hcell : T.heap[b]? = some cellB) (hobj : cellB.vm.isStatics = false) (hcls : s.vm.findClass C = some cellB.cls)
    {g : JFrame} (hg : g.method = m) (hsize : g.locals.size = c.maxLocals) {argsL rest : List Value} (hlen : ∀ sig, parseMethodDescriptor y.desc = some sig → argsL.length = sig.parameters.length)
    (hstack : g.stack = argsL.reverse ++ .ref b :: rest) (hW : 2 * g.monitorRoom + (rest.map fun v => v.category).sum ≤ W9) (hdg : decode c.code g.pc = .ok (.invokevirtual index, 3))
    (hpre : ∀ vm₁, s.WarmedH vm₁ → Pre ⟨T.setVm vm₁, locs, cells, slots⟩ (Value.ref b :: argsL).toArray) :
    (∃ (v : Option Value) (vm₁ : Vm) (B : Pt), s.WarmedH vm₁ ∧ Stand p l e R s m args below meth c B.U B.locs B.cells B.slots ∧ Post ⟨T.setVm vm₁, locs, cells, slots⟩ (Value.ref b :: argsL).toArray v B ∧
      ∀ target, Steps p.tables e below (B.U.setTop { g with pc := g.pc + 3, stack := v.toList ++ rest }) target → Steps p.tables e below (T.setTop g) target) ∨
    (∃ (q : Addr) (vm₁ : Vm) (B : Pt), s.WarmedH vm₁ ∧ Stand p l e R s m args below meth c B.U B.locs B.cells B.slots ∧ PostX ⟨T.setVm vm₁, locs, cells, slots⟩ (Value.ref b :: argsL).toArray q B ∧
      Steps p.tables e below (T.setTop g) ((B.U.setTop { g with stack := rest }).pushFrame (.throwing q))) := by
  obtain ⟨mk, methM, hnamed, hmethM, hstM, habM⟩ := Cond.instanceMethod_spec hinst
  obtain ⟨m8, methM', cM, hn8, hmethM', -, -, -, -, -, -, hsigM⟩ := Cond.codeWith_spec hcode
  cases Option.some.inj (hn8.symm.trans hnamed)
  cases hmethM.symm.trans hmethM'
  obtain ⟨c2, r2, m2, q1, q2, q3, q4, kP, hkP, hkPi⟩ := Cond.selects_spec hsel
  cases hcls.symm.trans q1
  cases (State.methodFound?_of_named hnamed hy).symm.trans q2
  cases hnamed.symm.trans q3
  have hselP : selectMethod e.platform s.vm cellB.cls mk = .method mk := by rw [Launch.admits_selectMethod X.admits]; exact q4
  obtain ⟨vm₁, X₁, hstep₁⟩ := X.invokevirtual hexec hown hlink hnamed hmethM hstM hkP hkPi hy (a := b) (cell := cellB) hcell
    (fun z h => by rw [h] at hobj; cases hobj) hselP hmethM habM hkP hkPi (g := g) hg (argsL := argsL) (rest := rest) (hlen _ hsigM) hstack hdg
  rcases hK m meth c ⟨T.setVm vm₁, locs, cells, slots⟩ { g with stack := rest } (.invokevirtual index) mk (Value.ref b :: argsL).toArray X₁ hg hsize hdg hW (X₁.named hnamed) (hpre vm₁ X₁.warmed) with ⟨v, B, X', hpost, hsteps⟩ | ⟨q, B, X', hpost, hsteps⟩
  · exact Or.inl ⟨v, vm₁, B, X₁.warmed, X', hpost, fun target h => hstep₁ _ fun acts => by rw [doInvoke_state]; exact hsteps.trans h⟩
  · exact Or.inr ⟨q, vm₁, B, X₁.warmed, X', hpost, hstep₁ _ fun acts => by rw [doInvoke_state]; exact hsteps⟩
theorem vx_callSX (X : Stand p l e R s m args below meth c T locs cells slots) (hexec : p.tables.exec = Jvm.exec) {own : String} {index : Nat} {y : MethodName} {bytes : ByteArray} {maxL : Nat} {ret : Option FieldType} {hh : List (Nat × Nat × Nat × Nat)}
    (hown : s.vm.findClass own = some m.cls) (hlink : (Cond.methodLink own index y).before args s = true) (hstat : (Cond.static y).before args s = true) (hinit : (Cond.initialized y.cls).before args s = true)
    (hcode : (Cond.codeWith y bytes maxL ret hh).before args s = true) (hy : y.cls ≠ "java/lang/invoke/MethodHandle" ∧ y.cls ≠ "java/lang/invoke/VarHandle")
    {W9 : Nat} {Pre : Pt → Array Value → Prop} {Post : Pt → Array Value → Option Value → Pt → Prop} {PostX : Pt → Array Value → Addr → Pt → Prop} (hK : vx_Back l R p e below s args y 3 W9 Pre Post PostX)
    {g : JFrame} (hg : g.method = m) (hsize : g.locals.size = c.maxLocals) {argsL rest : List Value} (hlen : ∀ sig, parseMethodDescriptor y.desc = some sig → argsL.length = sig.parameters.length)
    (hstack : g.stack = argsL.reverse ++ rest) (hW : 2 * g.monitorRoom + (rest.map fun v => v.category).sum ≤ W9) (hdg : decode c.code g.pc = .ok (.invokestatic index, 3))
    (hpre : ∀ vm₁, s.WarmedH vm₁ → Pre ⟨T.setVm vm₁, locs, cells, slots⟩ argsL.toArray) :
    (∃ (v : Option Value) (vm₁ : Vm) (B : Pt), s.WarmedH vm₁ ∧ Stand p l e R s m args below meth c B.U B.locs B.cells B.slots ∧ Post ⟨T.setVm vm₁, locs, cells, slots⟩ argsL.toArray v B ∧
      ∀ target, Steps p.tables e below (B.U.setTop { g with pc := g.pc + 3, stack := v.toList ++ rest }) target → Steps p.tables e below (T.setTop g) target) ∨
    (∃ (q : Addr) (vm₁ : Vm) (B : Pt), s.WarmedH vm₁ ∧ Stand p l e R s m args below meth c B.U B.locs B.cells B.slots ∧ PostX ⟨T.setVm vm₁, locs, cells, slots⟩ argsL.toArray q B ∧
      Steps p.tables e below (T.setTop g) ((B.U.setTop { g with stack := rest }).pushFrame (.throwing q))) := by
  obtain ⟨mk, methM, cM, hnamed, hmethM, -, -, -, -, -, -, hsigM⟩ := Cond.codeWith_spec hcode
  have hstatic : methM.isStatic = true := Cond.static_spec hnamed hmethM hstat
  obtain ⟨kP, hkP, -⟩ := className_of_methodNamed hnamed
  have hinitP : kP.init = .initialized := Cond.initialized_spec (findClass_of_methodNamed hnamed) hkP hinit
  obtain ⟨vm₁, X₁, hstep₁⟩ := X.invokestatic hexec hown hlink hnamed hmethM hstatic hkP hinitP hy (g := g) hg (argsL := argsL) (rest := rest) (hlen _ hsigM) hstack hdg
  rcases hK m meth c ⟨T.setVm vm₁, locs, cells, slots⟩ { g with stack := rest } (.invokestatic index) mk argsL.toArray X₁ hg hsize hdg hW (X₁.named hnamed) (hpre vm₁ X₁.warmed) with ⟨v, B, X', hpost, hsteps⟩ | ⟨q, B, X', hpost, hsteps⟩
  · exact Or.inl ⟨v, vm₁, B, X₁.warmed, X', hpost, fun target h => hstep₁ _ fun acts => by rw [doInvoke_state]; exact hsteps.trans h⟩
  · exact Or.inr ⟨q, vm₁, B, X₁.warmed, X', hpost, hstep₁ _ fun acts => by rw [doInvoke_state]; exact hsteps⟩
theorem vx_callVW (X : Stand p l e R s m args below meth c T locs cells slots) (hexec : p.tables.exec = Jvm.exec) {own C : String} {index : Nat} {y : MethodName} {bytes : ByteArray} {maxL : Nat} {ret : Option FieldType} {hh : List (Nat × Nat × Nat × Nat)}
    (hown : s.vm.findClass own = some m.cls) (hlink : (Cond.methodLink own index y).before args s = true) (hinst : (Cond.instanceMethod y).before args s = true) (hsel : (Cond.selects C y y).before args s = true)
    (hcode : (Cond.codeWith y bytes maxL ret hh).before args s = true) (hy : y.cls ≠ "java/lang/invoke/MethodHandle" ∧ y.cls ≠ "java/lang/invoke/VarHandle")
    {W9 : Nat} {Pre : Pt → Array Value → Prop} {Post : Pt → Array Value → Option Value → Pt → Prop} (hK : Back l R p e below s args y 3 W9 Pre Post)
    {b : Addr} {cellB : Cell} (hcell : T.heap[b]? = some cellB) (hobj : cellB.vm.isStatics = false) (hcls : s.vm.findClass C = some cellB.cls)
    {g : JFrame} (hg : g.method = m) (hsize : g.locals.size = c.maxLocals) {argsL rest : List Value} (hlen : ∀ sig, parseMethodDescriptor y.desc = some sig → argsL.length = sig.parameters.length)
    (hstack : g.stack = argsL.reverse ++ .ref b :: rest) (hW : 2 * g.monitorRoom + (rest.map fun v => v.category).sum ≤ W9) (hdg : decode c.code g.pc = .ok (.invokevirtual index, 3))
    (hpre : ∀ vm₁, s.WarmedH vm₁ → Pre ⟨T.setVm vm₁, locs, cells, slots⟩ (Value.ref b :: argsL).toArray) :
    ∃ (v : Option Value) (vm₁ : Vm) (B : Pt), s.WarmedH vm₁ ∧ Stand p l e R s m args below meth c B.U B.locs B.cells B.slots ∧ Post ⟨T.setVm vm₁, locs, cells, slots⟩ (Value.ref b :: argsL).toArray v B ∧
      ∀ target, Steps p.tables e below (B.U.setTop { g with pc := g.pc + 3, stack := v.toList ++ rest }) target → Steps p.tables e below (T.setTop g) target := by
  obtain ⟨mk, methM, hnamed, hmethM, hstM, habM⟩ := Cond.instanceMethod_spec hinst
  obtain ⟨m8, methM', cM, hn8, hmethM', -, -, -, -, -, -, hsigM⟩ := Cond.codeWith_spec hcode
  cases Option.some.inj (hn8.symm.trans hnamed)
  cases hmethM.symm.trans hmethM'
  obtain ⟨c2, r2, m2, q1, q2, q3, q4, kP, hkP, hkPi⟩ := Cond.selects_spec hsel
  cases hcls.symm.trans q1
  cases (State.methodFound?_of_named hnamed hy).symm.trans q2
  cases hnamed.symm.trans q3
  have hselP : selectMethod e.platform s.vm cellB.cls mk = .method mk := by rw [Launch.admits_selectMethod X.admits]; exact q4
  obtain ⟨vm₁, X₁, hstep₁⟩ := X.invokevirtual hexec hown hlink hnamed hmethM hstM hkP hkPi hy (a := b) (cell := cellB) hcell
    (fun z h => by rw [h] at hobj; cases hobj) hselP hmethM habM hkP hkPi (g := g) hg (argsL := argsL) (rest := rest) (hlen _ hsigM) hstack hdg
  obtain ⟨v, B, X', hpost, hsteps⟩ := hK m meth c ⟨T.setVm vm₁, locs, cells, slots⟩ { g with stack := rest } (.invokevirtual index) mk (Value.ref b :: argsL).toArray X₁ hg hsize hdg hW (X₁.named hnamed) (hpre vm₁ X₁.warmed)
  exact ⟨v, vm₁, B, X₁.warmed, X', hpost, fun target h => hstep₁ _ fun acts => by rw [doInvoke_state]; exact hsteps.trans h⟩
abbrev vx_CVW (R : Room) (s : State) (args : Array Value) (own C : String) (index : Nat) (y : MethodName) (bytes : ByteArray) (maxL : Nat) (ret : Option FieldType) (hh : List (Nat × Nat × Nat × Nat)) (ws : List Cond) (rm : Room) (mc ms n : Nat) : Prop :=
  (rm.cells = mc ∧ rm.slots = ms ∧ rm.frames + 1 ≤ R.frames ∧ 8 + (maxL + 11) + rm.locals ≤ R.locals ∧ (∀ w ∈ ws, ∀ (a' : Array Value) (U : State), s.WarmedH U.vm → w.before a' U = true) ∧ Cond.codeWith y bytes maxL ret hh ∈ ws) ∧
  (Cond.codeWith y bytes maxL ret hh).before args s = true ∧ (Cond.initialized y.cls).before args s = true ∧ (y.cls ≠ "java/lang/invoke/MethodHandle" ∧ y.cls ≠ "java/lang/invoke/VarHandle") ∧
  (∀ sig, parseMethodDescriptor y.desc = some sig → n = sig.parameters.length) ∧ (Cond.methodLink own index y).before args s = true ∧ (Cond.instanceMethod y).before args s = true ∧ (Cond.selects C y y).before args s = true
theorem vx_cwVW {own C : String} {index maxL mc ms : Nat} {y : MethodName} {bytes : ByteArray} {ret : Option FieldType} {hh : List (Nat × Nat × Nat × Nat)} {Ts ws ws' : List Cond} {rm : Room} (n : Nat) (ht : ∀ w ∈ Ts, w.before args s = true) (hT : GoodIn Ts (wsV own index C y ws)) (hw : ws = Cond.codeWith y bytes maxL ret hh :: ws') (hrc : rm.cells = mc) (hrs : rm.slots = ms)
    (hd : y.cls = C ∧ y.cls ≠ "java/lang/invoke/MethodHandle" ∧ y.cls ≠ "java/lang/invoke/VarHandle" ∧ (parseMethodDescriptor y.desc).map (fun d => d.parameters.length) = some n) (hR : rm.frames + 1 ≤ R.frames ∧ 8 + (maxL + 11) + rm.locals ≤ R.locals) :
    vx_CVW R s args own C index y bytes maxL ret hh ws rm mc ms n := by
  obtain ⟨hC, hd⟩ := hd
  subst hC
  have ok : ∀ w ∈ wsV own index y.cls y ws, w.before args s = true := fun w h => ht w (hT w h).1
  have hG : GoodIn Ts ws := fun w h => hT w (by unfold wsV; exact List.mem_append_right _ h)
  have hc : Cond.codeWith y bytes maxL ret hh ∈ ws := by rw [hw]; exact List.mem_cons_self
  refine ⟨⟨hrc, hrs, hR.1, hR.2, pay_in ht hG, hc⟩, ht _ (hG _ hc).1, ok _ (by simp [wsV]), ⟨hd.1, hd.2.1⟩, fun sig h => ?_, ok _ (by simp [wsV]), ok _ (by simp [wsV]), ok _ (by simp [wsV])⟩
  have h2 := hd.2.2
  rw [h] at h2
  exact (Option.some.inj h2).symm
theorem vx_runVW {y : MethodName} {bytes cc : ByteArray} {maxL nL mc ms n index : Nat} {ret : Option FieldType} {hh : List (Nat × Nat × Nat × Nat)} {ws : List Cond} {rm : Room} {Pc : Array Value → State → Prop} {Qc : Array Value → State → Outcome → State → Prop} {free : Addr → Prop} {Ts : List Cond} {own C : String} {b : Addr} {As rest : List Value} {g : JFrame}
    (S : CallFix p m c cc nL s args Ts own) (hM : Met l y ws rm Pc Qc mc ms free) (cw : vx_CVW R s args own C index y bytes maxL ret hh ws rm mc ms n) (hp : PreV s H C b Pc As)
    (hg : g.method = m) (hn : As.length = n) (hsize : g.locals.size = nL) (hstack : g.stack = As.reverse ++ .ref b :: rest) (hW : 2 * g.monitorRoom + (rest.map fun v => v.category).sum ≤ 8) (hdg : decode cc g.pc = .ok (.invokevirtual index, 3)) (hf : cells + mc ≤ R.cells ∧ slots + ms ≤ R.slots) :
    va_Run p l e R s m args below meth c H locs cells slots mc ms g rest (Qc (Value.ref b :: As).toArray) free := by
  obtain ⟨⟨hrc, hrs, hfr, hlo, hws, hcw⟩, hcode, hini, hy, hlen, hl, hin, hse⟩ := cw
  have hK : Back l R p e below s args y 3 8 (PreOf R mc ms Pc) (PostOf Qc mc ms free) := va_backW (hh := hh) (bytes := bytes) (maxL := maxL) (ret := ret) hM hp.1 hrc hrs hfr hlo hws hcw (fun a' U hW => word_at hW (Or.inl (by first | rfl | simp [Cond.onTables, Cond.keeps, Cond.steady])) hini)
  obtain ⟨hx, hb, hml, ho, -⟩ := S
  obtain ⟨-, ⟨cellB, hcB, hoB, hclB⟩, hPc⟩ := hp
  intro T hT X
  obtain ⟨v, vm₁, ⟨U', l2, c2, s2⟩, hW₁, X', ⟨g', mk, t, L, e1, e2, hq, h1, hL, h2, h3⟩, st⟩ := vx_callVW X hx (C := C) (hh := hh) (bytes := bytes) (maxL := maxL) (ret := ret) ho hl hin hse hcode hy hK (by rw [hT]; exact hcB) hoB hclB hg (hsize.trans hml.symm) (argsL := As) (rest := rest) (fun sig h => hn.trans (hlen sig h)) hstack hW (by rw [hb]; exact hdg)
    (fun vm₁ hW₁ => ⟨hf.1, hf.2, hPc (T.setVm vm₁) hT hW₁⟩)
  dsimp only [Pt.U, Pt.locs, Pt.cells, Pt.slots] at X' e1 e2 h1 h2 h3 st
  subst h1; subst h2; subst h3
  exact ⟨v, (T.setVm vm₁).calling g' mk (Value.ref b :: As).toArray, t, U', L, hT, X', hL, e1, e2, hq, st⟩
section
variable {y : MethodName} {bytes cc : ByteArray} {maxL nL mc ms n index : Nat} {ret : Option FieldType} {ws : List Cond} {rm : Room} {Pc : Array Value → State → Prop} {Qc : Array Value → State → Outcome → State → Prop} {XC : String → State → State → Prop} {free : Addr → Prop} {Ts : List Cond} {own C : String} {b : Addr} {As rest : List Value} {g : JFrame}
theorem vx_runVX {hh : List (Nat × Nat × Nat × Nat)} (S : CallFix p m c cc nL s args Ts own) (hM : vx_Met l y ws rm Pc Qc XC mc ms free) (cw : vx_CVW R s args own C index y bytes maxL ret hh ws rm mc ms n) (hp : PreV s H C b Pc As)
    (hg : g.method = m) (hn : As.length = n) (hsize : g.locals.size = nL) (hstack : g.stack = As.reverse ++ .ref b :: rest) (hW : 2 * g.monitorRoom + (rest.map fun v => v.category).sum ≤ 8) (hdg : decode cc g.pc = .ok (.invokevirtual index, 3)) (hf : cells + mc ≤ R.cells ∧ slots + ms ≤ R.slots) :
    vx_Run p l e R s m args below meth c H locs cells slots mc ms g rest (Qc (Value.ref b :: As).toArray) XC free := by
  obtain ⟨⟨hrc, hrs, hfr, hlo, hws, hcw⟩, hcode, hini, hy, hlen, hl, hin, hse⟩ := cw
  have hK : vx_Back l R p e below s args y 3 8 (PreOf R mc ms Pc) (PostOf Qc mc ms free) (vx_Post XC mc ms free) := vx_backW (hh := hh) (bytes := bytes) (maxL := maxL) (ret := ret) hM hp.1 hrc hrs hfr hlo hws hcw (fun a' U hW => word_at hW (Or.inl (by first | rfl | simp [Cond.onTables, Cond.keeps, Cond.steady])) hini)
  obtain ⟨hx, hb, hml, ho, -⟩ := S
  obtain ⟨-, ⟨cellB, hcB, hoB, hclB⟩, hPc⟩ := hp
  intro T hT X
  rcases vx_callVX X hx (C := C) (hh := hh) (bytes := bytes) (maxL := maxL) (ret := ret) ho hl hin hse hcode hy hK (by rw [hT]; exact hcB) hoB hclB hg (hsize.trans hml.symm) (argsL := As) (rest := rest) (fun sig h => hn.trans (hlen sig h)) hstack hW (by rw [hb]; exact hdg)
    (fun vm₁ hW₁ => ⟨hf.1, hf.2, hPc (T.setVm vm₁) hT hW₁⟩) with ⟨v, vm₁, ⟨U', l2, c2, s2⟩, hW₁, X', ⟨g', mk, t, L, e1, e2, hq, h1, hL, h2, h3⟩, st⟩ | ⟨q, vm₁, ⟨U', l2, c2, s2⟩, hW₁, X', ⟨g', mk, t, L, E, ce, e1, e2, hq, hce, hcv, hcl, h1, hL, h2, h3⟩, st⟩
  · dsimp only [Pt.U, Pt.locs, Pt.cells, Pt.slots] at X' e1 e2 h1 h2 h3 st
    subst h1; subst h2; subst h3
    exact Or.inl ⟨v, (T.setVm vm₁).calling g' mk (Value.ref b :: As).toArray, t, U', L, hT, X', hL, e1, e2, hq, st⟩
  · dsimp only [Pt.U, Pt.locs, Pt.cells, Pt.slots] at X' e1 e2 h1 h2 h3 st hcl
    subst h1; subst h2; subst h3
    exact Or.inr ⟨q, (T.setVm vm₁).calling g' mk (Value.ref b :: As).toArray, t, U', L, E, ce, hT, X', hL, e1, e2, hq, hce, hcv, vx_cls hW₁ hcl, st⟩
theorem vx_runSX {hh : List (Nat × Nat × Nat × Nat)} (S : CallFix p m c cc nL s args Ts own) (hM : vx_Met l y ws rm Pc Qc XC mc ms free) (cw : vx_CSW R s args own index y bytes maxL ret hh ws rm mc ms n) (hp : PreS s H Pc As)
    (hg : g.method = m) (hn : As.length = n) (hsize : g.locals.size = nL) (hstack : g.stack = As.reverse ++ rest) (hW : 2 * g.monitorRoom + (rest.map fun v => v.category).sum ≤ 8) (hdg : decode cc g.pc = .ok (.invokestatic index, 3)) (hf : cells + mc ≤ R.cells ∧ slots + ms ≤ R.slots) :
    vx_Run p l e R s m args below meth c H locs cells slots mc ms g rest (Qc As.toArray) XC free := by
  obtain ⟨⟨hrc, hrs, hfr, hlo, hws, hcw⟩, hcode, hini, hy, hlen, hl, hstt⟩ := cw
  have hK : vx_Back l R p e below s args y 3 8 (PreOf R mc ms Pc) (PostOf Qc mc ms free) (vx_Post XC mc ms free) := vx_backW (hh := hh) (bytes := bytes) (maxL := maxL) (ret := ret) hM hp.1 hrc hrs hfr hlo hws hcw (fun a' U hW => word_at hW (Or.inl (by first | rfl | simp [Cond.onTables, Cond.keeps, Cond.steady])) hini)
  obtain ⟨hx, hb, hml, ho, -⟩ := S
  intro T hT X
  rcases vx_callSX X hx (hh := hh) (bytes := bytes) (maxL := maxL) (ret := ret) ho hl hstt hini hcode hy hK hg (hsize.trans hml.symm) (argsL := As) (rest := rest) (fun sig h => hn.trans (hlen sig h)) hstack hW (by rw [hb]; exact hdg)
    (fun vm₁ hW₁ => ⟨hf.1, hf.2, hp.2 (T.setVm vm₁) hT hW₁⟩) with ⟨v, vm₁, ⟨U', l2, c2, s2⟩, hW₁, X', ⟨g', mk, t, L, e1, e2, hq, h1, hL, h2, h3⟩, st⟩ | ⟨q, vm₁, ⟨U', l2, c2, s2⟩, hW₁, X', ⟨g', mk, t, L, E, ce, e1, e2, hq, hce, hcv, hcl, h1, hL, h2, h3⟩, st⟩
  · dsimp only [Pt.U, Pt.locs, Pt.cells, Pt.slots] at X' e1 e2 h1 h2 h3 st
    subst h1; subst h2; subst h3
    exact Or.inl ⟨v, (T.setVm vm₁).calling g' mk As.toArray, t, U', L, hT, X', hL, e1, e2, hq, st⟩
  · dsimp only [Pt.U, Pt.locs, Pt.cells, Pt.slots] at X' e1 e2 h1 h2 h3 st hcl
    subst h1; subst h2; subst h3
    exact Or.inr ⟨q, (T.setVm vm₁).calling g' mk As.toArray, t, U', L, E, ce, hT, X', hL, e1, e2, hq, hce, hcv, vx_cls hW₁ hcl, st⟩
end
end VXH
theorem vx_ofWH {l : Launch} {y : MethodName} {ws ws' : List Cond} {rm : Room} {Pc : Array Value → State → Prop} {Qc : Array Value → State → Outcome → State → Prop} {XC : String → State → State → Prop} {mc ms : Nat} {free : Addr → Prop} {cc : ByteArray} {maxL : Nat} {ret : Option FieldType} {hh : List (Nat × Nat × Nat × Nat)}
    (hy : plainName y.cls = true) (hw : ws = Cond.codeWith y cc maxL ret hh :: ws')
    (body : ∀ p e s m args below meth c s₁, BodyLoose p l y (headSpec ws rm) cc maxL ret e s m args below meth c s₁ → c.maxLocals = maxL → Pc args s →
      W p l e (headSpec ws rm).room s m args below meth c s.heap [] 0 0 (vx_MQ below Qc XC args s mc ms free) (entryFrame m args maxL)) : vx_Met l y ws rm Pc Qc XC mc ms free := by
  refine MetFree.of_bodyS (code := cc) (maxLocals := maxL) (ret := ret) hy ?_ ?_
  · intro args s m h hn
    obtain ⟨m9, meth, c, hn9, h1, h2, h3, h4, -, h5, h6, -⟩ := Cond.codeWith_spec (atoms_spec (ws := ws) h _ (by rw [hw]; exact List.mem_cons_self))
    cases hn.symm.trans hn9
    exact ⟨meth, c, h1, h2, h3, h4, h5, h6⟩
  · intro p e s m args below meth c s₁ B hml hP _
    have hh0 : s₁.heap = s.heap := by rw [B.state]; rfl
    obtain ⟨t, a1, o, b1, b2, b3⟩ := body p e s m args below meth c s₁ B hml hP s₁ hh0 (Stand.of_body B)
    exact ⟨t, o, a1, b1, b2, b3⟩
/-! ===== END ===== -/
end
section
/-! ===== BEGIN a method of a class above, found by the receiver, that may throw (follows va_callVU, va_runU of this kit) ===== -/
section
variable {p : Program} {l : Launch} {e : Env} {R : Room} {s : State} {m : MethodId} {args : Array Value} {below : List Frame} {meth : Method} {c : Code} {H : Heap} {locs : List Loc} {cells slots : Nat}
theorem vx_callVU {T : State} {locs : List Loc} {cells slots : Nat} (X : Stand p l e R s m args below meth c T locs cells slots) (hexec : p.tables.exec = Jvm.exec) {own C owner : String} {index : Nat} {x y : MethodName} {bytes : ByteArray} {maxL : Nat} {ret : Option FieldType}
    (hown : s.vm.findClass own = some m.cls) (hlink : (Cond.methodLink own index x).before args s = true) (hsame : (Cond.sameMethod x.cls owner x.name x.desc).before args s = true)
    (hd0 : va_Decl s ⟨owner, x.name, x.desc⟩) (howner : owner ≠ "java/lang/invoke/MethodHandle" ∧ owner ≠ "java/lang/invoke/VarHandle")
    (hsel : (Cond.selects C x y).before args s = true) (hinst : (Cond.instanceMethod y).before args s = true) (hcode : (Cond.code y bytes maxL ret).before args s = true)
    {W : Nat} {Pre : Pt → Array Value → Prop} {Post : Pt → Array Value → Option Value → Pt → Prop} {PostX : Pt → Array Value → Addr → Pt → Prop} (hK : vx_Back l R p e below s args y 3 W Pre Post PostX)
    {b : Addr} {cellB : Cell} (hcell : T.heap[b]? = some cellB) (hobj : cellB.vm.isStatics = false) (hcls : s.vm.findClass C = some cellB.cls)
    {g : JFrame} (hg : g.method = m) (hsize : g.locals.size = c.maxLocals) {argsL rest : List Value} (hlen : ∀ sig, parseMethodDescriptor x.desc = some sig → argsL.length = sig.parameters.length)
    (hstack : g.stack = argsL.reverse ++ .ref b :: rest) (hW : 2 * g.monitorRoom + (rest.map fun v => v.category).sum ≤ W) (hdg : decode c.code g.pc = .ok (.invokevirtual index, 3))
    (hpre : ∀ vm₁, s.WarmedH vm₁ → Pre ⟨T.setVm vm₁, locs, cells, slots⟩ (Value.ref b :: argsL).toArray) :
    (∃ (v : Option Value) (vm₁ : Vm) (B : Pt), s.WarmedH vm₁ ∧ Stand p l e R s m args below meth c B.U B.locs B.cells B.slots ∧ Post ⟨T.setVm vm₁, locs, cells, slots⟩ (Value.ref b :: argsL).toArray v B ∧
      ∀ target, Steps p.tables e below (B.U.setTop { g with pc := g.pc + 3, stack := v.toList ++ rest }) target → Steps p.tables e below (T.setTop g) target) ∨
    (∃ (q : Addr) (vm₁ : Vm) (B : Pt), s.WarmedH vm₁ ∧ Stand p l e R s m args below meth c B.U B.locs B.cells B.slots ∧ PostX ⟨T.setVm vm₁, locs, cells, slots⟩ (Value.ref b :: argsL).toArray q B ∧
      Steps p.tables e below (T.setTop g) ((B.U.setTop { g with stack := rest }).pushFrame (.throwing q))) := by
  obtain ⟨r0, r, hn, hrm, hstR, hsigR⟩ := hd0
  obtain ⟨cn, ck, r1, hcn, hck, hni, hf, hn1⟩ := Cond.sameMethod_found hsame
  cases hn.symm.trans hn1
  obtain ⟨mk, methM, hnamed, hmethM, -, habM⟩ := Cond.instanceMethod_spec hinst
  obtain ⟨c2, r2, m2, q1, q2, q3, q4, kP, hkP, hkPi⟩ := Cond.selects_spec hsel
  cases hcls.symm.trans q1
  cases hf.symm.trans q2
  cases hnamed.symm.trans q3
  have hselP : selectMethod e.platform s.vm cellB.cls r0 = .method mk := by rw [Launch.admits_selectMethod X.admits]; exact q4
  obtain ⟨vm₁, X₁, hstep₁⟩ := X.invokevirtualUp hexec hown hlink hsame howner hn hrm hstR (a := b) (cell := cellB) hcell
    (fun z h => by rw [h] at hobj; cases hobj) hselP hmethM habM hkP hkPi (g := g) hg (argsL := argsL) (rest := rest) (hlen _ hsigR) hstack hdg
  rcases hK m meth c ⟨T.setVm vm₁, locs, cells, slots⟩ { g with stack := rest } (.invokevirtual index) mk (Value.ref b :: argsL).toArray X₁ hg hsize hdg hW (X₁.named hnamed) (hpre vm₁ X₁.warmed) with ⟨v, B, X', hpost, hsteps⟩ | ⟨q, B, X', hpost, hsteps⟩
  · exact Or.inl ⟨v, vm₁, B, X₁.warmed, X', hpost, fun target h => hstep₁ _ fun acts => by rw [doInvoke_state]; exact hsteps.trans h⟩
  · exact Or.inr ⟨q, vm₁, B, X₁.warmed, X', hpost, hstep₁ _ fun acts => by rw [doInvoke_state]; exact hsteps⟩
theorem vx_runU {x y : MethodName} {bytes cc : ByteArray} {maxL nL mc ms n index : Nat} {ret : Option FieldType} {ws : List Cond} {rm : Room} {Pc : Array Value → State → Prop} {Qc : Array Value → State → Outcome → State → Prop} {XC : String → State → State → Prop} {free : Addr → Prop} {Ts : List Cond} {own C owner : String} {b : Addr} {As rest : List Value} {g : JFrame}
    (S : CallFix p m c cc nL s args Ts own) (hM : vx_Met l y ws rm Pc Qc XC mc ms free) (cw : va_CU R s args own C owner index x y bytes maxL ret ws rm mc ms n) (hp : PreV s H C b Pc As)
    (hg : g.method = m) (hn : As.length = n) (hsize : g.locals.size = nL) (hstack : g.stack = As.reverse ++ .ref b :: rest) (hW : 2 * g.monitorRoom + (rest.map fun v => v.category).sum ≤ 8) (hdg : decode cc g.pc = .ok (.invokevirtual index, 3)) (hf : cells + mc ≤ R.cells ∧ slots + ms ≤ R.slots) :
    vx_Run p l e R s m args below meth c H locs cells slots mc ms g rest (Qc (Value.ref b :: As).toArray) XC free := by
  obtain ⟨hrc, hrs, hfr, hlo, hws, hcw⟩ := cw.back
  have hini := cw.init
  have hK : vx_Back l R p e below s args y 3 8 (PreOf R mc ms Pc) (PostOf Qc mc ms free) (vx_Post XC mc ms free) := vx_back (bytes := bytes) (maxL := maxL) (ret := ret) hM hp.1 hrc hrs hfr hlo hws hcw (fun a' U hW => word_at hW (Or.inl (by first | rfl | simp [Cond.onTables, Cond.keeps, Cond.steady])) hini)
  obtain ⟨hx, hb, hml, ho, -⟩ := S
  obtain ⟨-, ⟨cellB, hcB, hoB, hclB⟩, hPc⟩ := hp
  intro T hT X
  rcases vx_callVU X hx (C := C) (owner := owner) (bytes := bytes) (maxL := maxL) (ret := ret) ho cw.link cw.same cw.decl cw.notMH cw.sel cw.inst cw.code hK (by rw [hT]; exact hcB) hoB hclB hg (hsize.trans hml.symm) (argsL := As) (rest := rest) (fun sig h => hn.trans (cw.len sig h)) hstack hW (by rw [hb]; exact hdg)
    (fun vm₁ hW₁ => ⟨hf.1, hf.2, hPc (T.setVm vm₁) hT hW₁⟩) with ⟨v, vm₁, ⟨U', l2, c2, s2⟩, hW₁, X', ⟨g', mk, t, L, e1, e2, hq, h1, hL, h2, h3⟩, st⟩ | ⟨q, vm₁, ⟨U', l2, c2, s2⟩, hW₁, X', ⟨g', mk, t, L, E, ce, e1, e2, hq, hce, hcv, hcl, h1, hL, h2, h3⟩, st⟩
  · dsimp only [Pt.U, Pt.locs, Pt.cells, Pt.slots] at X' e1 e2 h1 h2 h3 st
    subst h1; subst h2; subst h3
    exact Or.inl ⟨v, (T.setVm vm₁).calling g' mk (Value.ref b :: As).toArray, t, U', L, hT, X', hL, e1, e2, hq, st⟩
  · dsimp only [Pt.U, Pt.locs, Pt.cells, Pt.slots] at X' e1 e2 h1 h2 h3 st hcl
    subst h1; subst h2; subst h3
    exact Or.inr ⟨q, (T.setVm vm₁).calling g' mk (Value.ref b :: As).toArray, t, U', L, E, ce, hT, X', hL, e1, e2, hq, hce, hcv, vx_cls hW₁ hcl, st⟩
end
/-! ===== END ===== -/
/-! ===== BEGIN super.m(..) that may throw (follows va_callSU, va_runSU) ===== -/
section
variable {p : Program} {l : Launch} {e : Env} {R : Room} {s : State} {m : MethodId} {args : Array Value} {below : List Frame} {meth : Method} {c : Code} {H : Heap} {locs : List Loc} {cells slots : Nat}
theorem vx_callSU {T : State} {locs : List Loc} {cells slots : Nat} (X : Stand p l e R s m args below meth c T locs cells slots) (hexec : p.tables.exec = Jvm.exec) {own : String} {index : Nat} {y : MethodName} {bytes : ByteArray} {maxL : Nat} {ret : Option FieldType}
    (hown : s.vm.findClass own = some m.cls) (hlink : (Cond.methodLink own index y).before args s = true) (hsame : (Cond.sameMethod y.cls y.cls y.name y.desc).before args s = true) (hsup : (Cond.superclass own y.cls).before args s = true)
    (hinst : (Cond.instanceMethod y).before args s = true) (hcode : (Cond.code y bytes maxL ret).before args s = true) (hno : y.name ≠ "<init>")
    {W : Nat} {Pre : Pt → Array Value → Prop} {Post : Pt → Array Value → Option Value → Pt → Prop} {PostX : Pt → Array Value → Addr → Pt → Prop} (hK : vx_Back l R p e below s args y 3 W Pre Post PostX)
    {b : Addr} {cellB : Cell} {kB : Class} (hcell : T.heap[b]? = some cellB) (hobj : cellB.vm.isStatics = false) (hkB : s.vm.classes[cellB.cls]? = some kB)
    {g : JFrame} (hg : g.method = m) (hsize : g.locals.size = c.maxLocals) {argsL rest : List Value} (hlen : ∀ sig, parseMethodDescriptor y.desc = some sig → argsL.length = sig.parameters.length)
    (hstack : g.stack = argsL.reverse ++ .ref b :: rest) (hW : 2 * g.monitorRoom + (rest.map fun v => v.category).sum ≤ W) (hdg : decode c.code g.pc = .ok (.invokespecial index, 3))
    (hpre : ∀ vm₁, s.WarmedH vm₁ → Pre ⟨T.setVm vm₁, locs, cells, slots⟩ (Value.ref b :: argsL).toArray) :
    (∃ (v : Option Value) (vm₁ : Vm) (B : Pt), s.WarmedH vm₁ ∧ Stand p l e R s m args below meth c B.U B.locs B.cells B.slots ∧ Post ⟨T.setVm vm₁, locs, cells, slots⟩ (Value.ref b :: argsL).toArray v B ∧
      ∀ target, Steps p.tables e below (B.U.setTop { g with pc := g.pc + 3, stack := v.toList ++ rest }) target → Steps p.tables e below (T.setTop g) target) ∨
    (∃ (q : Addr) (vm₁ : Vm) (B : Pt), s.WarmedH vm₁ ∧ Stand p l e R s m args below meth c B.U B.locs B.cells B.slots ∧ PostX ⟨T.setVm vm₁, locs, cells, slots⟩ (Value.ref b :: argsL).toArray q B ∧
      Steps p.tables e below (T.setTop g) ((B.U.setTop { g with stack := rest }).pushFrame (.throwing q))) := by
  obtain ⟨mk, methM, hnamed, hmethM, hstM, habM⟩ := Cond.instanceMethod_spec hinst
  obtain ⟨methM', cM, hmethM', -, -, -, -, -, -, hsigM⟩ := Cond.code_spec hnamed hcode
  cases hmethM.symm.trans hmethM'
  obtain ⟨ps, dk, kp, hps, hdk, hkp, hsuper, -, -, hnid⟩ := Cond.superclass_spec hown hsup
  have hn : s.methodNamed? ⟨y.cls, y.name, y.desc⟩ = some mk := hnamed
  have hpm : ps = mk.cls := Option.some.inj (hps.symm.trans (findClass_of_methodNamed hnamed))
  have hsub : s.vm.isSubclass ps mk.cls = true := by rw [hpm]; simp [Vm.isSubclass, Vm.isSubclassAux]
  obtain ⟨vm₁, X₁, hstep₁⟩ := X.invokespecialUp hexec hown hlink hsame hn hmethM hstM habM hno hdk hnid hps hsuper hsub (a := b) (cell := cellB) hcell
    (fun z h => by rw [h] at hobj; cases hobj) hkB (g := g) hg (argsL := argsL) (rest := rest) (hlen _ hsigM) hstack hdg
  rcases hK m meth c ⟨T.setVm vm₁, locs, cells, slots⟩ { g with stack := rest } (.invokespecial index) mk (Value.ref b :: argsL).toArray X₁ hg hsize hdg hW (X₁.named hnamed) (hpre vm₁ X₁.warmed) with ⟨v, B, X', hpost, hsteps⟩ | ⟨q, B, X', hpost, hsteps⟩
  · exact Or.inl ⟨v, vm₁, B, X₁.warmed, X', hpost, fun target h => hstep₁ _ (by rw [doInvoke_state]; exact hsteps.trans h)⟩
  · exact Or.inr ⟨q, vm₁, B, X₁.warmed, X', hpost, hstep₁ _ (by rw [doInvoke_state]; exact hsteps)⟩
theorem vx_runSU {y : MethodName} {bytes cc : ByteArray} {maxL nL mc ms n index : Nat} {ret : Option FieldType} {ws : List Cond} {rm : Room} {Pc : Array Value → State → Prop} {Qc : Array Value → State → Outcome → State → Prop} {XC : String → State → State → Prop} {free : Addr → Prop} {Ts : List Cond} {own C : String} {cC : ClassId} {b : Addr} {As rest : List Value} {g : JFrame}
    (hat : ClassAt s C cC) (S : CallFix p m c cc nL s args Ts own) (hM : vx_Met l y ws rm Pc Qc XC mc ms free) (cw : va_CS R s args own index y bytes maxL ret ws rm mc ms n) (hp : PreV s H C b Pc As)
    (hg : g.method = m) (hn : As.length = n) (hsize : g.locals.size = nL) (hstack : g.stack = As.reverse ++ .ref b :: rest) (hW : 2 * g.monitorRoom + (rest.map fun v => v.category).sum ≤ 8) (hdg : decode cc g.pc = .ok (.invokespecial index, 3)) (hf : cells + mc ≤ R.cells ∧ slots + ms ≤ R.slots) :
    vx_Run p l e R s m args below meth c H locs cells slots mc ms g rest (Qc (Value.ref b :: As).toArray) XC free := by
  obtain ⟨⟨hrc, hrs, hfr, hlo, hws, hcw⟩, hl1, hl2, hl3, hl4, hini, hcode, hno, hlen⟩ := cw
  have hK : vx_Back l R p e below s args y 3 8 (PreOf R mc ms Pc) (PostOf Qc mc ms free) (vx_Post XC mc ms free) := vx_back (bytes := bytes) (maxL := maxL) (ret := ret) hM hp.1 hrc hrs hfr hlo hws hcw (fun a' U hW => word_at hW (Or.inl (by first | rfl | simp [Cond.onTables, Cond.keeps, Cond.steady])) hini)
  obtain ⟨hx, hb, hml, ho, -⟩ := S
  obtain ⟨-, ⟨cellB, hcB, hoB, hclB⟩, hPc⟩ := hp
  obtain ⟨hfc, kB, hkB, -⟩ := hat
  cases hfc.symm.trans hclB
  intro T hT X
  rcases vx_callSU X hx (bytes := bytes) (maxL := maxL) (ret := ret) ho hl1 hl2 hl3 hl4 hcode hno hK (by rw [hT]; exact hcB) hoB hkB hg (hsize.trans hml.symm) (argsL := As) (rest := rest) (fun sig h => hn.trans (hlen sig h)) hstack hW (by rw [hb]; exact hdg)
    (fun vm₁ hW₁ => ⟨hf.1, hf.2, hPc (T.setVm vm₁) hT hW₁⟩) with ⟨v, vm₁, ⟨U', l2, c2, s2⟩, hW₁, X', ⟨g', mk, t, L, e1, e2, hq, h1, hL, h2, h3⟩, st⟩ | ⟨q, vm₁, ⟨U', l2, c2, s2⟩, hW₁, X', ⟨g', mk, t, L, E, ce, e1, e2, hq, hce, hcv, hcl, h1, hL, h2, h3⟩, st⟩
  · dsimp only [Pt.U, Pt.locs, Pt.cells, Pt.slots] at X' e1 e2 h1 h2 h3 st
    subst h1; subst h2; subst h3
    exact Or.inl ⟨v, (T.setVm vm₁).calling g' mk (Value.ref b :: As).toArray, t, U', L, hT, X', hL, e1, e2, hq, st⟩
  · dsimp only [Pt.U, Pt.locs, Pt.cells, Pt.slots] at X' e1 e2 h1 h2 h3 st hcl
    subst h1; subst h2; subst h3
    exact Or.inr ⟨q, (T.setVm vm₁).calling g' mk (Value.ref b :: As).toArray, t, U', L, E, ce, hT, X', hL, e1, e2, hq, hce, hcv, vx_cls hW₁ hcl, st⟩
end
/-! ===== END ===== -/
end
section
def RX0 : String := "Dotpress$Embosser"
def TX0 : u_T := fun k => match k with
  | 0 => ("Dotpress$Embosser", "wear", "LDotpress$Row;", true)
  | 1 => ("Dotpress$Embosser", "plan", "LDotpress$Row;", true)
  | _ => ("Dotpress$Embosser", "bearing", "I", false)
def tyX0 : Nat → FieldType := fun k => match k with
  | 0 => .object "Dotpress$Row"
  | 1 => .object "Dotpress$Row"
  | _ => .int
abbrev wsX00 : List Cond := u_ws RX0 TX0 3
theorem nmX0 : ∀ a, a < 3 → ∀ b, b < 3 → a ≠ b → (TX0 a).2.1 ≠ (TX0 b).2.1 := by decide +kernel
theorem tyX0_ok : ∀ k, k < 3 → parseFieldDescriptor (TX0 k).2.2.1 = some (tyX0 k) := by decide +kernel
abbrev cX0_init : ByteArray := prog_2_method_1_code
def yX0_init : MethodName := ⟨RX0, "<init>", "()V"⟩
abbrev cX0_changeBearing : ByteArray := prog_2_method_2_code
def yX0_changeBearing : MethodName := ⟨RX0, "changeBearing", "(I)I"⟩
abbrev cX0_wearOf : ByteArray := prog_2_method_3_code
def yX0_wearOf : MethodName := ⟨RX0, "wearOf", "(I)I"⟩
abbrev cX0_renewPin : ByteArray := prog_2_method_4_code
def yX0_renewPin : MethodName := ⟨RX0, "renewPin", "(I)I"⟩
abbrev cX0_forgetPlan : ByteArray := prog_2_method_6_code
def yX0_forgetPlan : MethodName := ⟨RX0, "forgetPlan", "()V"⟩
abbrev cX0_planCell : ByteArray := prog_2_method_7_code
def yX0_planCell : MethodName := ⟨RX0, "planCell", "(I)V"⟩
abbrev cX0_bearsPlan : ByteArray := prog_2_method_8_code
def yX0_bearsPlan : MethodName := ⟨RX0, "bearsPlan", "()Z"⟩
abbrev cX0_strikePlan : ByteArray := prog_2_method_9_code
def yX0_strikePlan : MethodName := ⟨RX0, "strikePlan", "()V"⟩
def RX1 : String := "Dotpress$Pieces"
def TX1 : u_T := fun k => match k with
  | 0 => ("Dotpress$Pieces", "numbers", "LDotpress$Row;", true)
  | _ => ("Dotpress$Pieces", "ends", "LDotpress$Row;", true)
def tyX1 : Nat → FieldType := fun k => match k with
  | 0 => .object "Dotpress$Row"
  | _ => .object "Dotpress$Row"
abbrev wsX10 : List Cond := u_ws RX1 TX1 2
theorem nmX1 : ∀ a, a < 2 → ∀ b, b < 2 → a ≠ b → (TX1 a).2.1 ≠ (TX1 b).2.1 := by decide +kernel
theorem tyX1_ok : ∀ k, k < 2 → parseFieldDescriptor (TX1 k).2.2.1 = some (tyX1 k) := by decide +kernel
abbrev cX1_init : ByteArray := prog_3_method_1_code
def yX1_init : MethodName := ⟨RX1, "<init>", "(II)V"⟩
abbrev cX1_uncut : ByteArray := prog_3_method_2_code
def yX1_uncut : MethodName := ⟨RX1, "uncut", "()LDotpress$Row;"⟩
abbrev cX1_count : ByteArray := prog_3_method_3_code
def yX1_count : MethodName := ⟨RX1, "count", "()I"⟩
abbrev cX1_startOf : ByteArray := prog_3_method_4_code
def yX1_startOf : MethodName := ⟨RX1, "startOf", "(I)I"⟩
abbrev cX1_endOf : ByteArray := prog_3_method_5_code
def yX1_endOf : MethodName := ⟨RX1, "endOf", "(I)I"⟩
abbrev cX1_sizeOf : ByteArray := prog_3_method_6_code
def yX1_sizeOf : MethodName := ⟨RX1, "sizeOf", "(I)I"⟩
abbrev cX1_get : ByteArray := prog_3_method_7_code
def yX1_get : MethodName := ⟨RX1, "get", "(II)I"⟩
abbrev cX1_uncutSize : ByteArray := prog_3_method_8_code
def yX1_uncutSize : MethodName := ⟨RX1, "uncutSize", "()I"⟩
abbrev cX1_add : ByteArray := prog_3_method_9_code
def yX1_add : MethodName := ⟨RX1, "add", "(I)V"⟩
abbrev cX1_cut : ByteArray := prog_3_method_10_code
def yX1_cut : MethodName := ⟨RX1, "cut", "()V"⟩
abbrev cX1_empty : ByteArray := prog_3_method_11_code
def yX1_empty : MethodName := ⟨RX1, "empty", "()V"⟩
abbrev cX1_drop : ByteArray := prog_3_method_12_code
def yX1_drop : MethodName := ⟨RX1, "drop", "(I)V"⟩
abbrev cX1_isSame : ByteArray := prog_3_method_13_code
def yX1_isSame : MethodName := ⟨RX1, "isSame", "(ILDotpress$Row;II)Z"⟩
abbrev cX1_shares : ByteArray := prog_3_method_14_code
def yX1_shares : MethodName := ⟨RX1, "shares", "(ILDotpress$Pieces;)Z"⟩
abbrev cX1_takeOver : ByteArray := prog_3_method_15_code
def yX1_takeOver : MethodName := ⟨RX1, "takeOver", "(LDotpress$Pieces;)V"⟩
def RX2 : String := "Dotpress$Row"
def TX2 : u_T := fun k => match k with
  | 0 => ("Dotpress$Row", "numbers", "[I", true)
  | _ => ("Dotpress$Row", "count", "I", false)
def tyX2 : Nat → FieldType := fun k => match k with
  | 0 => .array .int
  | _ => .int
abbrev wsX20 : List Cond := u_ws RX2 TX2 2
theorem nmX2 : ∀ a, a < 2 → ∀ b, b < 2 → a ≠ b → (TX2 a).2.1 ≠ (TX2 b).2.1 := by decide +kernel
theorem tyX2_ok : ∀ k, k < 2 → parseFieldDescriptor (TX2 k).2.2.1 = some (tyX2 k) := by decide +kernel
abbrev cX2_init : ByteArray := prog_4_method_1_code
def yX2_init : MethodName := ⟨RX2, "<init>", "(I)V"⟩
abbrev cX2_count : ByteArray := prog_4_method_2_code
def yX2_count : MethodName := ⟨RX2, "count", "()I"⟩
abbrev cX2_isFull : ByteArray := prog_4_method_3_code
def yX2_isFull : MethodName := ⟨RX2, "isFull", "()Z"⟩
abbrev cX2_get : ByteArray := prog_4_method_4_code
def yX2_get : MethodName := ⟨RX2, "get", "(I)I"⟩
abbrev cX2_set : ByteArray := prog_4_method_5_code
def yX2_set : MethodName := ⟨RX2, "set", "(II)V"⟩
abbrev cX2_add : ByteArray := prog_4_method_6_code
def yX2_add : MethodName := ⟨RX2, "add", "(I)V"⟩
abbrev cX2_insert : ByteArray := prog_4_method_7_code
def yX2_insert : MethodName := ⟨RX2, "insert", "(II)V"⟩
abbrev cX2_remove : ByteArray := prog_4_method_8_code
def yX2_remove : MethodName := ⟨RX2, "remove", "(I)V"⟩
abbrev cX2_empty : ByteArray := prog_4_method_9_code
def yX2_empty : MethodName := ⟨RX2, "empty", "()V"⟩
abbrev cX2_placeOf : ByteArray := prog_4_method_10_code
def yX2_placeOf : MethodName := ⟨RX2, "placeOf", "(I)I"⟩
abbrev cX2_takeOver : ByteArray := prog_4_method_11_code
def yX2_takeOver : MethodName := ⟨RX2, "takeOver", "(LDotpress$Row;)V"⟩
def RX3 : String := "Dotpress$RuleBook"
def TX3 : u_T := fun k => match k with
  | 0 => ("Dotpress$RuleBook", "keys", "LDotpress$Row;", true)
  | 1 => ("Dotpress$RuleBook", "grades", "LDotpress$Row;", true)
  | 2 => ("Dotpress$RuleBook", "firsts", "LDotpress$Row;", true)
  | 3 => ("Dotpress$RuleBook", "seconds", "LDotpress$Row;", true)
  | _ => ("Dotpress$RuleBook", "exceptions", "LDotpress$Pieces;", true)
def tyX3 : Nat → FieldType := fun k => match k with
  | 0 => .object "Dotpress$Row"
  | 1 => .object "Dotpress$Row"
  | 2 => .object "Dotpress$Row"
  | 3 => .object "Dotpress$Row"
  | _ => .object "Dotpress$Pieces"
abbrev wsX30 : List Cond := u_ws RX3 TX3 5
theorem nmX3 : ∀ a, a < 5 → ∀ b, b < 5 → a ≠ b → (TX3 a).2.1 ≠ (TX3 b).2.1 := by decide +kernel
theorem tyX3_ok : ∀ k, k < 5 → parseFieldDescriptor (TX3 k).2.2.1 = some (tyX3 k) := by decide +kernel
abbrev cX3_init : ByteArray := prog_5_method_1_code
def yX3_init : MethodName := ⟨RX3, "<init>", "()V"⟩
abbrev cX3_keyOf : ByteArray := prog_5_method_2_code
def yX3_keyOf : MethodName := ⟨RX3, "keyOf", "(LDotpress$Row;II)I"⟩
abbrev cX3_isFull : ByteArray := prog_5_method_4_code
def yX3_isFull : MethodName := ⟨RX3, "isFull", "()Z"⟩
abbrev cX3_placeOf : ByteArray := prog_5_method_6_code
def yX3_placeOf : MethodName := ⟨RX3, "placeOf", "(I)I"⟩
abbrev cX3_insert : ByteArray := prog_5_method_7_code
def yX3_insert : MethodName := ⟨RX3, "insert", "(IIII)I"⟩
abbrev cX3_alter : ByteArray := prog_5_method_8_code
def yX3_alter : MethodName := ⟨RX3, "alter", "(IIII)V"⟩
abbrev cX3_isInOrder : ByteArray := prog_5_method_11_code
def yX3_isInOrder : MethodName := ⟨RX3, "isInOrder", "()Z"⟩
abbrev cX3_placeOfException : ByteArray := prog_5_method_12_code
def yX3_placeOfException : MethodName := ⟨RX3, "placeOfException", "(LDotpress$Row;II)I"⟩
abbrev cX3_isFullOfExceptions : ByteArray := prog_5_method_13_code
def yX3_isFullOfExceptions : MethodName := ⟨RX3, "isFullOfExceptions", "()Z"⟩
abbrev cX3_addException : ByteArray := prog_5_method_14_code
def yX3_addException : MethodName := ⟨RX3, "addException", "(LDotpress$Row;)V"⟩
abbrev cX3_dropException : ByteArray := prog_5_method_15_code
def yX3_dropException : MethodName := ⟨RX3, "dropException", "(I)V"⟩
abbrev cX3_translate : ByteArray := prog_5_method_16_code
def yX3_translate : MethodName := ⟨RX3, "translate", "(LDotpress$Row;IIILDotpress$Pieces;)V"⟩
abbrev cX3_addCells : ByteArray := prog_5_method_17_code
def yX3_addCells : MethodName := ⟨RX3, "addCells", "(LDotpress$Row;IIILDotpress$Pieces;)I"⟩
def RX4 : String := "Dotpress$Text"
def TX4 : u_T := fun k => match k with
  | 0 => ("Dotpress$Text", "typed", "LDotpress$Pieces;", true)
  | 1 => ("Dotpress$Text", "cells", "LDotpress$Pieces;", true)
  | 2 => ("Dotpress$Text", "marks", "LDotpress$Row;", true)
  | 3 => ("Dotpress$Text", "laid", "LDotpress$Pieces;", true)
  | 4 => ("Dotpress$Text", "firstLines", "LDotpress$Row;", true)
  | 5 => ("Dotpress$Text", "embossed", "LDotpress$Pieces;", true)
  | _ => ("Dotpress$Text", "grade", "I", false)
def tyX4 : Nat → FieldType := fun k => match k with
  | 0 => .object "Dotpress$Pieces"
  | 1 => .object "Dotpress$Pieces"
  | 2 => .object "Dotpress$Row"
  | 3 => .object "Dotpress$Pieces"
  | 4 => .object "Dotpress$Row"
  | 5 => .object "Dotpress$Pieces"
  | _ => .int
abbrev wsX40 : List Cond := u_ws RX4 TX4 7
theorem nmX4 : ∀ a, a < 7 → ∀ b, b < 7 → a ≠ b → (TX4 a).2.1 ≠ (TX4 b).2.1 := by decide +kernel
theorem tyX4_ok : ∀ k, k < 7 → parseFieldDescriptor (TX4 k).2.2.1 = some (tyX4 k) := by decide +kernel
abbrev cX4_init : ByteArray := prog_6_method_1_code
def yX4_init : MethodName := ⟨RX4, "<init>", "()V"⟩
abbrev cX4_take : ByteArray := prog_6_method_2_code
def yX4_take : MethodName := ⟨RX4, "take", "(LDotpress$Row;I)V"⟩
abbrev cX4_translate : ByteArray := prog_6_method_3_code
def yX4_translate : MethodName := ⟨RX4, "translate", "(LDotpress$RuleBook;LDotpress$Pieces;)Z"⟩
abbrev cX4_lay : ByteArray := prog_6_method_4_code
def yX4_lay : MethodName := ⟨RX4, "lay", "(I)V"⟩
abbrev cX4_beginWord : ByteArray := prog_6_method_5_code
def yX4_beginWord : MethodName := ⟨RX4, "beginWord", "(II)V"⟩
abbrev cX4_wordCount : ByteArray := prog_6_method_6_code
def yX4_wordCount : MethodName := ⟨RX4, "wordCount", "()I"⟩
abbrev cX4_cellCount : ByteArray := prog_6_method_7_code
def yX4_cellCount : MethodName := ⟨RX4, "cellCount", "(I)I"⟩
abbrev cX4_cellAt : ByteArray := prog_6_method_8_code
def yX4_cellAt : MethodName := ⟨RX4, "cellAt", "(II)I"⟩
abbrev cX4_lineCount : ByteArray := prog_6_method_9_code
def yX4_lineCount : MethodName := ⟨RX4, "lineCount", "()I"⟩
abbrev cX4_lineSize : ByteArray := prog_6_method_10_code
def yX4_lineSize : MethodName := ⟨RX4, "lineSize", "(I)I"⟩
abbrev cX4_laidCellAt : ByteArray := prog_6_method_11_code
def yX4_laidCellAt : MethodName := ⟨RX4, "laidCellAt", "(II)I"⟩
abbrev cX4_firstLineOf : ByteArray := prog_6_method_12_code
def yX4_firstLineOf : MethodName := ⟨RX4, "firstLineOf", "(I)I"⟩
abbrev cX4_isOther : ByteArray := prog_6_method_13_code
def yX4_isOther : MethodName := ⟨RX4, "isOther", "(I)Z"⟩
abbrev cX4_otherLineCount : ByteArray := prog_6_method_14_code
def yX4_otherLineCount : MethodName := ⟨RX4, "otherLineCount", "()I"⟩
abbrev cX4_keepAsEmbossed : ByteArray := prog_6_method_15_code
def yX4_keepAsEmbossed : MethodName := ⟨RX4, "keepAsEmbossed", "()V"⟩
abbrev cX4_putMark : ByteArray := prog_6_method_16_code
def yX4_putMark : MethodName := ⟨RX4, "putMark", "(IIC)V"⟩
abbrev cX4_markBy : ByteArray := prog_6_method_17_code
def yX4_markBy : MethodName := ⟨RX4, "markBy", "(II)C"⟩
abbrev cX4_unmark : ByteArray := prog_6_method_18_code
def yX4_unmark : MethodName := ⟨RX4, "unmark", "(I)V"⟩
abbrev cX4_isWellLaid : ByteArray := prog_6_method_21_code
def yX4_isWellLaid : MethodName := ⟨RX4, "isWellLaid", "(I)Z"⟩
def RX5 : String := "Dotpress"
def TX5 : u_T := fun k => match k with
  | 0 => ("Dotpress", "buffer", "LDotpress$Row;", true)
  | 1 => ("Dotpress", "rules", "LDotpress$RuleBook;", true)
  | 2 => ("Dotpress", "embosser", "LDotpress$Embosser;", true)
  | 3 => ("Dotpress", "texts", "[LDotpress$Text;", true)
  | 4 => ("Dotpress", "freshCells", "LDotpress$Pieces;", true)
  | 5 => ("Dotpress", "textCount", "I", false)
  | _ => ("Dotpress", "width", "I", false)
def tyX5 : Nat → FieldType := fun k => match k with
  | 0 => .object "Dotpress$Row"
  | 1 => .object "Dotpress$RuleBook"
  | 2 => .object "Dotpress$Embosser"
  | 3 => .array (.object "Dotpress$Text")
  | 4 => .object "Dotpress$Pieces"
  | 5 => .int
  | _ => .int
abbrev wsX50 : List Cond := u_ws RX5 TX5 7
theorem nmX5 : ∀ a, a < 7 → ∀ b, b < 7 → a ≠ b → (TX5 a).2.1 ≠ (TX5 b).2.1 := by decide +kernel
theorem tyX5_ok : ∀ k, k < 7 → parseFieldDescriptor (TX5 k).2.2.1 = some (tyX5 k) := by decide +kernel
abbrev cX5_init : ByteArray := prog_1_method_1_code
def yX5_init : MethodName := ⟨RX5, "<init>", "()V"⟩
abbrev cX5_type : ByteArray := prog_1_method_2_code
def yX5_type : MethodName := ⟨RX5, "type", "(C)I"⟩
abbrev cX5_clear : ByteArray := prog_1_method_3_code
def yX5_clear : MethodName := ⟨RX5, "clear", "()I"⟩
abbrev cX5_addRule : ByteArray := prog_1_method_4_code
def yX5_addRule : MethodName := ⟨RX5, "addRule", "(III)I"⟩
abbrev cX5_mend : ByteArray := prog_1_method_5_code
def yX5_mend : MethodName := ⟨RX5, "mend", "(III)I"⟩
abbrev cX5_turnException : ByteArray := prog_1_method_8_code
def yX5_turnException : MethodName := ⟨RX5, "turnException", "()Z"⟩
abbrev cX5_setText : ByteArray := prog_1_method_9_code
def yX5_setText : MethodName := ⟨RX5, "setText", "(II)I"⟩
abbrev cX5_setWidth : ByteArray := prog_1_method_10_code
def yX5_setWidth : MethodName := ⟨RX5, "setWidth", "(I)I"⟩
abbrev cX5_words : ByteArray := prog_1_method_11_code
def yX5_words : MethodName := ⟨RX5, "words", "(I)I"⟩
abbrev cX5_length : ByteArray := prog_1_method_12_code
def yX5_length : MethodName := ⟨RX5, "length", "(II)I"⟩
abbrev cX5_cellOf : ByteArray := prog_1_method_13_code
def yX5_cellOf : MethodName := ⟨RX5, "cellOf", "(III)I"⟩
abbrev cX5_lines : ByteArray := prog_1_method_14_code
def yX5_lines : MethodName := ⟨RX5, "lines", "(I)I"⟩
abbrev cX5_lineAt : ByteArray := prog_1_method_15_code
def yX5_lineAt : MethodName := ⟨RX5, "lineAt", "(III)I"⟩
abbrev cX5_lineOf : ByteArray := prog_1_method_16_code
def yX5_lineOf : MethodName := ⟨RX5, "lineOf", "(II)I"⟩
abbrev cX5_emboss : ByteArray := prog_1_method_17_code
def yX5_emboss : MethodName := ⟨RX5, "emboss", "(I)I"⟩
abbrev cX5_changed : ByteArray := prog_1_method_18_code
def yX5_changed : MethodName := ⟨RX5, "changed", "(I)I"⟩
abbrev cX5_setBearing : ByteArray := prog_1_method_19_code
def yX5_setBearing : MethodName := ⟨RX5, "setBearing", "(I)I"⟩
abbrev cX5_replace : ByteArray := prog_1_method_20_code
def yX5_replace : MethodName := ⟨RX5, "replace", "(I)I"⟩
abbrev cX5_strikes : ByteArray := prog_1_method_21_code
def yX5_strikes : MethodName := ⟨RX5, "strikes", "(I)I"⟩
abbrev cX5_mark : ByteArray := prog_1_method_22_code
def yX5_mark : MethodName := ⟨RX5, "mark", "(IIIZ)Z"⟩
abbrev cX5_markOf : ByteArray := prog_1_method_23_code
def yX5_markOf : MethodName := ⟨RX5, "markOf", "(III)C"⟩
abbrev cX5_isSound : ByteArray := prog_1_method_27_code
def yX5_isSound : MethodName := ⟨RX5, "isSound", "()Z"⟩
abbrev cX5_isGrade : ByteArray := prog_1_method_28_code
def yX5_isGrade : MethodName := ⟨RX5, "isGrade", "(I)Z"⟩
abbrev cX5_isRule : ByteArray := prog_1_method_29_code
def yX5_isRule : MethodName := ⟨RX5, "isRule", "(III)Z"⟩
abbrev cX5_isReader : ByteArray := prog_1_method_30_code
def yX5_isReader : MethodName := ⟨RX5, "isReader", "(I)Z"⟩
abbrev cX5_typedKey : ByteArray := prog_1_method_31_code
def yX5_typedKey : MethodName := ⟨RX5, "typedKey", "()I"⟩
abbrev cX5_textNumbered : ByteArray := prog_1_method_32_code
def yX5_textNumbered : MethodName := ⟨RX5, "textNumbered", "(I)LDotpress$Text;"⟩
abbrev cX5_textWithWord : ByteArray := prog_1_method_33_code
def yX5_textWithWord : MethodName := ⟨RX5, "textWithWord", "(II)LDotpress$Text;"⟩
abbrev cX5_translateTexts : ByteArray := prog_1_method_34_code
def yX5_translateTexts : MethodName := ⟨RX5, "translateTexts", "()I"⟩
abbrev cX5_planLine : ByteArray := prog_1_method_35_code
def yX5_planLine : MethodName := ⟨RX5, "planLine", "(LDotpress$Text;I)V"⟩
def RX6 : String := "DotpressModel"
def TX6 : u_T := fun k => match k with
  | _ => ("", "", "", false)
def tyX6 : Nat → FieldType := fun k => match k with
  | _ => .int
abbrev wsX60 : List Cond := u_ws RX6 TX6 0
theorem nmX6 : ∀ a, a < 0 → ∀ b, b < 0 → a ≠ b → (TX6 a).2.1 ≠ (TX6 b).2.1 := by decide +kernel
theorem tyX6_ok : ∀ k, k < 0 → parseFieldDescriptor (TX6 k).2.2.1 = some (tyX6 k) := by decide +kernel
def RJx145de : String := "java/io/Serializable"
def TJx145de : u_T := fun k => match k with
  | _ => ("", "", "", false)
def tyJx145de : Nat → FieldType := fun k => match k with
  | _ => .int
abbrev wsJx145de0 : List Cond := u_ws RJx145de TJx145de 0
theorem nmJx145de : ∀ a, a < 0 → ∀ b, b < 0 → a ≠ b → (TJx145de a).2.1 ≠ (TJx145de b).2.1 := by decide +kernel
theorem tyJx145de_ok : ∀ k, k < 0 → parseFieldDescriptor (TJx145de k).2.2.1 = some (tyJx145de k) := by decide +kernel
def RJ5 : String := "java/lang/AbstractStringBuilder"
def TJ5 : u_T := fun k => match k with
  | _ => ("", "", "", false)
def tyJ5 : Nat → FieldType := fun k => match k with
  | _ => .int
abbrev wsJ50 : List Cond := u_ws RJ5 TJ5 0
theorem nmJ5 : ∀ a, a < 0 → ∀ b, b < 0 → a ≠ b → (TJ5 a).2.1 ≠ (TJ5 b).2.1 := by decide +kernel
theorem tyJ5_ok : ∀ k, k < 0 → parseFieldDescriptor (TJ5 k).2.2.1 = some (tyJ5 k) := by decide +kernel
abbrev cJ5_init_d00df : ByteArray := prog_10_method_2_code
def yJ5_init_d00df : MethodName := ⟨RJ5, "<init>", "(I)V"⟩
abbrev cJ5_length_8abf5 : ByteArray := prog_10_method_6_code
def yJ5_length_8abf5 : MethodName := ⟨RJ5, "length", "()I"⟩
abbrev cJ5_ensureCapacityInternal_d00df : ByteArray := prog_10_method_9_code
def yJ5_ensureCapacityInternal_d00df : MethodName := ⟨RJ5, "ensureCapacityInternal", "(I)V"⟩
abbrev cJ5_newCapacity_0f7a4 : ByteArray := prog_10_method_10_code
def yJ5_newCapacity_0f7a4 : MethodName := ⟨RJ5, "newCapacity", "(I)I"⟩
abbrev cJ5_inflate_da8c8 : ByteArray := prog_10_method_11_code
def yJ5_inflate_da8c8 : MethodName := ⟨RJ5, "inflate", "()V"⟩
abbrev cJ5_append_cf1ce : ByteArray := prog_10_method_22_code
def yJ5_append_cf1ce : MethodName := ⟨RJ5, "append", "(Ljava/lang/String;)Ljava/lang/AbstractStringBuilder;"⟩
abbrev cJ5_appendNull_278bc : ByteArray := prog_10_method_26_code
def yJ5_appendNull_278bc : MethodName := ⟨RJ5, "appendNull", "()Ljava/lang/AbstractStringBuilder;"⟩
abbrev cJ5_append_3fe6f : ByteArray := prog_10_method_31_code
def yJ5_append_3fe6f : MethodName := ⟨RJ5, "append", "(C)Ljava/lang/AbstractStringBuilder;"⟩
abbrev cJ5_getValue_6d5f1 : ByteArray := prog_10_method_64_code
def yJ5_getValue_6d5f1 : MethodName := ⟨RJ5, "getValue", "()[B"⟩
abbrev cJ5_isLatin1_aae02 : ByteArray := prog_10_method_68_code
def yJ5_isLatin1_aae02 : MethodName := ⟨RJ5, "isLatin1", "()Z"⟩
abbrev cJ5_inflateIfNeededFor_a7421 : ByteArray := prog_10_method_71_code
def yJ5_inflateIfNeededFor_a7421 : MethodName := ⟨RJ5, "inflateIfNeededFor", "(Ljava/lang/String;)V"⟩
abbrev cJ5_putStringAt_47b60 : ByteArray := prog_10_method_73_code
def yJ5_putStringAt_47b60 : MethodName := ⟨RJ5, "putStringAt", "(ILjava/lang/String;)V"⟩
def RJx2cfe8 : String := "java/lang/Appendable"
def TJx2cfe8 : u_T := fun k => match k with
  | _ => ("", "", "", false)
def tyJx2cfe8 : Nat → FieldType := fun k => match k with
  | _ => .int
abbrev wsJx2cfe80 : List Cond := u_ws RJx2cfe8 TJx2cfe8 0
theorem nmJx2cfe8 : ∀ a, a < 0 → ∀ b, b < 0 → a ≠ b → (TJx2cfe8 a).2.1 ≠ (TJx2cfe8 b).2.1 := by decide +kernel
theorem tyJx2cfe8_ok : ∀ k, k < 0 → parseFieldDescriptor (TJx2cfe8 k).2.2.1 = some (tyJx2cfe8 k) := by decide +kernel
def RJx9f9b0 : String := "java/lang/CharSequence"
def TJx9f9b0 : u_T := fun k => match k with
  | _ => ("", "", "", false)
def tyJx9f9b0 : Nat → FieldType := fun k => match k with
  | _ => .int
abbrev wsJx9f9b00 : List Cond := u_ws RJx9f9b0 TJx9f9b0 0
theorem nmJx9f9b0 : ∀ a, a < 0 → ∀ b, b < 0 → a ≠ b → (TJx9f9b0 a).2.1 ≠ (TJx9f9b0 b).2.1 := by decide +kernel
theorem tyJx9f9b0_ok : ∀ k, k < 0 → parseFieldDescriptor (TJx9f9b0 k).2.2.1 = some (tyJx9f9b0 k) := by decide +kernel
def RJx8e188 : String := "java/lang/Cloneable"
def TJx8e188 : u_T := fun k => match k with
  | _ => ("", "", "", false)
def tyJx8e188 : Nat → FieldType := fun k => match k with
  | _ => .int
abbrev wsJx8e1880 : List Cond := u_ws RJx8e188 TJx8e188 0
theorem nmJx8e188 : ∀ a, a < 0 → ∀ b, b < 0 → a ≠ b → (TJx8e188 a).2.1 ≠ (TJx8e188 b).2.1 := by decide +kernel
theorem tyJx8e188_ok : ∀ k, k < 0 → parseFieldDescriptor (TJx8e188 k).2.2.1 = some (tyJx8e188 k) := by decide +kernel
def RJxb160c : String := "java/lang/Comparable"
def TJxb160c : u_T := fun k => match k with
  | _ => ("", "", "", false)
def tyJxb160c : Nat → FieldType := fun k => match k with
  | _ => .int
abbrev wsJxb160c0 : List Cond := u_ws RJxb160c TJxb160c 0
theorem nmJxb160c : ∀ a, a < 0 → ∀ b, b < 0 → a ≠ b → (TJxb160c a).2.1 ≠ (TJxb160c b).2.1 := by decide +kernel
theorem tyJxb160c_ok : ∀ k, k < 0 → parseFieldDescriptor (TJxb160c k).2.2.1 = some (tyJxb160c k) := by decide +kernel
def RJ9 : String := "java/lang/Math"
def TJ9 : u_T := fun k => match k with
  | _ => ("", "", "", false)
def tyJ9 : Nat → FieldType := fun k => match k with
  | _ => .int
abbrev wsJ90 : List Cond := u_ws RJ9 TJ9 0
theorem nmJ9 : ∀ a, a < 0 → ∀ b, b < 0 → a ≠ b → (TJ9 a).2.1 ≠ (TJ9 b).2.1 := by decide +kernel
theorem tyJ9_ok : ∀ k, k < 0 → parseFieldDescriptor (TJ9 k).2.2.1 = some (tyJ9 k) := by decide +kernel
abbrev cJ9_max_7cf53 : ByteArray := prog_19_method_65_code
def yJ9_max_7cf53 : MethodName := ⟨RJ9, "max", "(II)I"⟩
abbrev cJ9_min_7cf53 : ByteArray := prog_19_method_69_code
def yJ9_min_7cf53 : MethodName := ⟨RJ9, "min", "(II)I"⟩
def RJ0 : String := "java/lang/String"
def TJ0 : u_T := fun k => match k with
  | 0 => ("java/lang/String", "value", "[B", true)
  | 1 => ("java/lang/String", "coder", "B", true)
  | 2 => ("java/lang/String", "hash", "I", false)
  | _ => ("java/lang/String", "hashIsZero", "Z", false)
def tyJ0 : Nat → FieldType := fun k => match k with
  | 0 => .array .byte
  | 1 => .byte
  | 2 => .int
  | _ => .boolean
abbrev wsJ00 : List Cond := u_ws RJ0 TJ0 4
theorem nmJ0 : ∀ a, a < 4 → ∀ b, b < 4 → a ≠ b → (TJ0 a).2.1 ≠ (TJ0 b).2.1 := by decide +kernel
theorem tyJ0_ok : ∀ k, k < 4 → parseFieldDescriptor (TJ0 k).2.2.1 = some (tyJ0 k) := by decide +kernel
abbrev cJ0_init_81219 : ByteArray := prog_21_method_53_code
def yJ0_init_81219 : MethodName := ⟨RJ0, "<init>", "(Ljava/lang/StringBuilder;)V"⟩
abbrev cJ0_length_8abf5 : ByteArray := prog_21_method_54_code
def yJ0_length_8abf5 : MethodName := ⟨RJ0, "length", "()I"⟩
abbrev cJ0_charAt_5068e : ByteArray := prog_21_method_56_code
def yJ0_charAt_5068e : MethodName := ⟨RJ0, "charAt", "(I)C"⟩
abbrev cJ0_getBytes_840e7 : ByteArray := prog_21_method_147_code
def yJ0_getBytes_840e7 : MethodName := ⟨RJ0, "getBytes", "([BIB)V"⟩
abbrev cJ0_init_db425 : ByteArray := prog_21_method_150_code
def yJ0_init_db425 : MethodName := ⟨RJ0, "<init>", "(Ljava/lang/AbstractStringBuilder;Ljava/lang/Void;)V"⟩
abbrev cJ0_coder_7d493 : ByteArray := prog_21_method_152_code
def yJ0_coder_7d493 : MethodName := ⟨RJ0, "coder", "()B"⟩
abbrev cJ0_isLatin1_aae02 : ByteArray := prog_21_method_154_code
def yJ0_isLatin1_aae02 : MethodName := ⟨RJ0, "isLatin1", "()Z"⟩
abbrev cJ0_checkIndex_df160 : ByteArray := prog_21_method_155_code
def yJ0_checkIndex_df160 : MethodName := ⟨RJ0, "checkIndex", "(II)V"⟩
abbrev cJ0_checkBoundsOffCount_cabcc : ByteArray := prog_21_method_157_code
def yJ0_checkBoundsOffCount_cabcc : MethodName := ⟨RJ0, "checkBoundsOffCount", "(III)I"⟩
abbrev cJ0_checkBoundsBeginEnd_23922 : ByteArray := prog_21_method_158_code
def yJ0_checkBoundsBeginEnd_23922 : MethodName := ⟨RJ0, "checkBoundsBeginEnd", "(III)V"⟩
def RJ4 : String := "java/lang/StringBuilder"
def TJ4 : u_T := fun k => match k with
  | 0 => ("java/lang/AbstractStringBuilder", "value", "[B", false)
  | 1 => ("java/lang/AbstractStringBuilder", "coder", "B", false)
  | 2 => ("java/lang/AbstractStringBuilder", "maybeLatin1", "Z", false)
  | _ => ("java/lang/AbstractStringBuilder", "count", "I", false)
def tyJ4 : Nat → FieldType := fun k => match k with
  | 0 => .array .byte
  | 1 => .byte
  | 2 => .boolean
  | _ => .int
abbrev wsJ40 : List Cond := u_ws RJ4 TJ4 4
theorem nmJ4 : ∀ a, a < 4 → ∀ b, b < 4 → a ≠ b → (TJ4 a).2.1 ≠ (TJ4 b).2.1 := by decide +kernel
theorem tyJ4_ok : ∀ k, k < 4 → parseFieldDescriptor (TJ4 k).2.2.1 = some (tyJ4 k) := by decide +kernel
abbrev cJ4_init_da8c8 : ByteArray := prog_22_method_1_code
def yJ4_init_da8c8 : MethodName := ⟨RJ4, "<init>", "()V"⟩
abbrev cJ4_append_15ec4 : ByteArray := prog_22_method_7_code
def yJ4_append_15ec4 : MethodName := ⟨RJ4, "append", "(Ljava/lang/String;)Ljava/lang/StringBuilder;"⟩
abbrev cJ4_append_cf468 : ByteArray := prog_22_method_14_code
def yJ4_append_cf468 : MethodName := ⟨RJ4, "append", "(C)Ljava/lang/StringBuilder;"⟩
abbrev cJ4_toString_0e30d : ByteArray := prog_22_method_42_code
def yJ4_toString_0e30d : MethodName := ⟨RJ4, "toString", "()Ljava/lang/String;"⟩
abbrev cJ4_length_8abf5 : ByteArray := prog_22_method_93_code
def yJ4_length_8abf5 : MethodName := ⟨RJ4, "length", "()I"⟩
def RJ1 : String := "java/lang/StringLatin1"
def TJ1 : u_T := fun k => match k with
  | _ => ("", "", "", false)
def tyJ1 : Nat → FieldType := fun k => match k with
  | _ => .int
abbrev wsJ10 : List Cond := u_ws RJ1 TJ1 0
theorem nmJ1 : ∀ a, a < 0 → ∀ b, b < 0 → a ≠ b → (TJ1 a).2.1 ≠ (TJ1 b).2.1 := by decide +kernel
theorem tyJ1_ok : ∀ k, k < 0 → parseFieldDescriptor (TJ1 k).2.2.1 = some (tyJ1 k) := by decide +kernel
abbrev cJ1_charAt_3b067 : ByteArray := prog_23_method_2_code
def yJ1_charAt_3b067 : MethodName := ⟨RJ1, "charAt", "([BI)C"⟩
abbrev cJ1_canEncode_fc78d : ByteArray := prog_23_method_3_code
def yJ1_canEncode_fc78d : MethodName := ⟨RJ1, "canEncode", "(C)Z"⟩
abbrev cJ1_inflate_0e8fd : ByteArray := prog_23_method_50_code
def yJ1_inflate_0e8fd : MethodName := ⟨RJ1, "inflate", "([BI[BII)V"⟩
def RJ2 : String := "java/lang/StringUTF16"
def TJ2 : u_T := fun k => match k with
  | _ => ("", "", "", false)
def tyJ2 : Nat → FieldType := fun k => match k with
  | _ => .int
abbrev wsJ20 : List Cond := u_ws RJ2 TJ2 0
theorem nmJ2 : ∀ a, a < 0 → ∀ b, b < 0 → a ≠ b → (TJ2 a).2.1 ≠ (TJ2 b).2.1 := by decide +kernel
theorem tyJ2_ok : ∀ k, k < 0 → parseFieldDescriptor (TJ2 k).2.2.1 = some (tyJ2 k) := by decide +kernel
abbrev cJ2_newBytesFor_77867 : ByteArray := prog_24_method_2_code
def yJ2_newBytesFor_77867 : MethodName := ⟨RJ2, "newBytesFor", "(I)[B"⟩
abbrev cJ2_newBytesLength_0f7a4 : ByteArray := prog_24_method_3_code
def yJ2_newBytesLength_0f7a4 : MethodName := ⟨RJ2, "newBytesLength", "(I)I"⟩
abbrev cJ2_putChar_b72d1 : ByteArray := prog_24_method_4_code
def yJ2_putChar_b72d1 : MethodName := ⟨RJ2, "putChar", "([BII)V"⟩
abbrev cJ2_getChar_3b067 : ByteArray := prog_24_method_5_code
def yJ2_getChar_3b067 : MethodName := ⟨RJ2, "getChar", "([BI)C"⟩
abbrev cJ2_length_9d52b : ByteArray := prog_24_method_6_code
def yJ2_length_9d52b : MethodName := ⟨RJ2, "length", "([B)I"⟩
abbrev cJ2_coderFromArrayLen_85cad : ByteArray := prog_24_method_15_code
def yJ2_coderFromArrayLen_85cad : MethodName := ⟨RJ2, "coderFromArrayLen", "([BI)B"⟩
abbrev cJ2_compress_39247 : ByteArray := prog_24_method_17_code
def yJ2_compress_39247 : MethodName := ⟨RJ2, "compress", "([BII)[B"⟩
abbrev cJ2_compress_5af95 : ByteArray := prog_24_method_22_code
def yJ2_compress_5af95 : MethodName := ⟨RJ2, "compress", "([BI[BII)I"⟩
abbrev cJ2_putCharSB_b72d1 : ByteArray := prog_24_method_71_code
def yJ2_putCharSB_b72d1 : MethodName := ⟨RJ2, "putCharSB", "([BII)V"⟩
abbrev cJ2_putCharsAt_cd4e5 : ByteArray := prog_24_method_81_code
def yJ2_putCharsAt_cd4e5 : MethodName := ⟨RJ2, "putCharsAt", "([BICCCC)I"⟩
abbrev cJ2_charAt_3b067 : ByteArray := prog_24_method_83_code
def yJ2_charAt_3b067 : MethodName := ⟨RJ2, "charAt", "([BI)C"⟩
abbrev cJ2_inflate_0e8fd : ByteArray := prog_24_method_86_code
def yJ2_inflate_0e8fd : MethodName := ⟨RJ2, "inflate", "([BI[BII)V"⟩
abbrev cJ2_checkIndex_2214a : ByteArray := prog_24_method_91_code
def yJ2_checkIndex_2214a : MethodName := ⟨RJ2, "checkIndex", "(I[B)V"⟩
abbrev cJ2_checkBoundsBeginEnd_d044e : ByteArray := prog_24_method_93_code
def yJ2_checkBoundsBeginEnd_d044e : MethodName := ⟨RJ2, "checkBoundsBeginEnd", "(II[B)V"⟩
abbrev cJ2_checkBoundsOffCount_d044e : ByteArray := prog_24_method_94_code
def yJ2_checkBoundsOffCount_d044e : MethodName := ⟨RJ2, "checkBoundsOffCount", "(II[B)V"⟩
def RJ10 : String := "java/lang/System"
def TJ10 : u_T := fun k => match k with
  | _ => ("", "", "", false)
def tyJ10 : Nat → FieldType := fun k => match k with
  | _ => .int
abbrev wsJ100 : List Cond := u_ws RJ10 TJ10 0
theorem nmJ10 : ∀ a, a < 0 → ∀ b, b < 0 → a ≠ b → (TJ10 a).2.1 ≠ (TJ10 b).2.1 := by decide +kernel
theorem tyJ10_ok : ∀ k, k < 0 → parseFieldDescriptor (TJ10 k).2.2.1 = some (tyJ10 k) := by decide +kernel
def RJxfd54e : String := "java/lang/constant/Constable"
def TJxfd54e : u_T := fun k => match k with
  | _ => ("", "", "", false)
def tyJxfd54e : Nat → FieldType := fun k => match k with
  | _ => .int
abbrev wsJxfd54e0 : List Cond := u_ws RJxfd54e TJxfd54e 0
theorem nmJxfd54e : ∀ a, a < 0 → ∀ b, b < 0 → a ≠ b → (TJxfd54e a).2.1 ≠ (TJxfd54e b).2.1 := by decide +kernel
theorem tyJxfd54e_ok : ∀ k, k < 0 → parseFieldDescriptor (TJxfd54e k).2.2.1 = some (tyJxfd54e k) := by decide +kernel
def RJx3cf43 : String := "java/lang/constant/ConstantDesc"
def TJx3cf43 : u_T := fun k => match k with
  | _ => ("", "", "", false)
def tyJx3cf43 : Nat → FieldType := fun k => match k with
  | _ => .int
abbrev wsJx3cf430 : List Cond := u_ws RJx3cf43 TJx3cf43 0
theorem nmJx3cf43 : ∀ a, a < 0 → ∀ b, b < 0 → a ≠ b → (TJx3cf43 a).2.1 ≠ (TJx3cf43 b).2.1 := by decide +kernel
theorem tyJx3cf43_ok : ∀ k, k < 0 → parseFieldDescriptor (TJx3cf43 k).2.2.1 = some (tyJx3cf43 k) := by decide +kernel
def RJ7 : String := "java/util/Arrays"
def TJ7 : u_T := fun k => match k with
  | _ => ("", "", "", false)
def tyJ7 : Nat → FieldType := fun k => match k with
  | _ => .int
abbrev wsJ70 : List Cond := u_ws RJ7 TJ7 0
theorem nmJ7 : ∀ a, a < 0 → ∀ b, b < 0 → a ≠ b → (TJ7 a).2.1 ≠ (TJ7 b).2.1 := by decide +kernel
theorem tyJ7_ok : ∀ k, k < 0 → parseFieldDescriptor (TJ7 k).2.2.1 = some (tyJ7 k) := by decide +kernel
abbrev cJ7_copyOf_9075b : ByteArray := prog_30_method_121_code
def yJ7_copyOf_9075b : MethodName := ⟨RJ7, "copyOf", "([BI)[B"⟩
abbrev cJ7_checkLength_df160 : ByteArray := prog_30_method_131_code
def yJ7_checkLength_df160 : MethodName := ⟨RJ7, "checkLength", "(II)V"⟩
abbrev cJ7_copyOfRange_39247 : ByteArray := prog_30_method_132_code
def yJ7_copyOfRange_39247 : MethodName := ⟨RJ7, "copyOfRange", "([BII)[B"⟩
abbrev cJ7_copyOfRangeByte_39247 : ByteArray := prog_30_method_133_code
def yJ7_copyOfRangeByte_39247 : MethodName := ⟨RJ7, "copyOfRangeByte", "([BII)[B"⟩
def RJ8 : String := "jdk/internal/util/ArraysSupport"
def TJ8 : u_T := fun k => match k with
  | _ => ("", "", "", false)
def tyJ8 : Nat → FieldType := fun k => match k with
  | _ => .int
abbrev wsJ80 : List Cond := u_ws RJ8 TJ8 0
theorem nmJ8 : ∀ a, a < 0 → ∀ b, b < 0 → a ≠ b → (TJ8 a).2.1 ≠ (TJ8 b).2.1 := by decide +kernel
theorem tyJ8_ok : ∀ k, k < 0 → parseFieldDescriptor (TJ8 k).2.2.1 = some (tyJ8 k) := by decide +kernel
abbrev cJ8_newLength_cabcc : ByteArray := prog_32_method_27_code
def yJ8_newLength_cabcc : MethodName := ⟨RJ8, "newLength", "(III)I"⟩
abbrev cJ8_hugeLength_7cf53 : ByteArray := prog_32_method_28_code
def yJ8_hugeLength_7cf53 : MethodName := ⟨RJ8, "hugeLength", "(II)I"⟩
def RJ3 : String := "jdk/internal/util/Preconditions"
def TJ3 : u_T := fun k => match k with
  | _ => ("", "", "", false)
def tyJ3 : Nat → FieldType := fun k => match k with
  | _ => .int
abbrev wsJ30 : List Cond := u_ws RJ3 TJ3 0
theorem nmJ3 : ∀ a, a < 0 → ∀ b, b < 0 → a ≠ b → (TJ3 a).2.1 ≠ (TJ3 b).2.1 := by decide +kernel
theorem tyJ3_ok : ∀ k, k < 0 → parseFieldDescriptor (TJ3 k).2.2.1 = some (tyJ3 k) := by decide +kernel
abbrev cJ3_checkIndex_8e157 : ByteArray := prog_33_method_11_code
def yJ3_checkIndex_8e157 : MethodName := ⟨RJ3, "checkIndex", "(IILjava/util/function/BiFunction;)I"⟩
abbrev cJ3_checkFromToIndex_8c36e : ByteArray := prog_33_method_12_code
def yJ3_checkFromToIndex_8c36e : MethodName := ⟨RJ3, "checkFromToIndex", "(IIILjava/util/function/BiFunction;)I"⟩
abbrev cJ3_checkFromIndexSize_8c36e : ByteArray := prog_33_method_13_code
def yJ3_checkFromIndexSize_8c36e : MethodName := ⟨RJ3, "checkFromIndexSize", "(IIILjava/util/function/BiFunction;)I"⟩
def RL : String := "DotpressLaw"
abbrev cL_cell : ByteArray := method_2_code
def yL_cell : MethodName := ⟨RL, "cell", "([II)I"⟩
abbrev cL_low : ByteArray := method_3_code
def yL_low : MethodName := ⟨RL, "low", "(II)I"⟩
abbrev cL_types : ByteArray := method_4_code
def yL_types : MethodName := ⟨RL, "types", "(LDotpress;IIZ)V"⟩
abbrev cL_rule : ByteArray := method_5_code
def yL_rule : MethodName := ⟨RL, "rule", "(LDotpress;III)I"⟩
abbrev cL_mend : ByteArray := method_6_code
def yL_mend : MethodName := ⟨RL, "mend", "(LDotpress;III)I"⟩
abbrev cL_turns : ByteArray := method_7_code
def yL_turns : MethodName := ⟨RL, "turns", "(LDotpress;)Z"⟩
abbrev cL_emboss : ByteArray := method_8_code
def yL_emboss : MethodName := ⟨RL, "emboss", "(LDotpress;I)I"⟩
abbrev cL_line : ByteArray := method_9_code
def yL_line : MethodName := ⟨RL, "line", "(LDotpress;II)Ljava/lang/String;"⟩
abbrev cL_word : ByteArray := method_10_code
def yL_word : MethodName := ⟨RL, "word", "(LDotpress;II)Ljava/lang/String;"⟩
abbrev cL_areAlike : ByteArray := method_11_code
def yL_areAlike : MethodName := ⟨RL, "areAlike", "(Ljava/lang/String;Ljava/lang/String;)Z"⟩
abbrev cL_isSet : ByteArray := method_12_code
def yL_isSet : MethodName := ⟨RL, "isSet", "(LDotpress;II)Z"⟩
abbrev cL_isEmbossed : ByteArray := method_13_code
def yL_isEmbossed : MethodName := ⟨RL, "isEmbossed", "(LDotpress;I[Ljava/lang/String;)Z"⟩
abbrev cL_acts : ByteArray := method_14_code
def yL_acts : MethodName := ⟨RL, "acts", "(LDotpress;II[[Ljava/lang/String;)Z"⟩
abbrev cL_law : ByteArray := code
def yL_law : MethodName := ⟨RL, "law", "([I)Z"⟩
abbrev jCl : List vw_C := [(RX0, TX0, 3), (RX1, TX1, 2), (RX2, TX2, 2), (RX3, TX3, 5), (RX4, TX4, 7), (RX5, TX5, 7), (RJ4, TJ4, 4), (RJ0, TJ0, 4)]
end
section
/-! the words of the tables by their places (program: wip/gen/words.py) -/
/-- the private methods of AbstractStringBuilder, as a StringBuilder calls them -/
def jPr : List MethodName := [yJ5_ensureCapacityInternal_d00df, yJ5_newCapacity_0f7a4, yJ5_putStringAt_47b60, yJ5_inflateIfNeededFor_a7421]
def jTbl : List Cond := (jPr.map fun y => Cond.selects RJ4 y y) ++ lw_tbl
def gT : List Cond := jTbl.filter goodWord
theorem gT_mem {i : Nat} {w : Cond} (h : jTbl[i]? = some w) (hg : goodWord w = true) : w ∈ gT := List.mem_filter.mpr ⟨List.mem_of_getElem? h, hg⟩
theorem gT_sub : ∀ w ∈ gT, w ∈ jTbl := fun _ h => (List.mem_filter.mp h).1
theorem gT_good : ∀ w ∈ gT, goodWord w = true := fun _ h => (List.mem_filter.mp h).2
theorem ini_L : Cond.initialized RL ∈ gT := gT_mem (i := 13) (by decide +kernel) (by decide +kernel)
theorem ini_X5 : Cond.initialized RX5 ∈ gT := gT_mem (i := 14) (by decide +kernel) (by decide +kernel)
theorem ini_X2 : Cond.initialized RX2 ∈ gT := gT_mem (i := 15) (by decide +kernel) (by decide +kernel)
theorem ini_X3 : Cond.initialized RX3 ∈ gT := gT_mem (i := 16) (by decide +kernel) (by decide +kernel)
theorem ini_X1 : Cond.initialized RX1 ∈ gT := gT_mem (i := 17) (by decide +kernel) (by decide +kernel)
theorem ini_X0 : Cond.initialized RX0 ∈ gT := gT_mem (i := 18) (by decide +kernel) (by decide +kernel)
theorem ini_Throwable : Cond.initialized "java/lang/Throwable" ∈ gT := gT_mem (i := 19) (by decide +kernel) (by decide +kernel)
theorem ini_Exception : Cond.initialized "java/lang/Exception" ∈ gT := gT_mem (i := 20) (by decide +kernel) (by decide +kernel)
theorem ini_RuntimeException : Cond.initialized "java/lang/RuntimeException" ∈ gT := gT_mem (i := 21) (by decide +kernel) (by decide +kernel)
theorem ini_IllegalArgumentException : Cond.initialized "java/lang/IllegalArgumentException" ∈ gT := gT_mem (i := 22) (by decide +kernel) (by decide +kernel)
theorem ini_J0 : Cond.initialized RJ0 ∈ gT := gT_mem (i := 23) (by decide +kernel) (by decide +kernel)
theorem ini_J1 : Cond.initialized RJ1 ∈ gT := gT_mem (i := 24) (by decide +kernel) (by decide +kernel)
theorem ini_J3 : Cond.initialized RJ3 ∈ gT := gT_mem (i := 25) (by decide +kernel) (by decide +kernel)
theorem ini_J2 : Cond.initialized RJ2 ∈ gT := gT_mem (i := 26) (by decide +kernel) (by decide +kernel)
theorem ini_IllegalStateException : Cond.initialized "java/lang/IllegalStateException" ∈ gT := gT_mem (i := 27) (by decide +kernel) (by decide +kernel)
theorem ini_IndexOutOfBoundsException : Cond.initialized "java/lang/IndexOutOfBoundsException" ∈ gT := gT_mem (i := 28) (by decide +kernel) (by decide +kernel)
theorem ini_X4 : Cond.initialized RX4 ∈ gT := gT_mem (i := 29) (by decide +kernel) (by decide +kernel)
theorem ini_J9 : Cond.initialized RJ9 ∈ gT := gT_mem (i := 30) (by decide +kernel) (by decide +kernel)
theorem ini_J5 : Cond.initialized RJ5 ∈ gT := gT_mem (i := 31) (by decide +kernel) (by decide +kernel)
theorem ini_J4 : Cond.initialized RJ4 ∈ gT := gT_mem (i := 32) (by decide +kernel) (by decide +kernel)
theorem ini_J8 : Cond.initialized RJ8 ∈ gT := gT_mem (i := 33) (by decide +kernel) (by decide +kernel)
theorem ini_J7 : Cond.initialized RJ7 ∈ gT := gT_mem (i := 34) (by decide +kernel) (by decide +kernel)
theorem ini_J10 : Cond.initialized RJ10 ∈ gT := gT_mem (i := 35) (by decide +kernel) (by decide +kernel)
theorem ini_NoSuchElementException : Cond.initialized "java/util/NoSuchElementException" ∈ gT := gT_mem (i := 36) (by decide +kernel) (by decide +kernel)
theorem ini_UnsupportedOperationException : Cond.initialized "java/lang/UnsupportedOperationException" ∈ gT := gT_mem (i := 37) (by decide +kernel) (by decide +kernel)
theorem cl_L_10 : Cond.classLink RL 10 RX5 ∈ gT := gT_mem (i := 38) (by decide +kernel) (by decide +kernel)
theorem ins_X5 : Cond.instantiable RX5 7 ∈ gT := gT_mem (i := 39) (by decide +kernel) (by decide +kernel)
theorem ml_L_150 : Cond.methodLink RL 150 yX5_init ∈ gT := gT_mem (i := 40) (by decide +kernel) (by decide +kernel)
theorem im_yX5_init : Cond.instanceMethod yX5_init ∈ gT := gT_mem (i := 41) (by decide +kernel) (by decide +kernel)
theorem cd_yX5_init : Cond.code yX5_init cX5_init 1 none ∈ gT := gT_mem (i := 42) (by decide +kernel) (by decide +kernel)
theorem ml_X5_3 : Cond.methodLink RX5 3 ⟨"java/lang/Object", "<init>", "()V"⟩ ∈ gT := gT_mem (i := 43) (by decide +kernel) (by decide +kernel)
theorem cl_X5_9 : Cond.classLink RX5 9 RX2 ∈ gT := gT_mem (i := 46) (by decide +kernel) (by decide +kernel)
theorem ins_X2 : Cond.instantiable RX2 2 ∈ gT := gT_mem (i := 47) (by decide +kernel) (by decide +kernel)
theorem ml_X5_11 : Cond.methodLink RX5 11 yX2_init ∈ gT := gT_mem (i := 48) (by decide +kernel) (by decide +kernel)
theorem im_yX2_init : Cond.instanceMethod yX2_init ∈ gT := gT_mem (i := 49) (by decide +kernel) (by decide +kernel)
theorem cd_yX2_init : Cond.code yX2_init cX2_init 2 none ∈ gT := gT_mem (i := 50) (by decide +kernel) (by decide +kernel)
theorem ml_X2_3 : Cond.methodLink RX2 3 ⟨"java/lang/Object", "<init>", "()V"⟩ ∈ gT := gT_mem (i := 51) (by decide +kernel) (by decide +kernel)
theorem fl_X2_15 : Cond.fieldLink RX2 15 "Dotpress$Row" "numbers" "[I" ∈ gT := gT_mem (i := 52) (by decide +kernel) (by decide +kernel)
theorem fl_X2_9 : Cond.fieldLink RX2 9 "Dotpress$Row" "count" "I" ∈ gT := gT_mem (i := 53) (by decide +kernel) (by decide +kernel)
theorem su_X2 : Cond.superclass RX2 "java/lang/Object" ∈ gT := gT_mem (i := 58) (by decide +kernel) (by decide +kernel)
theorem ac_int : Cond.arrayClass .int ∈ gT := gT_mem (i := 59) (by decide +kernel) (by decide +kernel)
theorem cl_X5_18 : Cond.classLink RX5 18 RX3 ∈ gT := gT_mem (i := 60) (by decide +kernel) (by decide +kernel)
theorem ins_X3 : Cond.instantiable RX3 5 ∈ gT := gT_mem (i := 61) (by decide +kernel) (by decide +kernel)
theorem mn_X5_20 : Cond.methodLinkNest RX5 20 yX3_init RX5 ∈ jTbl := List.mem_of_getElem? (i := 62) (by decide +kernel)
theorem im_yX3_init : Cond.instanceMethod yX3_init ∈ gT := gT_mem (i := 63) (by decide +kernel) (by decide +kernel)
theorem cd_yX3_init : Cond.code yX3_init cX3_init 1 none ∈ gT := gT_mem (i := 64) (by decide +kernel) (by decide +kernel)
theorem ml_X3_5 : Cond.methodLink RX3 5 ⟨"java/lang/Object", "<init>", "()V"⟩ ∈ gT := gT_mem (i := 65) (by decide +kernel) (by decide +kernel)
theorem cl_X3_11 : Cond.classLink RX3 11 RX2 ∈ gT := gT_mem (i := 66) (by decide +kernel) (by decide +kernel)
theorem ml_X3_13 : Cond.methodLink RX3 13 yX2_init ∈ gT := gT_mem (i := 67) (by decide +kernel) (by decide +kernel)
theorem cl_X3_29 : Cond.classLink RX3 29 RX1 ∈ gT := gT_mem (i := 68) (by decide +kernel) (by decide +kernel)
theorem ins_X1 : Cond.instantiable RX1 2 ∈ gT := gT_mem (i := 69) (by decide +kernel) (by decide +kernel)
theorem ml_X3_31 : Cond.methodLink RX3 31 yX1_init ∈ gT := gT_mem (i := 70) (by decide +kernel) (by decide +kernel)
theorem im_yX1_init : Cond.instanceMethod yX1_init ∈ gT := gT_mem (i := 71) (by decide +kernel) (by decide +kernel)
theorem cd_yX1_init : Cond.code yX1_init cX1_init 3 none ∈ gT := gT_mem (i := 72) (by decide +kernel) (by decide +kernel)
theorem ml_X1_1 : Cond.methodLink RX1 1 ⟨"java/lang/Object", "<init>", "()V"⟩ ∈ gT := gT_mem (i := 73) (by decide +kernel) (by decide +kernel)
theorem cl_X1_7 : Cond.classLink RX1 7 RX2 ∈ gT := gT_mem (i := 74) (by decide +kernel) (by decide +kernel)
theorem ml_X1_9 : Cond.methodLink RX1 9 yX2_init ∈ gT := gT_mem (i := 75) (by decide +kernel) (by decide +kernel)
theorem fl_X1_12 : Cond.fieldLink RX1 12 "Dotpress$Pieces" "numbers" "LDotpress$Row;" ∈ gT := gT_mem (i := 76) (by decide +kernel) (by decide +kernel)
theorem fl_X1_18 : Cond.fieldLink RX1 18 "Dotpress$Pieces" "ends" "LDotpress$Row;" ∈ gT := gT_mem (i := 77) (by decide +kernel) (by decide +kernel)
theorem su_X1 : Cond.superclass RX1 "java/lang/Object" ∈ gT := gT_mem (i := 82) (by decide +kernel) (by decide +kernel)
theorem fl_X3_16 : Cond.fieldLink RX3 16 "Dotpress$RuleBook" "keys" "LDotpress$Row;" ∈ gT := gT_mem (i := 83) (by decide +kernel) (by decide +kernel)
theorem fl_X3_20 : Cond.fieldLink RX3 20 "Dotpress$RuleBook" "grades" "LDotpress$Row;" ∈ gT := gT_mem (i := 84) (by decide +kernel) (by decide +kernel)
theorem fl_X3_23 : Cond.fieldLink RX3 23 "Dotpress$RuleBook" "firsts" "LDotpress$Row;" ∈ gT := gT_mem (i := 85) (by decide +kernel) (by decide +kernel)
theorem fl_X3_26 : Cond.fieldLink RX3 26 "Dotpress$RuleBook" "seconds" "LDotpress$Row;" ∈ gT := gT_mem (i := 86) (by decide +kernel) (by decide +kernel)
theorem fl_X3_34 : Cond.fieldLink RX3 34 "Dotpress$RuleBook" "exceptions" "LDotpress$Pieces;" ∈ gT := gT_mem (i := 87) (by decide +kernel) (by decide +kernel)
theorem su_X3 : Cond.superclass RX3 "java/lang/Object" ∈ gT := gT_mem (i := 98) (by decide +kernel) (by decide +kernel)
theorem cl_X5_25 : Cond.classLink RX5 25 RX0 ∈ gT := gT_mem (i := 99) (by decide +kernel) (by decide +kernel)
theorem ins_X0 : Cond.instantiable RX0 3 ∈ gT := gT_mem (i := 100) (by decide +kernel) (by decide +kernel)
theorem ml_X5_27 : Cond.methodLink RX5 27 yX0_init ∈ gT := gT_mem (i := 101) (by decide +kernel) (by decide +kernel)
theorem im_yX0_init : Cond.instanceMethod yX0_init ∈ gT := gT_mem (i := 102) (by decide +kernel) (by decide +kernel)
theorem cd_yX0_init : Cond.code yX0_init cX0_init 2 none ∈ gT := gT_mem (i := 103) (by decide +kernel) (by decide +kernel)
theorem ml_X0_3 : Cond.methodLink RX0 3 ⟨"java/lang/Object", "<init>", "()V"⟩ ∈ gT := gT_mem (i := 104) (by decide +kernel) (by decide +kernel)
theorem cl_X0_9 : Cond.classLink RX0 9 RX2 ∈ gT := gT_mem (i := 105) (by decide +kernel) (by decide +kernel)
theorem ml_X0_11 : Cond.methodLink RX0 11 yX2_init ∈ gT := gT_mem (i := 106) (by decide +kernel) (by decide +kernel)
theorem ml_X0_27 : Cond.methodLink RX0 27 yX2_add ∈ gT := gT_mem (i := 107) (by decide +kernel) (by decide +kernel)
theorem im_yX2_add : Cond.instanceMethod yX2_add ∈ gT := gT_mem (i := 108) (by decide +kernel) (by decide +kernel)
theorem se_yX2_add : Cond.selects RX2 yX2_add yX2_add ∈ gT := gT_mem (i := 109) (by decide +kernel) (by decide +kernel)
theorem cd_yX2_add : Cond.code yX2_add cX2_add 2 none ∈ gT := gT_mem (i := 110) (by decide +kernel) (by decide +kernel)
theorem fl_X0_14 : Cond.fieldLink RX0 14 "Dotpress$Embosser" "wear" "LDotpress$Row;" ∈ gT := gT_mem (i := 111) (by decide +kernel) (by decide +kernel)
theorem fl_X0_20 : Cond.fieldLink RX0 20 "Dotpress$Embosser" "plan" "LDotpress$Row;" ∈ gT := gT_mem (i := 112) (by decide +kernel) (by decide +kernel)
theorem fl_X0_23 : Cond.fieldLink RX0 23 "Dotpress$Embosser" "bearing" "I" ∈ gT := gT_mem (i := 113) (by decide +kernel) (by decide +kernel)
theorem su_X0 : Cond.superclass RX0 "java/lang/Object" ∈ gT := gT_mem (i := 120) (by decide +kernel) (by decide +kernel)
theorem cl_X5_32 : Cond.classLink RX5 32 RX4 ∈ gT := gT_mem (i := 121) (by decide +kernel) (by decide +kernel)
theorem ao_Text : Cond.arrayOver (.object RX4) ∈ jTbl := List.mem_of_getElem? (i := 122) (by decide +kernel)
theorem cl_X5_38 : Cond.classLink RX5 38 RX1 ∈ gT := gT_mem (i := 123) (by decide +kernel) (by decide +kernel)
theorem ml_X5_40 : Cond.methodLink RX5 40 yX1_init ∈ gT := gT_mem (i := 124) (by decide +kernel) (by decide +kernel)
theorem fl_X5_14 : Cond.fieldLink RX5 14 "Dotpress" "buffer" "LDotpress$Row;" ∈ gT := gT_mem (i := 125) (by decide +kernel) (by decide +kernel)
theorem fl_X5_21 : Cond.fieldLink RX5 21 "Dotpress" "rules" "LDotpress$RuleBook;" ∈ gT := gT_mem (i := 126) (by decide +kernel) (by decide +kernel)
theorem fl_X5_28 : Cond.fieldLink RX5 28 "Dotpress" "embosser" "LDotpress$Embosser;" ∈ gT := gT_mem (i := 127) (by decide +kernel) (by decide +kernel)
theorem fl_X5_34 : Cond.fieldLink RX5 34 "Dotpress" "texts" "[LDotpress$Text;" ∈ gT := gT_mem (i := 128) (by decide +kernel) (by decide +kernel)
theorem fl_X5_43 : Cond.fieldLink RX5 43 "Dotpress" "freshCells" "LDotpress$Pieces;" ∈ gT := gT_mem (i := 129) (by decide +kernel) (by decide +kernel)
theorem fl_X5_47 : Cond.fieldLink RX5 47 "Dotpress" "textCount" "I" ∈ gT := gT_mem (i := 130) (by decide +kernel) (by decide +kernel)
theorem fl_X5_51 : Cond.fieldLink RX5 51 "Dotpress" "width" "I" ∈ gT := gT_mem (i := 131) (by decide +kernel) (by decide +kernel)
theorem su_X5 : Cond.superclass RX5 "java/lang/Object" ∈ gT := gT_mem (i := 146) (by decide +kernel) (by decide +kernel)
theorem ml_L_132 : Cond.methodLink RL 132 yX5_setText ∈ gT := gT_mem (i := 147) (by decide +kernel) (by decide +kernel)
theorem im_yX5_setText : Cond.instanceMethod yX5_setText ∈ gT := gT_mem (i := 148) (by decide +kernel) (by decide +kernel)
theorem se_yX5_setText : Cond.selects RX5 yX5_setText yX5_setText ∈ gT := gT_mem (i := 149) (by decide +kernel) (by decide +kernel)
theorem cd_yX5_setText : Cond.code yX5_setText cX5_setText 4 (some FieldType.int) ∈ gT := gT_mem (i := 150) (by decide +kernel) (by decide +kernel)
theorem cl_X5_123 : Cond.classLink RX5 123 "java/lang/IndexOutOfBoundsException" ∈ gT := gT_mem (i := 151) (by decide +kernel) (by decide +kernel)
theorem ml_X5_127 : Cond.methodLink RX5 127 ⟨"java/lang/IndexOutOfBoundsException", "<init>", "(Ljava/lang/String;)V"⟩ ∈ gT := gT_mem (i := 195) (by decide +kernel) (by decide +kernel)
theorem ac_byte : Cond.arrayClass .byte ∈ gT := gT_mem (i := 220) (by decide +kernel) (by decide +kernel)
theorem ml_X5_159 : Cond.methodLink RX5 159 yX5_isGrade ∈ gT := gT_mem (i := 221) (by decide +kernel) (by decide +kernel)
theorem st_yX5_isGrade : Cond.static yX5_isGrade ∈ gT := gT_mem (i := 222) (by decide +kernel) (by decide +kernel)
theorem cd_yX5_isGrade : Cond.code yX5_isGrade cX5_isGrade 1 (some FieldType.boolean) ∈ gT := gT_mem (i := 223) (by decide +kernel) (by decide +kernel)
theorem cl_X5_54 : Cond.classLink RX5 54 "java/lang/IllegalArgumentException" ∈ gT := gT_mem (i := 224) (by decide +kernel) (by decide +kernel)
theorem ml_X5_58 : Cond.methodLink RX5 58 ⟨"java/lang/IllegalArgumentException", "<init>", "(Ljava/lang/String;)V"⟩ ∈ gT := gT_mem (i := 234) (by decide +kernel) (by decide +kernel)
theorem ins_X4 : Cond.instantiable RX4 7 ∈ gT := gT_mem (i := 240) (by decide +kernel) (by decide +kernel)
theorem mn_X5_164 : Cond.methodLinkNest RX5 164 yX4_init RX5 ∈ jTbl := List.mem_of_getElem? (i := 241) (by decide +kernel)
theorem im_yX4_init : Cond.instanceMethod yX4_init ∈ gT := gT_mem (i := 242) (by decide +kernel) (by decide +kernel)
theorem cd_yX4_init : Cond.code yX4_init cX4_init 1 none ∈ gT := gT_mem (i := 243) (by decide +kernel) (by decide +kernel)
theorem ml_X4_3 : Cond.methodLink RX4 3 ⟨"java/lang/Object", "<init>", "()V"⟩ ∈ gT := gT_mem (i := 244) (by decide +kernel) (by decide +kernel)
theorem cl_X4_9 : Cond.classLink RX4 9 RX1 ∈ gT := gT_mem (i := 245) (by decide +kernel) (by decide +kernel)
theorem ml_X4_11 : Cond.methodLink RX4 11 yX1_init ∈ gT := gT_mem (i := 246) (by decide +kernel) (by decide +kernel)
theorem cl_X4_23 : Cond.classLink RX4 23 RX2 ∈ gT := gT_mem (i := 247) (by decide +kernel) (by decide +kernel)
theorem ml_X4_25 : Cond.methodLink RX4 25 yX2_init ∈ gT := gT_mem (i := 248) (by decide +kernel) (by decide +kernel)
theorem fl_X4_14 : Cond.fieldLink RX4 14 "Dotpress$Text" "typed" "LDotpress$Pieces;" ∈ gT := gT_mem (i := 249) (by decide +kernel) (by decide +kernel)
theorem fl_X4_20 : Cond.fieldLink RX4 20 "Dotpress$Text" "cells" "LDotpress$Pieces;" ∈ gT := gT_mem (i := 250) (by decide +kernel) (by decide +kernel)
theorem fl_X4_28 : Cond.fieldLink RX4 28 "Dotpress$Text" "marks" "LDotpress$Row;" ∈ gT := gT_mem (i := 251) (by decide +kernel) (by decide +kernel)
theorem fl_X4_32 : Cond.fieldLink RX4 32 "Dotpress$Text" "laid" "LDotpress$Pieces;" ∈ gT := gT_mem (i := 252) (by decide +kernel) (by decide +kernel)
theorem fl_X4_35 : Cond.fieldLink RX4 35 "Dotpress$Text" "firstLines" "LDotpress$Row;" ∈ gT := gT_mem (i := 253) (by decide +kernel) (by decide +kernel)
theorem fl_X4_38 : Cond.fieldLink RX4 38 "Dotpress$Text" "embossed" "LDotpress$Pieces;" ∈ gT := gT_mem (i := 254) (by decide +kernel) (by decide +kernel)
theorem fl_X4_41 : Cond.fieldLink RX4 41 "Dotpress$Text" "grade" "I" ∈ gT := gT_mem (i := 255) (by decide +kernel) (by decide +kernel)
theorem su_X4 : Cond.superclass RX4 "java/lang/Object" ∈ gT := gT_mem (i := 270) (by decide +kernel) (by decide +kernel)
theorem ml_X5_165 : Cond.methodLink RX5 165 yX4_take ∈ gT := gT_mem (i := 271) (by decide +kernel) (by decide +kernel)
theorem im_yX4_take : Cond.instanceMethod yX4_take ∈ gT := gT_mem (i := 272) (by decide +kernel) (by decide +kernel)
theorem se_yX4_take : Cond.selects RX4 yX4_take yX4_take ∈ gT := gT_mem (i := 273) (by decide +kernel) (by decide +kernel)
theorem cd_yX4_take : Cond.code yX4_take cX4_take 4 none ∈ gT := gT_mem (i := 274) (by decide +kernel) (by decide +kernel)
theorem ml_X4_45 : Cond.methodLink RX4 45 yX1_empty ∈ gT := gT_mem (i := 275) (by decide +kernel) (by decide +kernel)
theorem im_yX1_empty : Cond.instanceMethod yX1_empty ∈ gT := gT_mem (i := 276) (by decide +kernel) (by decide +kernel)
theorem se_yX1_empty : Cond.selects RX1 yX1_empty yX1_empty ∈ gT := gT_mem (i := 277) (by decide +kernel) (by decide +kernel)
theorem cd_yX1_empty : Cond.code yX1_empty cX1_empty 1 none ∈ gT := gT_mem (i := 278) (by decide +kernel) (by decide +kernel)
theorem ml_X1_42 : Cond.methodLink RX1 42 yX2_empty ∈ gT := gT_mem (i := 279) (by decide +kernel) (by decide +kernel)
theorem im_yX2_empty : Cond.instanceMethod yX2_empty ∈ gT := gT_mem (i := 280) (by decide +kernel) (by decide +kernel)
theorem se_yX2_empty : Cond.selects RX2 yX2_empty yX2_empty ∈ gT := gT_mem (i := 281) (by decide +kernel) (by decide +kernel)
theorem cd_yX2_empty : Cond.code yX2_empty cX2_empty 1 none ∈ gT := gT_mem (i := 282) (by decide +kernel) (by decide +kernel)
theorem ml_X4_48 : Cond.methodLink RX4 48 yX2_count ∈ gT := gT_mem (i := 283) (by decide +kernel) (by decide +kernel)
theorem im_yX2_count : Cond.instanceMethod yX2_count ∈ gT := gT_mem (i := 284) (by decide +kernel) (by decide +kernel)
theorem se_yX2_count : Cond.selects RX2 yX2_count yX2_count ∈ gT := gT_mem (i := 285) (by decide +kernel) (by decide +kernel)
theorem cd_yX2_count : Cond.code yX2_count cX2_count 1 (some FieldType.int) ∈ gT := gT_mem (i := 286) (by decide +kernel) (by decide +kernel)
theorem ml_X4_52 : Cond.methodLink RX4 52 yX2_get ∈ gT := gT_mem (i := 287) (by decide +kernel) (by decide +kernel)
theorem im_yX2_get : Cond.instanceMethod yX2_get ∈ gT := gT_mem (i := 288) (by decide +kernel) (by decide +kernel)
theorem se_yX2_get : Cond.selects RX2 yX2_get yX2_get ∈ gT := gT_mem (i := 289) (by decide +kernel) (by decide +kernel)
theorem cd_yX2_get : Cond.code yX2_get cX2_get 2 (some FieldType.int) ∈ gT := gT_mem (i := 290) (by decide +kernel) (by decide +kernel)
theorem ml_X4_56 : Cond.methodLink RX4 56 yX1_cut ∈ gT := gT_mem (i := 291) (by decide +kernel) (by decide +kernel)
theorem im_yX1_cut : Cond.instanceMethod yX1_cut ∈ gT := gT_mem (i := 292) (by decide +kernel) (by decide +kernel)
theorem se_yX1_cut : Cond.selects RX1 yX1_cut yX1_cut ∈ gT := gT_mem (i := 293) (by decide +kernel) (by decide +kernel)
theorem cd_yX1_cut : Cond.code yX1_cut cX1_cut 1 none ∈ gT := gT_mem (i := 294) (by decide +kernel) (by decide +kernel)
theorem ml_X1_39 : Cond.methodLink RX1 39 yX1_uncutSize ∈ gT := gT_mem (i := 295) (by decide +kernel) (by decide +kernel)
theorem im_yX1_uncutSize : Cond.instanceMethod yX1_uncutSize ∈ gT := gT_mem (i := 296) (by decide +kernel) (by decide +kernel)
theorem se_yX1_uncutSize : Cond.selects RX1 yX1_uncutSize yX1_uncutSize ∈ gT := gT_mem (i := 297) (by decide +kernel) (by decide +kernel)
theorem cd_yX1_uncutSize : Cond.code yX1_uncutSize cX1_uncutSize 1 (some FieldType.int) ∈ gT := gT_mem (i := 298) (by decide +kernel) (by decide +kernel)
theorem ml_X1_21 : Cond.methodLink RX1 21 yX2_count ∈ gT := gT_mem (i := 299) (by decide +kernel) (by decide +kernel)
theorem ml_X1_35 : Cond.methodLink RX1 35 yX1_count ∈ gT := gT_mem (i := 300) (by decide +kernel) (by decide +kernel)
theorem im_yX1_count : Cond.instanceMethod yX1_count ∈ gT := gT_mem (i := 301) (by decide +kernel) (by decide +kernel)
theorem se_yX1_count : Cond.selects RX1 yX1_count yX1_count ∈ gT := gT_mem (i := 302) (by decide +kernel) (by decide +kernel)
theorem cd_yX1_count : Cond.code yX1_count cX1_count 1 (some FieldType.int) ∈ gT := gT_mem (i := 303) (by decide +kernel) (by decide +kernel)
theorem ml_X1_32 : Cond.methodLink RX1 32 yX1_startOf ∈ gT := gT_mem (i := 304) (by decide +kernel) (by decide +kernel)
theorem im_yX1_startOf : Cond.instanceMethod yX1_startOf ∈ gT := gT_mem (i := 305) (by decide +kernel) (by decide +kernel)
theorem se_yX1_startOf : Cond.selects RX1 yX1_startOf yX1_startOf ∈ gT := gT_mem (i := 306) (by decide +kernel) (by decide +kernel)
theorem cd_yX1_startOf : Cond.code yX1_startOf cX1_startOf 2 (some FieldType.int) ∈ gT := gT_mem (i := 307) (by decide +kernel) (by decide +kernel)
theorem ml_X1_25 : Cond.methodLink RX1 25 yX2_get ∈ gT := gT_mem (i := 308) (by decide +kernel) (by decide +kernel)
theorem ml_X1_36 : Cond.methodLink RX1 36 yX2_add ∈ gT := gT_mem (i := 309) (by decide +kernel) (by decide +kernel)
theorem ml_X4_59 : Cond.methodLink RX4 59 yX1_add ∈ gT := gT_mem (i := 310) (by decide +kernel) (by decide +kernel)
theorem im_yX1_add : Cond.instanceMethod yX1_add ∈ gT := gT_mem (i := 311) (by decide +kernel) (by decide +kernel)
theorem se_yX1_add : Cond.selects RX1 yX1_add yX1_add ∈ gT := gT_mem (i := 312) (by decide +kernel) (by decide +kernel)
theorem cd_yX1_add : Cond.code yX1_add cX1_add 2 none ∈ gT := gT_mem (i := 313) (by decide +kernel) (by decide +kernel)
theorem ml_X4_62 : Cond.methodLink RX4 62 yX2_empty ∈ gT := gT_mem (i := 314) (by decide +kernel) (by decide +kernel)
theorem ml_X4_63 : Cond.methodLink RX4 63 yX1_count ∈ gT := gT_mem (i := 315) (by decide +kernel) (by decide +kernel)
theorem ml_X4_64 : Cond.methodLink RX4 64 yX2_add ∈ gT := gT_mem (i := 316) (by decide +kernel) (by decide +kernel)
theorem ml_X5_169 : Cond.methodLink RX5 169 yX4_translate ∈ gT := gT_mem (i := 317) (by decide +kernel) (by decide +kernel)
theorem im_yX4_translate : Cond.instanceMethod yX4_translate ∈ gT := gT_mem (i := 318) (by decide +kernel) (by decide +kernel)
theorem se_yX4_translate : Cond.selects RX4 yX4_translate yX4_translate ∈ gT := gT_mem (i := 319) (by decide +kernel) (by decide +kernel)
theorem cd_yX4_translate : Cond.code yX4_translate cX4_translate 5 (some FieldType.boolean) ∈ gT := gT_mem (i := 320) (by decide +kernel) (by decide +kernel)
theorem ml_X4_65 : Cond.methodLink RX4 65 yX1_uncut ∈ gT := gT_mem (i := 321) (by decide +kernel) (by decide +kernel)
theorem im_yX1_uncut : Cond.instanceMethod yX1_uncut ∈ gT := gT_mem (i := 322) (by decide +kernel) (by decide +kernel)
theorem se_yX1_uncut : Cond.selects RX1 yX1_uncut yX1_uncut ∈ gT := gT_mem (i := 323) (by decide +kernel) (by decide +kernel)
theorem cd_yX1_uncut : Cond.code yX1_uncut cX1_uncut 1 (some (FieldType.object "Dotpress$Row")) ∈ gT := gT_mem (i := 324) (by decide +kernel) (by decide +kernel)
theorem ml_X4_69 : Cond.methodLink RX4 69 yX1_startOf ∈ gT := gT_mem (i := 325) (by decide +kernel) (by decide +kernel)
theorem ml_X4_72 : Cond.methodLink RX4 72 yX1_endOf ∈ gT := gT_mem (i := 326) (by decide +kernel) (by decide +kernel)
theorem im_yX1_endOf : Cond.instanceMethod yX1_endOf ∈ gT := gT_mem (i := 327) (by decide +kernel) (by decide +kernel)
theorem se_yX1_endOf : Cond.selects RX1 yX1_endOf yX1_endOf ∈ gT := gT_mem (i := 328) (by decide +kernel) (by decide +kernel)
theorem cd_yX1_endOf : Cond.code yX1_endOf cX1_endOf 2 (some FieldType.int) ∈ gT := gT_mem (i := 329) (by decide +kernel) (by decide +kernel)
theorem ml_X4_75 : Cond.methodLink RX4 75 yX3_translate ∈ gT := gT_mem (i := 330) (by decide +kernel) (by decide +kernel)
theorem im_yX3_translate : Cond.instanceMethod yX3_translate ∈ gT := gT_mem (i := 331) (by decide +kernel) (by decide +kernel)
theorem se_yX3_translate : Cond.selects RX3 yX3_translate yX3_translate ∈ gT := gT_mem (i := 332) (by decide +kernel) (by decide +kernel)
theorem cd_yX3_translate : Cond.code yX3_translate cX3_translate 11 none ∈ gT := gT_mem (i := 333) (by decide +kernel) (by decide +kernel)
theorem ml_X3_76 : Cond.methodLink RX3 76 yX3_placeOfException ∈ gT := gT_mem (i := 334) (by decide +kernel) (by decide +kernel)
theorem im_yX3_placeOfException : Cond.instanceMethod yX3_placeOfException ∈ gT := gT_mem (i := 335) (by decide +kernel) (by decide +kernel)
theorem se_yX3_placeOfException : Cond.selects RX3 yX3_placeOfException yX3_placeOfException ∈ gT := gT_mem (i := 336) (by decide +kernel) (by decide +kernel)
theorem cd_yX3_placeOfException : Cond.code yX3_placeOfException cX3_placeOfException 5 (some FieldType.int) ∈ gT := gT_mem (i := 337) (by decide +kernel) (by decide +kernel)
theorem ml_X3_62 : Cond.methodLink RX3 62 yX1_count ∈ gT := gT_mem (i := 338) (by decide +kernel) (by decide +kernel)
theorem ml_X3_63 : Cond.methodLink RX3 63 yX1_isSame ∈ gT := gT_mem (i := 339) (by decide +kernel) (by decide +kernel)
theorem im_yX1_isSame : Cond.instanceMethod yX1_isSame ∈ gT := gT_mem (i := 340) (by decide +kernel) (by decide +kernel)
theorem se_yX1_isSame : Cond.selects RX1 yX1_isSame yX1_isSame ∈ gT := gT_mem (i := 341) (by decide +kernel) (by decide +kernel)
theorem cd_yX1_isSame : Cond.code yX1_isSame cX1_isSame 7 (some FieldType.boolean) ∈ gT := gT_mem (i := 342) (by decide +kernel) (by decide +kernel)
theorem ml_X3_80 : Cond.methodLink RX3 80 yJ9_min_7cf53 ∈ gT := gT_mem (i := 343) (by decide +kernel) (by decide +kernel)
theorem st_yJ9_min_7cf53 : Cond.static yJ9_min_7cf53 ∈ gT := gT_mem (i := 344) (by decide +kernel) (by decide +kernel)
theorem cd_yJ9_min_7cf53 : Cond.code yJ9_min_7cf53 cJ9_min_7cf53 2 (some FieldType.int) ∈ gT := gT_mem (i := 345) (by decide +kernel) (by decide +kernel)
theorem ml_X3_86 : Cond.methodLink RX3 86 yX3_addCells ∈ gT := gT_mem (i := 346) (by decide +kernel) (by decide +kernel)
theorem im_yX3_addCells : Cond.instanceMethod yX3_addCells ∈ gT := gT_mem (i := 348) (by decide +kernel) (by decide +kernel)
theorem cd_yX3_addCells : Cond.code yX3_addCells cX3_addCells 8 (some FieldType.int) ∈ gT := gT_mem (i := 349) (by decide +kernel) (by decide +kernel)
theorem ml_X3_90 : Cond.methodLink RX3 90 yX3_keyOf ∈ gT := gT_mem (i := 350) (by decide +kernel) (by decide +kernel)
theorem st_yX3_keyOf : Cond.static yX3_keyOf ∈ gT := gT_mem (i := 351) (by decide +kernel) (by decide +kernel)
theorem cd_yX3_keyOf : Cond.code yX3_keyOf cX3_keyOf 6 (some FieldType.int) ∈ gT := gT_mem (i := 352) (by decide +kernel) (by decide +kernel)
theorem ml_X3_38 : Cond.methodLink RX3 38 yX2_get ∈ gT := gT_mem (i := 353) (by decide +kernel) (by decide +kernel)
theorem ml_X3_50 : Cond.methodLink RX3 50 yX2_placeOf ∈ gT := gT_mem (i := 354) (by decide +kernel) (by decide +kernel)
theorem im_yX2_placeOf : Cond.instanceMethod yX2_placeOf ∈ gT := gT_mem (i := 355) (by decide +kernel) (by decide +kernel)
theorem se_yX2_placeOf : Cond.selects RX2 yX2_placeOf yX2_placeOf ∈ gT := gT_mem (i := 356) (by decide +kernel) (by decide +kernel)
theorem cd_yX2_placeOf : Cond.code yX2_placeOf cX2_placeOf 3 (some FieldType.int) ∈ gT := gT_mem (i := 357) (by decide +kernel) (by decide +kernel)
theorem ml_X2_25 : Cond.methodLink RX2 25 yX2_get ∈ gT := gT_mem (i := 358) (by decide +kernel) (by decide +kernel)
theorem ml_X3_67 : Cond.methodLink RX3 67 yX1_add ∈ gT := gT_mem (i := 359) (by decide +kernel) (by decide +kernel)
theorem ml_X4_81 : Cond.methodLink RX4 81 yX1_shares ∈ gT := gT_mem (i := 360) (by decide +kernel) (by decide +kernel)
theorem im_yX1_shares : Cond.instanceMethod yX1_shares ∈ gT := gT_mem (i := 361) (by decide +kernel) (by decide +kernel)
theorem se_yX1_shares : Cond.selects RX1 yX1_shares yX1_shares ∈ gT := gT_mem (i := 362) (by decide +kernel) (by decide +kernel)
theorem cd_yX1_shares : Cond.code yX1_shares cX1_shares 3 (some FieldType.boolean) ∈ gT := gT_mem (i := 363) (by decide +kernel) (by decide +kernel)
theorem ml_X1_29 : Cond.methodLink RX1 29 yX1_endOf ∈ gT := gT_mem (i := 364) (by decide +kernel) (by decide +kernel)
theorem ml_X1_55 : Cond.methodLink RX1 55 yX1_isSame ∈ gT := gT_mem (i := 365) (by decide +kernel) (by decide +kernel)
theorem ml_X4_85 : Cond.methodLink RX4 85 yX4_unmark ∈ gT := gT_mem (i := 366) (by decide +kernel) (by decide +kernel)
theorem im_yX4_unmark : Cond.instanceMethod yX4_unmark ∈ gT := gT_mem (i := 368) (by decide +kernel) (by decide +kernel)
theorem cd_yX4_unmark : Cond.code yX4_unmark cX4_unmark 3 none ∈ gT := gT_mem (i := 369) (by decide +kernel) (by decide +kernel)
theorem ml_X4_116 : Cond.methodLink RX4 116 yX4_putMark ∈ gT := gT_mem (i := 370) (by decide +kernel) (by decide +kernel)
theorem im_yX4_putMark : Cond.instanceMethod yX4_putMark ∈ gT := gT_mem (i := 371) (by decide +kernel) (by decide +kernel)
theorem se_yX4_putMark : Cond.selects RX4 yX4_putMark yX4_putMark ∈ gT := gT_mem (i := 372) (by decide +kernel) (by decide +kernel)
theorem cd_yX4_putMark : Cond.code yX4_putMark cX4_putMark 4 none ∈ gT := gT_mem (i := 373) (by decide +kernel) (by decide +kernel)
theorem ml_X4_113 : Cond.methodLink RX4 113 yX2_set ∈ gT := gT_mem (i := 374) (by decide +kernel) (by decide +kernel)
theorem im_yX2_set : Cond.instanceMethod yX2_set ∈ gT := gT_mem (i := 375) (by decide +kernel) (by decide +kernel)
theorem se_yX2_set : Cond.selects RX2 yX2_set yX2_set ∈ gT := gT_mem (i := 376) (by decide +kernel) (by decide +kernel)
theorem cd_yX2_set : Cond.code yX2_set cX2_set 3 none ∈ gT := gT_mem (i := 377) (by decide +kernel) (by decide +kernel)
theorem ml_X4_88 : Cond.methodLink RX4 88 yX1_takeOver ∈ gT := gT_mem (i := 378) (by decide +kernel) (by decide +kernel)
theorem im_yX1_takeOver : Cond.instanceMethod yX1_takeOver ∈ gT := gT_mem (i := 379) (by decide +kernel) (by decide +kernel)
theorem se_yX1_takeOver : Cond.selects RX1 yX1_takeOver yX1_takeOver ∈ gT := gT_mem (i := 380) (by decide +kernel) (by decide +kernel)
theorem cd_yX1_takeOver : Cond.code yX1_takeOver cX1_takeOver 2 none ∈ gT := gT_mem (i := 381) (by decide +kernel) (by decide +kernel)
theorem ml_X1_59 : Cond.methodLink RX1 59 yX2_takeOver ∈ gT := gT_mem (i := 382) (by decide +kernel) (by decide +kernel)
theorem im_yX2_takeOver : Cond.instanceMethod yX2_takeOver ∈ gT := gT_mem (i := 383) (by decide +kernel) (by decide +kernel)
theorem se_yX2_takeOver : Cond.selects RX2 yX2_takeOver yX2_takeOver ∈ gT := gT_mem (i := 384) (by decide +kernel) (by decide +kernel)
theorem cd_yX2_takeOver : Cond.code yX2_takeOver cX2_takeOver 3 none ∈ gT := gT_mem (i := 385) (by decide +kernel) (by decide +kernel)
theorem ml_X2_29 : Cond.methodLink RX2 29 yX2_empty ∈ gT := gT_mem (i := 386) (by decide +kernel) (by decide +kernel)
theorem ml_X2_32 : Cond.methodLink RX2 32 yX2_count ∈ gT := gT_mem (i := 387) (by decide +kernel) (by decide +kernel)
theorem ml_X2_35 : Cond.methodLink RX2 35 yX2_add ∈ gT := gT_mem (i := 388) (by decide +kernel) (by decide +kernel)
theorem ml_X5_173 : Cond.methodLink RX5 173 yX4_lay ∈ gT := gT_mem (i := 389) (by decide +kernel) (by decide +kernel)
theorem im_yX4_lay : Cond.instanceMethod yX4_lay ∈ gT := gT_mem (i := 390) (by decide +kernel) (by decide +kernel)
theorem se_yX4_lay : Cond.selects RX4 yX4_lay yX4_lay ∈ gT := gT_mem (i := 391) (by decide +kernel) (by decide +kernel)
theorem cd_yX4_lay : Cond.code yX4_lay cX4_lay 4 none ∈ gT := gT_mem (i := 392) (by decide +kernel) (by decide +kernel)
theorem ml_X4_92 : Cond.methodLink RX4 92 yX1_sizeOf ∈ gT := gT_mem (i := 393) (by decide +kernel) (by decide +kernel)
theorem im_yX1_sizeOf : Cond.instanceMethod yX1_sizeOf ∈ gT := gT_mem (i := 394) (by decide +kernel) (by decide +kernel)
theorem se_yX1_sizeOf : Cond.selects RX1 yX1_sizeOf yX1_sizeOf ∈ gT := gT_mem (i := 395) (by decide +kernel) (by decide +kernel)
theorem cd_yX1_sizeOf : Cond.code yX1_sizeOf cX1_sizeOf 2 (some FieldType.int) ∈ gT := gT_mem (i := 396) (by decide +kernel) (by decide +kernel)
theorem ml_X4_95 : Cond.methodLink RX4 95 yX4_beginWord ∈ gT := gT_mem (i := 397) (by decide +kernel) (by decide +kernel)
theorem im_yX4_beginWord : Cond.instanceMethod yX4_beginWord ∈ gT := gT_mem (i := 399) (by decide +kernel) (by decide +kernel)
theorem cd_yX4_beginWord : Cond.code yX4_beginWord cX4_beginWord 4 none ∈ gT := gT_mem (i := 400) (by decide +kernel) (by decide +kernel)
theorem ml_X4_98 : Cond.methodLink RX4 98 yX1_uncutSize ∈ gT := gT_mem (i := 401) (by decide +kernel) (by decide +kernel)
theorem ml_X4_101 : Cond.methodLink RX4 101 yX1_get ∈ gT := gT_mem (i := 402) (by decide +kernel) (by decide +kernel)
theorem im_yX1_get : Cond.instanceMethod yX1_get ∈ gT := gT_mem (i := 403) (by decide +kernel) (by decide +kernel)
theorem se_yX1_get : Cond.selects RX1 yX1_get yX1_get ∈ gT := gT_mem (i := 404) (by decide +kernel) (by decide +kernel)
theorem cd_yX1_get : Cond.code yX1_get cX1_get 3 (some FieldType.int) ∈ gT := gT_mem (i := 405) (by decide +kernel) (by decide +kernel)
theorem ml_X5_77 : Cond.methodLink RX5 77 yX2_empty ∈ gT := gT_mem (i := 406) (by decide +kernel) (by decide +kernel)
theorem ml_X5_176 : Cond.methodLink RX5 176 yX4_wordCount ∈ gT := gT_mem (i := 407) (by decide +kernel) (by decide +kernel)
theorem im_yX4_wordCount : Cond.instanceMethod yX4_wordCount ∈ gT := gT_mem (i := 408) (by decide +kernel) (by decide +kernel)
theorem se_yX4_wordCount : Cond.selects RX4 yX4_wordCount yX4_wordCount ∈ gT := gT_mem (i := 409) (by decide +kernel) (by decide +kernel)
theorem cd_yX4_wordCount : Cond.code yX4_wordCount cX4_wordCount 1 (some FieldType.int) ∈ gT := gT_mem (i := 410) (by decide +kernel) (by decide +kernel)
theorem ml_L_88 : Cond.methodLink RL 88 yX5_words ∈ gT := gT_mem (i := 411) (by decide +kernel) (by decide +kernel)
theorem im_yX5_words : Cond.instanceMethod yX5_words ∈ gT := gT_mem (i := 412) (by decide +kernel) (by decide +kernel)
theorem se_yX5_words : Cond.selects RX5 yX5_words yX5_words ∈ gT := gT_mem (i := 413) (by decide +kernel) (by decide +kernel)
theorem cd_yX5_words : Cond.code yX5_words cX5_words 2 (some FieldType.int) ∈ gT := gT_mem (i := 414) (by decide +kernel) (by decide +kernel)
theorem ml_X5_181 : Cond.methodLink RX5 181 yX5_textNumbered ∈ gT := gT_mem (i := 415) (by decide +kernel) (by decide +kernel)
theorem im_yX5_textNumbered : Cond.instanceMethod yX5_textNumbered ∈ gT := gT_mem (i := 417) (by decide +kernel) (by decide +kernel)
theorem cd_yX5_textNumbered : Cond.code yX5_textNumbered cX5_textNumbered 3 (some (FieldType.object "Dotpress$Text")) ∈ gT := gT_mem (i := 418) (by decide +kernel) (by decide +kernel)
theorem ml_L_157 : Cond.methodLink RL 157 yX5_setBearing ∈ gT := gT_mem (i := 420) (by decide +kernel) (by decide +kernel)
theorem im_yX5_setBearing : Cond.instanceMethod yX5_setBearing ∈ gT := gT_mem (i := 421) (by decide +kernel) (by decide +kernel)
theorem se_yX5_setBearing : Cond.selects RX5 yX5_setBearing yX5_setBearing ∈ gT := gT_mem (i := 422) (by decide +kernel) (by decide +kernel)
theorem cd_yX5_setBearing : Cond.code yX5_setBearing cX5_setBearing 2 (some FieldType.int) ∈ gT := gT_mem (i := 423) (by decide +kernel) (by decide +kernel)
theorem ml_X5_239 : Cond.methodLink RX5 239 yX0_changeBearing ∈ gT := gT_mem (i := 425) (by decide +kernel) (by decide +kernel)
theorem im_yX0_changeBearing : Cond.instanceMethod yX0_changeBearing ∈ gT := gT_mem (i := 426) (by decide +kernel) (by decide +kernel)
theorem se_yX0_changeBearing : Cond.selects RX0 yX0_changeBearing yX0_changeBearing ∈ gT := gT_mem (i := 427) (by decide +kernel) (by decide +kernel)
theorem cd_yX0_changeBearing : Cond.code yX0_changeBearing cX0_changeBearing 3 (some FieldType.int) ∈ gT := gT_mem (i := 428) (by decide +kernel) (by decide +kernel)
theorem ml_L_142 : Cond.methodLink RL 142 yX5_markOf ∈ gT := gT_mem (i := 429) (by decide +kernel) (by decide +kernel)
theorem im_yX5_markOf : Cond.instanceMethod yX5_markOf ∈ gT := gT_mem (i := 430) (by decide +kernel) (by decide +kernel)
theorem se_yX5_markOf : Cond.selects RX5 yX5_markOf yX5_markOf ∈ gT := gT_mem (i := 431) (by decide +kernel) (by decide +kernel)
theorem cd_yX5_markOf : Cond.code yX5_markOf cX5_markOf 4 (some FieldType.char) ∈ gT := gT_mem (i := 432) (by decide +kernel) (by decide +kernel)
theorem ml_X5_250 : Cond.methodLink RX5 250 yX5_isReader ∈ gT := gT_mem (i := 433) (by decide +kernel) (by decide +kernel)
theorem st_yX5_isReader : Cond.static yX5_isReader ∈ gT := gT_mem (i := 434) (by decide +kernel) (by decide +kernel)
theorem cd_yX5_isReader : Cond.code yX5_isReader cX5_isReader 1 (some FieldType.boolean) ∈ gT := gT_mem (i := 435) (by decide +kernel) (by decide +kernel)
theorem ml_X5_185 : Cond.methodLink RX5 185 yX5_textWithWord ∈ gT := gT_mem (i := 437) (by decide +kernel) (by decide +kernel)
theorem im_yX5_textWithWord : Cond.instanceMethod yX5_textWithWord ∈ gT := gT_mem (i := 439) (by decide +kernel) (by decide +kernel)
theorem cd_yX5_textWithWord : Cond.code yX5_textWithWord cX5_textWithWord 4 (some (FieldType.object "Dotpress$Text")) ∈ gT := gT_mem (i := 440) (by decide +kernel) (by decide +kernel)
theorem ml_X5_259 : Cond.methodLink RX5 259 yX4_markBy ∈ gT := gT_mem (i := 442) (by decide +kernel) (by decide +kernel)
theorem im_yX4_markBy : Cond.instanceMethod yX4_markBy ∈ gT := gT_mem (i := 443) (by decide +kernel) (by decide +kernel)
theorem se_yX4_markBy : Cond.selects RX4 yX4_markBy yX4_markBy ∈ gT := gT_mem (i := 444) (by decide +kernel) (by decide +kernel)
theorem cd_yX4_markBy : Cond.code yX4_markBy cX4_markBy 3 (some FieldType.char) ∈ gT := gT_mem (i := 445) (by decide +kernel) (by decide +kernel)
theorem ml_L_168 : Cond.methodLink RL 168 yX5_isSound ∈ gT := gT_mem (i := 446) (by decide +kernel) (by decide +kernel)
theorem im_yX5_isSound : Cond.instanceMethod yX5_isSound ∈ gT := gT_mem (i := 447) (by decide +kernel) (by decide +kernel)
theorem se_yX5_isSound : Cond.selects RX5 yX5_isSound yX5_isSound ∈ gT := gT_mem (i := 448) (by decide +kernel) (by decide +kernel)
theorem cd_yX5_isSound : Cond.code yX5_isSound cX5_isSound 5 (some FieldType.boolean) ∈ gT := gT_mem (i := 449) (by decide +kernel) (by decide +kernel)
theorem ml_X5_280 : Cond.methodLink RX5 280 yX4_isWellLaid ∈ gT := gT_mem (i := 450) (by decide +kernel) (by decide +kernel)
theorem im_yX4_isWellLaid : Cond.instanceMethod yX4_isWellLaid ∈ gT := gT_mem (i := 451) (by decide +kernel) (by decide +kernel)
theorem se_yX4_isWellLaid : Cond.selects RX4 yX4_isWellLaid yX4_isWellLaid ∈ gT := gT_mem (i := 452) (by decide +kernel) (by decide +kernel)
theorem cd_yX4_isWellLaid : Cond.code yX4_isWellLaid cX4_isWellLaid 5 (some FieldType.boolean) ∈ gT := gT_mem (i := 453) (by decide +kernel) (by decide +kernel)
theorem ml_X5_283 : Cond.methodLink RX5 283 yX3_isInOrder ∈ gT := gT_mem (i := 454) (by decide +kernel) (by decide +kernel)
theorem im_yX3_isInOrder : Cond.instanceMethod yX3_isInOrder ∈ gT := gT_mem (i := 455) (by decide +kernel) (by decide +kernel)
theorem se_yX3_isInOrder : Cond.selects RX3 yX3_isInOrder yX3_isInOrder ∈ gT := gT_mem (i := 456) (by decide +kernel) (by decide +kernel)
theorem cd_yX3_isInOrder : Cond.code yX3_isInOrder cX3_isInOrder 2 (some FieldType.boolean) ∈ gT := gT_mem (i := 457) (by decide +kernel) (by decide +kernel)
theorem ml_X3_42 : Cond.methodLink RX3 42 yX2_count ∈ gT := gT_mem (i := 458) (by decide +kernel) (by decide +kernel)
theorem ml_L_153 : Cond.methodLink RL 153 yL_cell ∈ gT := gT_mem (i := 459) (by decide +kernel) (by decide +kernel)
theorem st_yL_cell : Cond.static yL_cell ∈ gT := gT_mem (i := 460) (by decide +kernel) (by decide +kernel)
theorem cd_yL_cell : Cond.code yL_cell cL_cell 2 (some FieldType.int) ∈ gT := gT_mem (i := 461) (by decide +kernel) (by decide +kernel)
theorem kc_L_7 : Cond.constant RL 7 (40503) ∈ gT := gT_mem (i := 462) (by decide +kernel) (by decide +kernel)
theorem ml_L_15 : Cond.methodLink RL 15 yL_low ∈ gT := gT_mem (i := 463) (by decide +kernel) (by decide +kernel)
theorem st_yL_low : Cond.static yL_low ∈ gT := gT_mem (i := 464) (by decide +kernel) (by decide +kernel)
theorem cd_yL_low : Cond.code yL_low cL_low 2 (some FieldType.int) ∈ gT := gT_mem (i := 465) (by decide +kernel) (by decide +kernel)
theorem kc_L_8 : Cond.constant RL 8 (2147483647) ∈ gT := gT_mem (i := 466) (by decide +kernel) (by decide +kernel)
theorem ml_L_115 : Cond.methodLink RL 115 yL_types ∈ gT := gT_mem (i := 467) (by decide +kernel) (by decide +kernel)
theorem st_yL_types : Cond.static yL_types ∈ gT := gT_mem (i := 468) (by decide +kernel) (by decide +kernel)
theorem cd_yL_types : Cond.code yL_types cL_types 9 none ∈ gT := gT_mem (i := 469) (by decide +kernel) (by decide +kernel)
theorem ml_L_9 : Cond.methodLink RL 9 yX5_clear ∈ gT := gT_mem (i := 470) (by decide +kernel) (by decide +kernel)
theorem im_yX5_clear : Cond.instanceMethod yX5_clear ∈ gT := gT_mem (i := 471) (by decide +kernel) (by decide +kernel)
theorem se_yX5_clear : Cond.selects RX5 yX5_clear yX5_clear ∈ gT := gT_mem (i := 472) (by decide +kernel) (by decide +kernel)
theorem cd_yX5_clear : Cond.code yX5_clear cX5_clear 2 (some FieldType.int) ∈ gT := gT_mem (i := 473) (by decide +kernel) (by decide +kernel)
theorem ml_X5_73 : Cond.methodLink RX5 73 yX2_count ∈ gT := gT_mem (i := 474) (by decide +kernel) (by decide +kernel)
theorem ml_L_23 : Cond.methodLink RL 23 yJ0_charAt_5068e ∈ gT := gT_mem (i := 476) (by decide +kernel) (by decide +kernel)
theorem im_yJ0_charAt_5068e : Cond.instanceMethod yJ0_charAt_5068e ∈ gT := gT_mem (i := 477) (by decide +kernel) (by decide +kernel)
theorem se_yJ0_charAt_5068e : Cond.selects RJ0 yJ0_charAt_5068e yJ0_charAt_5068e ∈ gT := gT_mem (i := 478) (by decide +kernel) (by decide +kernel)
theorem cd_yJ0_charAt_5068e : Cond.code yJ0_charAt_5068e cJ0_charAt_5068e 2 (some FieldType.char) ∈ gT := gT_mem (i := 479) (by decide +kernel) (by decide +kernel)
theorem ml_J0_492 : Cond.methodLink RJ0 492 yJ0_isLatin1_aae02 ∈ gT := gT_mem (i := 480) (by decide +kernel) (by decide +kernel)
theorem im_yJ0_isLatin1_aae02 : Cond.instanceMethod yJ0_isLatin1_aae02 ∈ gT := gT_mem (i := 481) (by decide +kernel) (by decide +kernel)
theorem se_yJ0_isLatin1_aae02 : Cond.selects RJ0 yJ0_isLatin1_aae02 yJ0_isLatin1_aae02 ∈ gT := gT_mem (i := 482) (by decide +kernel) (by decide +kernel)
theorem cd_yJ0_isLatin1_aae02 : Cond.code yJ0_isLatin1_aae02 cJ0_isLatin1_aae02 1 (some FieldType.boolean) ∈ gT := gT_mem (i := 483) (by decide +kernel) (by decide +kernel)
theorem fl_J0_38 : Cond.fieldLink RJ0 38 "java/lang/String" "COMPACT_STRINGS" "Z" ∈ gT := gT_mem (i := 484) (by decide +kernel) (by decide +kernel)
theorem ls_J0_COMPACT_STRINGS : Cond.laysStatic RJ0 "COMPACT_STRINGS" "Z" ∈ jTbl := List.mem_of_getElem? (i := 485) (by decide +kernel)
theorem ml_J0_495 : Cond.methodLink RJ0 495 yJ1_charAt_3b067 ∈ gT := gT_mem (i := 486) (by decide +kernel) (by decide +kernel)
theorem st_yJ1_charAt_3b067 : Cond.static yJ1_charAt_3b067 ∈ gT := gT_mem (i := 487) (by decide +kernel) (by decide +kernel)
theorem cd_yJ1_charAt_3b067 : Cond.code yJ1_charAt_3b067 cJ1_charAt_3b067 2 (some FieldType.char) ∈ gT := gT_mem (i := 488) (by decide +kernel) (by decide +kernel)
theorem ml_J1_9 : Cond.methodLink RJ1 9 yJ0_checkIndex_df160 ∈ gT := gT_mem (i := 489) (by decide +kernel) (by decide +kernel)
theorem st_yJ0_checkIndex_df160 : Cond.static yJ0_checkIndex_df160 ∈ gT := gT_mem (i := 490) (by decide +kernel) (by decide +kernel)
theorem cd_yJ0_checkIndex_df160 : Cond.code yJ0_checkIndex_df160 cJ0_checkIndex_df160 2 none ∈ gT := gT_mem (i := 491) (by decide +kernel) (by decide +kernel)
theorem fl_J0_1053 : Cond.fieldLink RJ0 1053 "jdk/internal/util/Preconditions" "SIOOBE_FORMATTER" "Ljava/util/function/BiFunction;" ∈ gT := gT_mem (i := 492) (by decide +kernel) (by decide +kernel)
theorem ls_J3_SIOOBE_FORMATTER : Cond.laysStatic RJ3 "SIOOBE_FORMATTER" "Ljava/util/function/BiFunction;" ∈ jTbl := List.mem_of_getElem? (i := 493) (by decide +kernel)
theorem ml_J0_1059 : Cond.methodLink RJ0 1059 yJ3_checkIndex_8e157 ∈ gT := gT_mem (i := 494) (by decide +kernel) (by decide +kernel)
theorem st_yJ3_checkIndex_8e157 : Cond.static yJ3_checkIndex_8e157 ∈ gT := gT_mem (i := 495) (by decide +kernel) (by decide +kernel)
theorem cd_yJ3_checkIndex_8e157 : Cond.code yJ3_checkIndex_8e157 cJ3_checkIndex_8e157 3 (some FieldType.int) ∈ gT := gT_mem (i := 496) (by decide +kernel) (by decide +kernel)
theorem ml_J0_498 : Cond.methodLink RJ0 498 yJ2_charAt_3b067 ∈ gT := gT_mem (i := 497) (by decide +kernel) (by decide +kernel)
theorem st_yJ2_charAt_3b067 : Cond.static yJ2_charAt_3b067 ∈ gT := gT_mem (i := 498) (by decide +kernel) (by decide +kernel)
theorem cd_yJ2_charAt_3b067 : Cond.code yJ2_charAt_3b067 cJ2_charAt_3b067 2 (some FieldType.char) ∈ gT := gT_mem (i := 499) (by decide +kernel) (by decide +kernel)
theorem ml_J2_67 : Cond.methodLink RJ2 67 yJ2_checkIndex_2214a ∈ gT := gT_mem (i := 500) (by decide +kernel) (by decide +kernel)
theorem st_yJ2_checkIndex_2214a : Cond.static yJ2_checkIndex_2214a ∈ gT := gT_mem (i := 501) (by decide +kernel) (by decide +kernel)
theorem cd_yJ2_checkIndex_2214a : Cond.code yJ2_checkIndex_2214a cJ2_checkIndex_2214a 2 none ∈ gT := gT_mem (i := 502) (by decide +kernel) (by decide +kernel)
theorem ml_J2_48 : Cond.methodLink RJ2 48 yJ2_length_9d52b ∈ gT := gT_mem (i := 503) (by decide +kernel) (by decide +kernel)
theorem st_yJ2_length_9d52b : Cond.static yJ2_length_9d52b ∈ gT := gT_mem (i := 504) (by decide +kernel) (by decide +kernel)
theorem cd_yJ2_length_9d52b : Cond.code yJ2_length_9d52b cJ2_length_9d52b 1 (some FieldType.int) ∈ gT := gT_mem (i := 505) (by decide +kernel) (by decide +kernel)
theorem ml_J2_414 : Cond.methodLink RJ2 414 yJ0_checkIndex_df160 ∈ gT := gT_mem (i := 506) (by decide +kernel) (by decide +kernel)
theorem ml_J2_71 : Cond.methodLink RJ2 71 yJ2_getChar_3b067 ∈ gT := gT_mem (i := 507) (by decide +kernel) (by decide +kernel)
theorem st_yJ2_getChar_3b067 : Cond.static yJ2_getChar_3b067 ∈ gT := gT_mem (i := 508) (by decide +kernel) (by decide +kernel)
theorem cd_yJ2_getChar_3b067 : Cond.code yJ2_getChar_3b067 cJ2_getChar_3b067 2 (some FieldType.char) ∈ gT := gT_mem (i := 509) (by decide +kernel) (by decide +kernel)
theorem fl_J2_44 : Cond.fieldLink RJ2 44 "java/lang/StringUTF16" "$assertionsDisabled" "Z" ∈ gT := gT_mem (i := 510) (by decide +kernel) (by decide +kernel)
theorem fl_J2_59 : Cond.fieldLink RJ2 59 "java/lang/StringUTF16" "HI_BYTE_SHIFT" "I" ∈ gT := gT_mem (i := 512) (by decide +kernel) (by decide +kernel)
theorem fl_J2_63 : Cond.fieldLink RJ2 63 "java/lang/StringUTF16" "LO_BYTE_SHIFT" "I" ∈ gT := gT_mem (i := 514) (by decide +kernel) (by decide +kernel)
theorem ml_L_29 : Cond.methodLink RL 29 yX5_type ∈ gT := gT_mem (i := 516) (by decide +kernel) (by decide +kernel)
theorem im_yX5_type : Cond.instanceMethod yX5_type ∈ gT := gT_mem (i := 517) (by decide +kernel) (by decide +kernel)
theorem se_yX5_type : Cond.selects RX5 yX5_type yX5_type ∈ gT := gT_mem (i := 518) (by decide +kernel) (by decide +kernel)
theorem cd_yX5_type : Cond.code yX5_type cX5_type 2 (some FieldType.int) ∈ gT := gT_mem (i := 519) (by decide +kernel) (by decide +kernel)
theorem ml_X5_61 : Cond.methodLink RX5 61 yX2_isFull ∈ gT := gT_mem (i := 521) (by decide +kernel) (by decide +kernel)
theorem im_yX2_isFull : Cond.instanceMethod yX2_isFull ∈ gT := gT_mem (i := 522) (by decide +kernel) (by decide +kernel)
theorem se_yX2_isFull : Cond.selects RX2 yX2_isFull yX2_isFull ∈ gT := gT_mem (i := 523) (by decide +kernel) (by decide +kernel)
theorem cd_yX2_isFull : Cond.code yX2_isFull cX2_isFull 1 (some FieldType.boolean) ∈ gT := gT_mem (i := 524) (by decide +kernel) (by decide +kernel)
theorem cl_X5_65 : Cond.classLink RX5 65 "java/lang/IllegalStateException" ∈ gT := gT_mem (i := 525) (by decide +kernel) (by decide +kernel)
theorem ml_X5_69 : Cond.methodLink RX5 69 ⟨"java/lang/IllegalStateException", "<init>", "(Ljava/lang/String;)V"⟩ ∈ gT := gT_mem (i := 535) (by decide +kernel) (by decide +kernel)
theorem ml_X5_70 : Cond.methodLink RX5 70 yX2_add ∈ gT := gT_mem (i := 541) (by decide +kernel) (by decide +kernel)
theorem ml_L_91 : Cond.methodLink RL 91 yL_word ∈ gT := gT_mem (i := 542) (by decide +kernel) (by decide +kernel)
theorem st_yL_word : Cond.static yL_word ∈ gT := gT_mem (i := 543) (by decide +kernel) (by decide +kernel)
theorem cd_yL_word : Cond.code yL_word cL_word 5 (some (FieldType.object "java/lang/String")) ∈ gT := gT_mem (i := 544) (by decide +kernel) (by decide +kernel)
theorem ml_L_73 : Cond.methodLink RL 73 yX5_length ∈ gT := gT_mem (i := 546) (by decide +kernel) (by decide +kernel)
theorem im_yX5_length : Cond.instanceMethod yX5_length ∈ gT := gT_mem (i := 547) (by decide +kernel) (by decide +kernel)
theorem se_yX5_length : Cond.selects RX5 yX5_length yX5_length ∈ gT := gT_mem (i := 548) (by decide +kernel) (by decide +kernel)
theorem cd_yX5_length : Cond.code yX5_length cX5_length 3 (some FieldType.int) ∈ gT := gT_mem (i := 549) (by decide +kernel) (by decide +kernel)
theorem ml_X5_189 : Cond.methodLink RX5 189 yX4_cellCount ∈ gT := gT_mem (i := 550) (by decide +kernel) (by decide +kernel)
theorem im_yX4_cellCount : Cond.instanceMethod yX4_cellCount ∈ gT := gT_mem (i := 551) (by decide +kernel) (by decide +kernel)
theorem se_yX4_cellCount : Cond.selects RX4 yX4_cellCount yX4_cellCount ∈ gT := gT_mem (i := 552) (by decide +kernel) (by decide +kernel)
theorem cd_yX4_cellCount : Cond.code yX4_cellCount cX4_cellCount 2 (some FieldType.int) ∈ gT := gT_mem (i := 553) (by decide +kernel) (by decide +kernel)
theorem cl_L_56 : Cond.classLink RL 56 RJ4 ∈ gT := gT_mem (i := 554) (by decide +kernel) (by decide +kernel)
theorem ins_J4 : Cond.instantiable RJ4 4 ∈ gT := gT_mem (i := 555) (by decide +kernel) (by decide +kernel)
theorem ml_L_58 : Cond.methodLink RL 58 yJ4_init_da8c8 ∈ gT := gT_mem (i := 556) (by decide +kernel) (by decide +kernel)
theorem im_yJ4_init_da8c8 : Cond.instanceMethod yJ4_init_da8c8 ∈ gT := gT_mem (i := 557) (by decide +kernel) (by decide +kernel)
theorem cd_yJ4_init_da8c8 : Cond.code yJ4_init_da8c8 cJ4_init_da8c8 1 none ∈ gT := gT_mem (i := 558) (by decide +kernel) (by decide +kernel)
theorem ml_J4_1 : Cond.methodLink RJ4 1 yJ5_init_d00df ∈ gT := gT_mem (i := 559) (by decide +kernel) (by decide +kernel)
theorem im_yJ5_init_d00df : Cond.instanceMethod yJ5_init_d00df ∈ gT := gT_mem (i := 560) (by decide +kernel) (by decide +kernel)
theorem cd_yJ5_init_d00df : Cond.code yJ5_init_d00df cJ5_init_d00df 2 none ∈ gT := gT_mem (i := 561) (by decide +kernel) (by decide +kernel)
theorem ml_J5_3 : Cond.methodLink RJ5 3 ⟨"java/lang/Object", "<init>", "()V"⟩ ∈ gT := gT_mem (i := 562) (by decide +kernel) (by decide +kernel)
theorem fl_J5_18 : Cond.fieldLink RJ5 18 "java/lang/String" "COMPACT_STRINGS" "Z" ∈ gT := gT_mem (i := 563) (by decide +kernel) (by decide +kernel)
theorem ml_J5_26 : Cond.methodLink RJ5 26 yJ2_newBytesFor_77867 ∈ gT := gT_mem (i := 564) (by decide +kernel) (by decide +kernel)
theorem st_yJ2_newBytesFor_77867 : Cond.static yJ2_newBytesFor_77867 ∈ gT := gT_mem (i := 565) (by decide +kernel) (by decide +kernel)
theorem cd_yJ2_newBytesFor_77867 : Cond.code yJ2_newBytesFor_77867 cJ2_newBytesFor_77867 1 (some (FieldType.array FieldType.byte)) ∈ gT := gT_mem (i := 566) (by decide +kernel) (by decide +kernel)
theorem ml_J2_11 : Cond.methodLink RJ2 11 yJ2_newBytesLength_0f7a4 ∈ gT := gT_mem (i := 567) (by decide +kernel) (by decide +kernel)
theorem st_yJ2_newBytesLength_0f7a4 : Cond.static yJ2_newBytesLength_0f7a4 ∈ gT := gT_mem (i := 568) (by decide +kernel) (by decide +kernel)
theorem cd_yJ2_newBytesLength_0f7a4 : Cond.code yJ2_newBytesLength_0f7a4 cJ2_newBytesLength_0f7a4 1 (some FieldType.int) ∈ gT := gT_mem (i := 569) (by decide +kernel) (by decide +kernel)
theorem kc_J2_20 : Cond.constant RJ2 20 (1073741823) ∈ gT := gT_mem (i := 570) (by decide +kernel) (by decide +kernel)
theorem fl_J5_15 : Cond.fieldLink RJ5 15 "java/lang/AbstractStringBuilder" "value" "[B" ∈ gT := gT_mem (i := 571) (by decide +kernel) (by decide +kernel)
theorem fl_J5_22 : Cond.fieldLink RJ5 22 "java/lang/AbstractStringBuilder" "coder" "B" ∈ gT := gT_mem (i := 572) (by decide +kernel) (by decide +kernel)
theorem fl_J0_1048 : Cond.fieldLink RJ0 1048 "java/lang/AbstractStringBuilder" "maybeLatin1" "Z" ∈ gT := gT_mem (i := 573) (by decide +kernel) (by decide +kernel)
theorem fl_J5_79 : Cond.fieldLink RJ5 79 "java/lang/AbstractStringBuilder" "count" "I" ∈ gT := gT_mem (i := 574) (by decide +kernel) (by decide +kernel)
theorem su_J4 : Cond.superclass RJ4 RJ5 ∈ gT := gT_mem (i := 583) (by decide +kernel) (by decide +kernel)
theorem ml_L_59 : Cond.methodLink RL 59 yJ4_append_15ec4 ∈ gT := gT_mem (i := 584) (by decide +kernel) (by decide +kernel)
theorem im_yJ4_append_15ec4 : Cond.instanceMethod yJ4_append_15ec4 ∈ gT := gT_mem (i := 585) (by decide +kernel) (by decide +kernel)
theorem se_yJ4_append_15ec4 : Cond.selects RJ4 yJ4_append_15ec4 yJ4_append_15ec4 ∈ gT := gT_mem (i := 586) (by decide +kernel) (by decide +kernel)
theorem cd_yJ4_append_15ec4 : Cond.code yJ4_append_15ec4 cJ4_append_15ec4 2 (some (FieldType.object "java/lang/StringBuilder")) ∈ gT := gT_mem (i := 587) (by decide +kernel) (by decide +kernel)
theorem ml_J4_29 : Cond.methodLink RJ4 29 yJ5_append_cf1ce ∈ gT := gT_mem (i := 588) (by decide +kernel) (by decide +kernel)
theorem im_yJ5_append_cf1ce : Cond.instanceMethod yJ5_append_cf1ce ∈ gT := gT_mem (i := 589) (by decide +kernel) (by decide +kernel)
theorem cd_yJ5_append_cf1ce : Cond.code yJ5_append_cf1ce cJ5_append_cf1ce 3 (some (FieldType.object "java/lang/AbstractStringBuilder")) ∈ gT := gT_mem (i := 590) (by decide +kernel) (by decide +kernel)
theorem ml_J5_204 : Cond.methodLink RJ5 204 yJ5_appendNull_278bc ∈ gT := gT_mem (i := 591) (by decide +kernel) (by decide +kernel)
theorem im_yJ5_appendNull_278bc : Cond.instanceMethod yJ5_appendNull_278bc ∈ gT := gT_mem (i := 593) (by decide +kernel) (by decide +kernel)
theorem cd_yJ5_appendNull_278bc : Cond.code yJ5_appendNull_278bc cJ5_appendNull_278bc 3 (some (FieldType.object "java/lang/AbstractStringBuilder")) ∈ gT := gT_mem (i := 594) (by decide +kernel) (by decide +kernel)
theorem ml_J5_100 : Cond.methodLink RJ5 100 yJ5_ensureCapacityInternal_d00df ∈ gT := gT_mem (i := 595) (by decide +kernel) (by decide +kernel)
theorem im_yJ5_ensureCapacityInternal_d00df : Cond.instanceMethod yJ5_ensureCapacityInternal_d00df ∈ gT := gT_mem (i := 597) (by decide +kernel) (by decide +kernel)
theorem cd_yJ5_ensureCapacityInternal_d00df : Cond.code yJ5_ensureCapacityInternal_d00df cJ5_ensureCapacityInternal_d00df 3 none ∈ gT := gT_mem (i := 598) (by decide +kernel) (by decide +kernel)
theorem ml_J5_104 : Cond.methodLink RJ5 104 yJ5_newCapacity_0f7a4 ∈ gT := gT_mem (i := 599) (by decide +kernel) (by decide +kernel)
theorem im_yJ5_newCapacity_0f7a4 : Cond.instanceMethod yJ5_newCapacity_0f7a4 ∈ gT := gT_mem (i := 601) (by decide +kernel) (by decide +kernel)
theorem cd_yJ5_newCapacity_0f7a4 : Cond.code yJ5_newCapacity_0f7a4 cJ5_newCapacity_0f7a4 6 (some FieldType.int) ∈ gT := gT_mem (i := 602) (by decide +kernel) (by decide +kernel)
theorem ml_J5_114 : Cond.methodLink RJ5 114 yJ8_newLength_cabcc ∈ gT := gT_mem (i := 603) (by decide +kernel) (by decide +kernel)
theorem st_yJ8_newLength_cabcc : Cond.static yJ8_newLength_cabcc ∈ gT := gT_mem (i := 604) (by decide +kernel) (by decide +kernel)
theorem cd_yJ8_newLength_cabcc : Cond.code yJ8_newLength_cabcc cJ8_newLength_cabcc 4 (some FieldType.int) ∈ gT := gT_mem (i := 605) (by decide +kernel) (by decide +kernel)
theorem ml_J8_194 : Cond.methodLink RJ8 194 yJ9_max_7cf53 ∈ gT := gT_mem (i := 606) (by decide +kernel) (by decide +kernel)
theorem st_yJ9_max_7cf53 : Cond.static yJ9_max_7cf53 ∈ gT := gT_mem (i := 607) (by decide +kernel) (by decide +kernel)
theorem cd_yJ9_max_7cf53 : Cond.code yJ9_max_7cf53 cJ9_max_7cf53 2 (some FieldType.int) ∈ gT := gT_mem (i := 608) (by decide +kernel) (by decide +kernel)
theorem kc_J8_200 : Cond.constant RJ8 200 (2147483639) ∈ gT := gT_mem (i := 609) (by decide +kernel) (by decide +kernel)
theorem ml_J8_201 : Cond.methodLink RJ8 201 yJ8_hugeLength_7cf53 ∈ gT := gT_mem (i := 610) (by decide +kernel) (by decide +kernel)
theorem st_yJ8_hugeLength_7cf53 : Cond.static yJ8_hugeLength_7cf53 ∈ gT := gT_mem (i := 611) (by decide +kernel) (by decide +kernel)
theorem cd_yJ8_hugeLength_7cf53 : Cond.code yJ8_hugeLength_7cf53 cJ8_hugeLength_7cf53 3 (some FieldType.int) ∈ gT := gT_mem (i := 612) (by decide +kernel) (by decide +kernel)
theorem kc_J5_39 : Cond.constant RJ5 39 (2147483647) ∈ gT := gT_mem (i := 613) (by decide +kernel) (by decide +kernel)
theorem ml_J5_108 : Cond.methodLink RJ5 108 yJ7_copyOf_9075b ∈ gT := gT_mem (i := 614) (by decide +kernel) (by decide +kernel)
theorem st_yJ7_copyOf_9075b : Cond.static yJ7_copyOf_9075b ∈ gT := gT_mem (i := 615) (by decide +kernel) (by decide +kernel)
theorem cd_yJ7_copyOf_9075b : Cond.code yJ7_copyOf_9075b cJ7_copyOf_9075b 3 (some (FieldType.array FieldType.byte)) ∈ gT := gT_mem (i := 616) (by decide +kernel) (by decide +kernel)
theorem ml_J7_310 : Cond.methodLink RJ7 310 ⟨"[B", "clone", "()Ljava/lang/Object;"⟩ ∈ gT := gT_mem (i := 617) (by decide +kernel) (by decide +kernel)
theorem sm_B_clone : Cond.sameMethod "[B" "java/lang/Object" "clone" "()Ljava/lang/Object;" ∈ gT := gT_mem (i := 618) (by decide +kernel) (by decide +kernel)
theorem nat_clone : Cond.native ⟨"java/lang/Object", "clone", "()Ljava/lang/Object;"⟩ ∈ gT := gT_mem (i := 619) (by decide +kernel) (by decide +kernel)
theorem im_clone : Cond.instanceMethod ⟨"java/lang/Object", "clone", "()Ljava/lang/Object;"⟩ ∈ gT := gT_mem (i := 620) (by decide +kernel) (by decide +kernel)
theorem se_B_clone : Cond.selects "[B" ⟨"[B", "clone", "()Ljava/lang/Object;"⟩ ⟨"java/lang/Object", "clone", "()Ljava/lang/Object;"⟩ ∈ gT := gT_mem (i := 621) (by decide +kernel) (by decide +kernel)
theorem ca_B : Cond.castable "[B" "java/lang/Cloneable" ∈ jTbl := List.mem_of_getElem? (i := 622) (by decide +kernel)
theorem cl_J7_311 : Cond.classLink RJ7 311 "[B" ∈ gT := gT_mem (i := 623) (by decide +kernel) (by decide +kernel)
theorem ml_J7_304 : Cond.methodLink RJ7 304 yJ9_min_7cf53 ∈ gT := gT_mem (i := 624) (by decide +kernel) (by decide +kernel)
theorem ml_J7_150 : Cond.methodLink RJ7 150 ⟨"java/lang/System", "arraycopy", "(Ljava/lang/Object;ILjava/lang/Object;II)V"⟩ ∈ gT := gT_mem (i := 625) (by decide +kernel) (by decide +kernel)
theorem nat_copy : Cond.native ⟨"java/lang/System", "arraycopy", "(Ljava/lang/Object;ILjava/lang/Object;II)V"⟩ ∈ gT := gT_mem (i := 627) (by decide +kernel) (by decide +kernel)
theorem ml_J5_83 : Cond.methodLink RJ5 83 yJ5_isLatin1_aae02 ∈ gT := gT_mem (i := 628) (by decide +kernel) (by decide +kernel)
theorem im_yJ5_isLatin1_aae02 : Cond.instanceMethod yJ5_isLatin1_aae02 ∈ gT := gT_mem (i := 629) (by decide +kernel) (by decide +kernel)
theorem sm_J5_yJ5_isLatin1_aae02 : Cond.sameMethod RJ5 RJ5 "isLatin1" "()Z" ∈ gT := gT_mem (i := 630) (by decide +kernel) (by decide +kernel)
theorem se_J4_yJ5_isLatin1_aae02 : Cond.selects RJ4 yJ5_isLatin1_aae02 yJ5_isLatin1_aae02 ∈ gT := gT_mem (i := 631) (by decide +kernel) (by decide +kernel)
theorem cd_yJ5_isLatin1_aae02 : Cond.code yJ5_isLatin1_aae02 cJ5_isLatin1_aae02 1 (some FieldType.boolean) ∈ gT := gT_mem (i := 632) (by decide +kernel) (by decide +kernel)
theorem ml_J5_226 : Cond.methodLink RJ5 226 yJ2_putCharsAt_cd4e5 ∈ gT := gT_mem (i := 633) (by decide +kernel) (by decide +kernel)
theorem st_yJ2_putCharsAt_cd4e5 : Cond.static yJ2_putCharsAt_cd4e5 ∈ gT := gT_mem (i := 634) (by decide +kernel) (by decide +kernel)
theorem cd_yJ2_putCharsAt_cd4e5 : Cond.code yJ2_putCharsAt_cd4e5 cJ2_putCharsAt_cd4e5 7 (some FieldType.int) ∈ gT := gT_mem (i := 635) (by decide +kernel) (by decide +kernel)
theorem ml_J2_96 : Cond.methodLink RJ2 96 yJ2_checkBoundsBeginEnd_d044e ∈ gT := gT_mem (i := 636) (by decide +kernel) (by decide +kernel)
theorem st_yJ2_checkBoundsBeginEnd_d044e : Cond.static yJ2_checkBoundsBeginEnd_d044e ∈ gT := gT_mem (i := 637) (by decide +kernel) (by decide +kernel)
theorem cd_yJ2_checkBoundsBeginEnd_d044e : Cond.code yJ2_checkBoundsBeginEnd_d044e cJ2_checkBoundsBeginEnd_d044e 3 none ∈ gT := gT_mem (i := 638) (by decide +kernel) (by decide +kernel)
theorem ml_J2_241 : Cond.methodLink RJ2 241 yJ0_checkBoundsBeginEnd_23922 ∈ gT := gT_mem (i := 639) (by decide +kernel) (by decide +kernel)
theorem st_yJ0_checkBoundsBeginEnd_23922 : Cond.static yJ0_checkBoundsBeginEnd_23922 ∈ gT := gT_mem (i := 640) (by decide +kernel) (by decide +kernel)
theorem cd_yJ0_checkBoundsBeginEnd_23922 : Cond.code yJ0_checkBoundsBeginEnd_23922 cJ0_checkBoundsBeginEnd_23922 3 none ∈ gT := gT_mem (i := 641) (by decide +kernel) (by decide +kernel)
theorem ml_J0_1062 : Cond.methodLink RJ0 1062 yJ3_checkFromToIndex_8c36e ∈ gT := gT_mem (i := 642) (by decide +kernel) (by decide +kernel)
theorem st_yJ3_checkFromToIndex_8c36e : Cond.static yJ3_checkFromToIndex_8c36e ∈ gT := gT_mem (i := 643) (by decide +kernel) (by decide +kernel)
theorem cd_yJ3_checkFromToIndex_8c36e : Cond.code yJ3_checkFromToIndex_8c36e cJ3_checkFromToIndex_8c36e 4 (some FieldType.int) ∈ gT := gT_mem (i := 644) (by decide +kernel) (by decide +kernel)
theorem ml_J2_111 : Cond.methodLink RJ2 111 yJ2_putChar_b72d1 ∈ gT := gT_mem (i := 645) (by decide +kernel) (by decide +kernel)
theorem st_yJ2_putChar_b72d1 : Cond.static yJ2_putChar_b72d1 ∈ gT := gT_mem (i := 646) (by decide +kernel) (by decide +kernel)
theorem cd_yJ2_putChar_b72d1 : Cond.code yJ2_putChar_b72d1 cJ2_putChar_b72d1 3 none ∈ gT := gT_mem (i := 647) (by decide +kernel) (by decide +kernel)
theorem ml_J5_32 : Cond.methodLink RJ5 32 yJ0_length_8abf5 ∈ gT := gT_mem (i := 648) (by decide +kernel) (by decide +kernel)
theorem im_yJ0_length_8abf5 : Cond.instanceMethod yJ0_length_8abf5 ∈ gT := gT_mem (i := 649) (by decide +kernel) (by decide +kernel)
theorem se_yJ0_length_8abf5 : Cond.selects RJ0 yJ0_length_8abf5 yJ0_length_8abf5 ∈ gT := gT_mem (i := 650) (by decide +kernel) (by decide +kernel)
theorem cd_yJ0_length_8abf5 : Cond.code yJ0_length_8abf5 cJ0_length_8abf5 1 (some FieldType.int) ∈ gT := gT_mem (i := 651) (by decide +kernel) (by decide +kernel)
theorem ml_J0_335 : Cond.methodLink RJ0 335 yJ0_coder_7d493 ∈ gT := gT_mem (i := 652) (by decide +kernel) (by decide +kernel)
theorem im_yJ0_coder_7d493 : Cond.instanceMethod yJ0_coder_7d493 ∈ gT := gT_mem (i := 653) (by decide +kernel) (by decide +kernel)
theorem se_yJ0_coder_7d493 : Cond.selects RJ0 yJ0_coder_7d493 yJ0_coder_7d493 ∈ gT := gT_mem (i := 654) (by decide +kernel) (by decide +kernel)
theorem cd_yJ0_coder_7d493 : Cond.code yJ0_coder_7d493 cJ0_coder_7d493 1 (some FieldType.byte) ∈ gT := gT_mem (i := 655) (by decide +kernel) (by decide +kernel)
theorem ml_J5_208 : Cond.methodLink RJ5 208 yJ5_putStringAt_47b60 ∈ gT := gT_mem (i := 656) (by decide +kernel) (by decide +kernel)
theorem im_yJ5_putStringAt_47b60 : Cond.instanceMethod yJ5_putStringAt_47b60 ∈ gT := gT_mem (i := 658) (by decide +kernel) (by decide +kernel)
theorem cd_yJ5_putStringAt_47b60 : Cond.code yJ5_putStringAt_47b60 cJ5_putStringAt_47b60 3 none ∈ gT := gT_mem (i := 659) (by decide +kernel) (by decide +kernel)
theorem ml_J5_397 : Cond.methodLink RJ5 397 yJ5_inflateIfNeededFor_a7421 ∈ gT := gT_mem (i := 660) (by decide +kernel) (by decide +kernel)
theorem im_yJ5_inflateIfNeededFor_a7421 : Cond.instanceMethod yJ5_inflateIfNeededFor_a7421 ∈ gT := gT_mem (i := 662) (by decide +kernel) (by decide +kernel)
theorem cd_yJ5_inflateIfNeededFor_a7421 : Cond.code yJ5_inflateIfNeededFor_a7421 cJ5_inflateIfNeededFor_a7421 2 none ∈ gT := gT_mem (i := 663) (by decide +kernel) (by decide +kernel)
theorem ml_J5_40 : Cond.methodLink RJ5 40 yJ0_coder_7d493 ∈ gT := gT_mem (i := 664) (by decide +kernel) (by decide +kernel)
theorem ml_J5_195 : Cond.methodLink RJ5 195 yJ5_inflate_da8c8 ∈ gT := gT_mem (i := 665) (by decide +kernel) (by decide +kernel)
theorem im_yJ5_inflate_da8c8 : Cond.instanceMethod yJ5_inflate_da8c8 ∈ gT := gT_mem (i := 667) (by decide +kernel) (by decide +kernel)
theorem cd_yJ5_inflate_da8c8 : Cond.code yJ5_inflate_da8c8 cJ5_inflate_da8c8 2 none ∈ gT := gT_mem (i := 668) (by decide +kernel) (by decide +kernel)
theorem ml_J5_125 : Cond.methodLink RJ5 125 yJ1_inflate_0e8fd ∈ gT := gT_mem (i := 669) (by decide +kernel) (by decide +kernel)
theorem st_yJ1_inflate_0e8fd : Cond.static yJ1_inflate_0e8fd ∈ gT := gT_mem (i := 670) (by decide +kernel) (by decide +kernel)
theorem cd_yJ1_inflate_0e8fd : Cond.code yJ1_inflate_0e8fd cJ1_inflate_0e8fd 5 none ∈ gT := gT_mem (i := 671) (by decide +kernel) (by decide +kernel)
theorem ml_J1_240 : Cond.methodLink RJ1 240 yJ2_inflate_0e8fd ∈ gT := gT_mem (i := 672) (by decide +kernel) (by decide +kernel)
theorem st_yJ2_inflate_0e8fd : Cond.static yJ2_inflate_0e8fd ∈ gT := gT_mem (i := 673) (by decide +kernel) (by decide +kernel)
theorem cd_yJ2_inflate_0e8fd : Cond.code yJ2_inflate_0e8fd cJ2_inflate_0e8fd 6 none ∈ gT := gT_mem (i := 674) (by decide +kernel) (by decide +kernel)
theorem ml_J2_173 : Cond.methodLink RJ2 173 yJ2_checkBoundsOffCount_d044e ∈ gT := gT_mem (i := 675) (by decide +kernel) (by decide +kernel)
theorem st_yJ2_checkBoundsOffCount_d044e : Cond.static yJ2_checkBoundsOffCount_d044e ∈ gT := gT_mem (i := 676) (by decide +kernel) (by decide +kernel)
theorem cd_yJ2_checkBoundsOffCount_d044e : Cond.code yJ2_checkBoundsOffCount_d044e cJ2_checkBoundsOffCount_d044e 3 none ∈ gT := gT_mem (i := 677) (by decide +kernel) (by decide +kernel)
theorem ml_J2_419 : Cond.methodLink RJ2 419 yJ0_checkBoundsOffCount_cabcc ∈ gT := gT_mem (i := 678) (by decide +kernel) (by decide +kernel)
theorem st_yJ0_checkBoundsOffCount_cabcc : Cond.static yJ0_checkBoundsOffCount_cabcc ∈ gT := gT_mem (i := 679) (by decide +kernel) (by decide +kernel)
theorem cd_yJ0_checkBoundsOffCount_cabcc : Cond.code yJ0_checkBoundsOffCount_cabcc cJ0_checkBoundsOffCount_cabcc 3 (some FieldType.int) ∈ gT := gT_mem (i := 680) (by decide +kernel) (by decide +kernel)
theorem ml_J0_1065 : Cond.methodLink RJ0 1065 yJ3_checkFromIndexSize_8c36e ∈ gT := gT_mem (i := 681) (by decide +kernel) (by decide +kernel)
theorem st_yJ3_checkFromIndexSize_8c36e : Cond.static yJ3_checkFromIndexSize_8c36e ∈ gT := gT_mem (i := 682) (by decide +kernel) (by decide +kernel)
theorem cd_yJ3_checkFromIndexSize_8c36e : Cond.code yJ3_checkFromIndexSize_8c36e cJ3_checkFromIndexSize_8c36e 4 (some FieldType.int) ∈ gT := gT_mem (i := 683) (by decide +kernel) (by decide +kernel)
theorem ml_J5_399 : Cond.methodLink RJ5 399 yJ0_getBytes_840e7 ∈ gT := gT_mem (i := 684) (by decide +kernel) (by decide +kernel)
theorem im_yJ0_getBytes_840e7 : Cond.instanceMethod yJ0_getBytes_840e7 ∈ gT := gT_mem (i := 685) (by decide +kernel) (by decide +kernel)
theorem se_yJ0_getBytes_840e7 : Cond.selects RJ0 yJ0_getBytes_840e7 yJ0_getBytes_840e7 ∈ gT := gT_mem (i := 686) (by decide +kernel) (by decide +kernel)
theorem cd_yJ0_getBytes_840e7 : Cond.code yJ0_getBytes_840e7 cJ0_getBytes_840e7 4 none ∈ gT := gT_mem (i := 687) (by decide +kernel) (by decide +kernel)
theorem ml_J0_212 : Cond.methodLink RJ0 212 ⟨"java/lang/System", "arraycopy", "(Ljava/lang/Object;ILjava/lang/Object;II)V"⟩ ∈ gT := gT_mem (i := 688) (by decide +kernel) (by decide +kernel)
theorem ml_J0_106 : Cond.methodLink RJ0 106 yJ1_inflate_0e8fd ∈ gT := gT_mem (i := 689) (by decide +kernel) (by decide +kernel)
theorem ml_L_76 : Cond.methodLink RL 76 yX5_cellOf ∈ gT := gT_mem (i := 690) (by decide +kernel) (by decide +kernel)
theorem im_yX5_cellOf : Cond.instanceMethod yX5_cellOf ∈ gT := gT_mem (i := 691) (by decide +kernel) (by decide +kernel)
theorem se_yX5_cellOf : Cond.selects RX5 yX5_cellOf yX5_cellOf ∈ gT := gT_mem (i := 692) (by decide +kernel) (by decide +kernel)
theorem cd_yX5_cellOf : Cond.code yX5_cellOf cX5_cellOf 5 (some FieldType.int) ∈ gT := gT_mem (i := 693) (by decide +kernel) (by decide +kernel)
theorem cl_X5_110 : Cond.classLink RX5 110 "java/util/NoSuchElementException" ∈ gT := gT_mem (i := 694) (by decide +kernel) (by decide +kernel)
theorem ml_X5_114 : Cond.methodLink RX5 114 ⟨"java/util/NoSuchElementException", "<init>", "(Ljava/lang/String;)V"⟩ ∈ gT := gT_mem (i := 704) (by decide +kernel) (by decide +kernel)
theorem ml_X5_194 : Cond.methodLink RX5 194 yX4_cellAt ∈ gT := gT_mem (i := 710) (by decide +kernel) (by decide +kernel)
theorem im_yX4_cellAt : Cond.instanceMethod yX4_cellAt ∈ gT := gT_mem (i := 711) (by decide +kernel) (by decide +kernel)
theorem se_yX4_cellAt : Cond.selects RX4 yX4_cellAt yX4_cellAt ∈ gT := gT_mem (i := 712) (by decide +kernel) (by decide +kernel)
theorem cd_yX4_cellAt : Cond.code yX4_cellAt cX4_cellAt 3 (some FieldType.int) ∈ gT := gT_mem (i := 713) (by decide +kernel) (by decide +kernel)
theorem ml_L_66 : Cond.methodLink RL 66 yJ4_append_cf468 ∈ gT := gT_mem (i := 714) (by decide +kernel) (by decide +kernel)
theorem im_yJ4_append_cf468 : Cond.instanceMethod yJ4_append_cf468 ∈ gT := gT_mem (i := 715) (by decide +kernel) (by decide +kernel)
theorem se_yJ4_append_cf468 : Cond.selects RJ4 yJ4_append_cf468 yJ4_append_cf468 ∈ gT := gT_mem (i := 716) (by decide +kernel) (by decide +kernel)
theorem cd_yJ4_append_cf468 : Cond.code yJ4_append_cf468 cJ4_append_cf468 2 (some (FieldType.object "java/lang/StringBuilder")) ∈ gT := gT_mem (i := 717) (by decide +kernel) (by decide +kernel)
theorem ml_J4_50 : Cond.methodLink RJ4 50 yJ5_append_3fe6f ∈ gT := gT_mem (i := 718) (by decide +kernel) (by decide +kernel)
theorem im_yJ5_append_3fe6f : Cond.instanceMethod yJ5_append_3fe6f ∈ gT := gT_mem (i := 719) (by decide +kernel) (by decide +kernel)
theorem cd_yJ5_append_3fe6f : Cond.code yJ5_append_3fe6f cJ5_append_3fe6f 2 (some (FieldType.object "java/lang/AbstractStringBuilder")) ∈ gT := gT_mem (i := 720) (by decide +kernel) (by decide +kernel)
theorem ml_J5_191 : Cond.methodLink RJ5 191 yJ1_canEncode_fc78d ∈ gT := gT_mem (i := 721) (by decide +kernel) (by decide +kernel)
theorem st_yJ1_canEncode_fc78d : Cond.static yJ1_canEncode_fc78d ∈ gT := gT_mem (i := 722) (by decide +kernel) (by decide +kernel)
theorem cd_yJ1_canEncode_fc78d : Cond.code yJ1_canEncode_fc78d cJ1_canEncode_fc78d 1 (some FieldType.boolean) ∈ gT := gT_mem (i := 723) (by decide +kernel) (by decide +kernel)
theorem ml_J5_197 : Cond.methodLink RJ5 197 yJ2_putCharSB_b72d1 ∈ gT := gT_mem (i := 724) (by decide +kernel) (by decide +kernel)
theorem st_yJ2_putCharSB_b72d1 : Cond.static yJ2_putCharSB_b72d1 ∈ gT := gT_mem (i := 725) (by decide +kernel) (by decide +kernel)
theorem cd_yJ2_putCharSB_b72d1 : Cond.code yJ2_putCharSB_b72d1 cJ2_putCharSB_b72d1 3 none ∈ gT := gT_mem (i := 726) (by decide +kernel) (by decide +kernel)
theorem ml_L_69 : Cond.methodLink RL 69 yJ4_toString_0e30d ∈ gT := gT_mem (i := 727) (by decide +kernel) (by decide +kernel)
theorem im_yJ4_toString_0e30d : Cond.instanceMethod yJ4_toString_0e30d ∈ gT := gT_mem (i := 728) (by decide +kernel) (by decide +kernel)
theorem se_yJ4_toString_0e30d : Cond.selects RJ4 yJ4_toString_0e30d yJ4_toString_0e30d ∈ gT := gT_mem (i := 729) (by decide +kernel) (by decide +kernel)
theorem cd_yJ4_toString_0e30d : Cond.code yJ4_toString_0e30d cJ4_toString_0e30d 1 (some (FieldType.object "java/lang/String")) ∈ gT := gT_mem (i := 730) (by decide +kernel) (by decide +kernel)
theorem cl_J4_18 : Cond.classLink RJ4 18 RJ0 ∈ gT := gT_mem (i := 731) (by decide +kernel) (by decide +kernel)
theorem ins_J0 : Cond.instantiable RJ0 4 ∈ gT := gT_mem (i := 732) (by decide +kernel) (by decide +kernel)
theorem ml_J4_137 : Cond.methodLink RJ4 137 yJ0_init_81219 ∈ gT := gT_mem (i := 733) (by decide +kernel) (by decide +kernel)
theorem im_yJ0_init_81219 : Cond.instanceMethod yJ0_init_81219 ∈ gT := gT_mem (i := 734) (by decide +kernel) (by decide +kernel)
theorem cd_yJ0_init_81219 : Cond.code yJ0_init_81219 cJ0_init_81219 2 none ∈ gT := gT_mem (i := 735) (by decide +kernel) (by decide +kernel)
theorem ml_J0_489 : Cond.methodLink RJ0 489 yJ0_init_db425 ∈ gT := gT_mem (i := 736) (by decide +kernel) (by decide +kernel)
theorem im_yJ0_init_db425 : Cond.instanceMethod yJ0_init_db425 ∈ gT := gT_mem (i := 737) (by decide +kernel) (by decide +kernel)
theorem cd_yJ0_init_db425 : Cond.code yJ0_init_db425 cJ0_init_db425 5 none ∈ gT := gT_mem (i := 738) (by decide +kernel) (by decide +kernel)
theorem ml_J0_1 : Cond.methodLink RJ0 1 ⟨"java/lang/Object", "<init>", "()V"⟩ ∈ gT := gT_mem (i := 739) (by decide +kernel) (by decide +kernel)
theorem ml_J0_552 : Cond.methodLink RJ0 552 yJ5_getValue_6d5f1 ∈ gT := gT_mem (i := 740) (by decide +kernel) (by decide +kernel)
theorem im_yJ5_getValue_6d5f1 : Cond.instanceMethod yJ5_getValue_6d5f1 ∈ gT := gT_mem (i := 741) (by decide +kernel) (by decide +kernel)
theorem sm_J5_yJ5_getValue_6d5f1 : Cond.sameMethod RJ5 RJ5 "getValue" "()[B" ∈ gT := gT_mem (i := 742) (by decide +kernel) (by decide +kernel)
theorem se_J4_yJ5_getValue_6d5f1 : Cond.selects RJ4 yJ5_getValue_6d5f1 yJ5_getValue_6d5f1 ∈ gT := gT_mem (i := 743) (by decide +kernel) (by decide +kernel)
theorem cd_yJ5_getValue_6d5f1 : Cond.code yJ5_getValue_6d5f1 cJ5_getValue_6d5f1 1 (some (FieldType.array FieldType.byte)) ∈ gT := gT_mem (i := 744) (by decide +kernel) (by decide +kernel)
theorem ml_J0_549 : Cond.methodLink RJ0 549 yJ5_length_8abf5 ∈ gT := gT_mem (i := 745) (by decide +kernel) (by decide +kernel)
theorem im_yJ5_length_8abf5 : Cond.instanceMethod yJ5_length_8abf5 ∈ gT := gT_mem (i := 746) (by decide +kernel) (by decide +kernel)
theorem sm_J5_yJ5_length_8abf5 : Cond.sameMethod RJ5 RJ5 "length" "()I" ∈ gT := gT_mem (i := 747) (by decide +kernel) (by decide +kernel)
theorem se_J4_yJ5_length_8abf5 : Cond.selects RJ4 yJ5_length_8abf5 yJ4_length_8abf5 ∈ gT := gT_mem (i := 748) (by decide +kernel) (by decide +kernel)
theorem im_yJ4_length_8abf5 : Cond.instanceMethod yJ4_length_8abf5 ∈ gT := gT_mem (i := 749) (by decide +kernel) (by decide +kernel)
theorem cd_yJ4_length_8abf5 : Cond.code yJ4_length_8abf5 cJ4_length_8abf5 1 (some FieldType.int) ∈ gT := gT_mem (i := 750) (by decide +kernel) (by decide +kernel)
theorem ml_J4_343 : Cond.methodLink RJ4 343 yJ5_length_8abf5 ∈ gT := gT_mem (i := 751) (by decide +kernel) (by decide +kernel)
theorem cd_yJ5_length_8abf5 : Cond.code yJ5_length_8abf5 cJ5_length_8abf5 1 (some FieldType.int) ∈ gT := gT_mem (i := 752) (by decide +kernel) (by decide +kernel)
theorem ml_J0_1047 : Cond.methodLink RJ0 1047 yJ5_isLatin1_aae02 ∈ gT := gT_mem (i := 753) (by decide +kernel) (by decide +kernel)
theorem ml_J0_54 : Cond.methodLink RJ0 54 yJ7_copyOfRange_39247 ∈ gT := gT_mem (i := 754) (by decide +kernel) (by decide +kernel)
theorem st_yJ7_copyOfRange_39247 : Cond.static yJ7_copyOfRange_39247 ∈ gT := gT_mem (i := 755) (by decide +kernel) (by decide +kernel)
theorem cd_yJ7_copyOfRange_39247 : Cond.code yJ7_copyOfRange_39247 cJ7_copyOfRange_39247 3 (some (FieldType.array FieldType.byte)) ∈ gT := gT_mem (i := 756) (by decide +kernel) (by decide +kernel)
theorem ml_J7_339 : Cond.methodLink RJ7 339 yJ7_copyOfRangeByte_39247 ∈ gT := gT_mem (i := 757) (by decide +kernel) (by decide +kernel)
theorem st_yJ7_copyOfRangeByte_39247 : Cond.static yJ7_copyOfRangeByte_39247 ∈ gT := gT_mem (i := 758) (by decide +kernel) (by decide +kernel)
theorem cd_yJ7_copyOfRangeByte_39247 : Cond.code yJ7_copyOfRangeByte_39247 cJ7_copyOfRangeByte_39247 5 (some (FieldType.array FieldType.byte)) ∈ gT := gT_mem (i := 759) (by decide +kernel) (by decide +kernel)
theorem ml_J7_343 : Cond.methodLink RJ7 343 yJ7_checkLength_df160 ∈ gT := gT_mem (i := 760) (by decide +kernel) (by decide +kernel)
theorem st_yJ7_checkLength_df160 : Cond.static yJ7_checkLength_df160 ∈ gT := gT_mem (i := 761) (by decide +kernel) (by decide +kernel)
theorem cd_yJ7_checkLength_df160 : Cond.code yJ7_checkLength_df160 cJ7_checkLength_df160 2 none ∈ gT := gT_mem (i := 762) (by decide +kernel) (by decide +kernel)
theorem ml_J0_1051 : Cond.methodLink RJ0 1051 yJ2_compress_39247 ∈ gT := gT_mem (i := 763) (by decide +kernel) (by decide +kernel)
theorem st_yJ2_compress_39247 : Cond.static yJ2_compress_39247 ∈ gT := gT_mem (i := 764) (by decide +kernel) (by decide +kernel)
theorem cd_yJ2_compress_39247 : Cond.code yJ2_compress_39247 cJ2_compress_39247 6 (some (FieldType.array FieldType.byte)) ∈ gT := gT_mem (i := 765) (by decide +kernel) (by decide +kernel)
theorem ml_J2_123 : Cond.methodLink RJ2 123 yJ2_compress_5af95 ∈ gT := gT_mem (i := 766) (by decide +kernel) (by decide +kernel)
theorem st_yJ2_compress_5af95 : Cond.static yJ2_compress_5af95 ∈ gT := gT_mem (i := 767) (by decide +kernel) (by decide +kernel)
theorem cd_yJ2_compress_5af95 : Cond.code yJ2_compress_5af95 cJ2_compress_5af95 7 (some FieldType.int) ∈ gT := gT_mem (i := 768) (by decide +kernel) (by decide +kernel)
theorem ml_J2_126 : Cond.methodLink RJ2 126 yJ7_copyOfRange_39247 ∈ gT := gT_mem (i := 769) (by decide +kernel) (by decide +kernel)
theorem ml_J0_47 : Cond.methodLink RJ0 47 yJ2_coderFromArrayLen_85cad ∈ gT := gT_mem (i := 770) (by decide +kernel) (by decide +kernel)
theorem st_yJ2_coderFromArrayLen_85cad : Cond.static yJ2_coderFromArrayLen_85cad ∈ gT := gT_mem (i := 771) (by decide +kernel) (by decide +kernel)
theorem cd_yJ2_coderFromArrayLen_85cad : Cond.code yJ2_coderFromArrayLen_85cad cJ2_coderFromArrayLen_85cad 2 (some FieldType.byte) ∈ gT := gT_mem (i := 772) (by decide +kernel) (by decide +kernel)
theorem fl_J0_9 : Cond.fieldLink RJ0 9 "java/lang/String" "value" "[B" ∈ gT := gT_mem (i := 773) (by decide +kernel) (by decide +kernel)
theorem fl_J0_15 : Cond.fieldLink RJ0 15 "java/lang/String" "coder" "B" ∈ gT := gT_mem (i := 774) (by decide +kernel) (by decide +kernel)
theorem su_J0 : Cond.superclass RJ0 "java/lang/Object" ∈ gT := gT_mem (i := 783) (by decide +kernel) (by decide +kernel)
theorem ml_L_97 : Cond.methodLink RL 97 yL_areAlike ∈ gT := gT_mem (i := 784) (by decide +kernel) (by decide +kernel)
theorem st_yL_areAlike : Cond.static yL_areAlike ∈ gT := gT_mem (i := 785) (by decide +kernel) (by decide +kernel)
theorem cd_yL_areAlike : Cond.code yL_areAlike cL_areAlike 4 (some FieldType.boolean) ∈ gT := gT_mem (i := 786) (by decide +kernel) (by decide +kernel)
theorem ml_L_79 : Cond.methodLink RL 79 yJ0_length_8abf5 ∈ gT := gT_mem (i := 787) (by decide +kernel) (by decide +kernel)
theorem ml_L_164 : Cond.methodLink RL 164 yL_isSet ∈ gT := gT_mem (i := 788) (by decide +kernel) (by decide +kernel)
theorem st_yL_isSet : Cond.static yL_isSet ∈ gT := gT_mem (i := 789) (by decide +kernel) (by decide +kernel)
theorem cd_yL_isSet : Cond.code yL_isSet cL_isSet 9 (some FieldType.boolean) ∈ gT := gT_mem (i := 790) (by decide +kernel) (by decide +kernel)
theorem ml_L_81 : Cond.methodLink RL 81 yX5_lines ∈ gT := gT_mem (i := 791) (by decide +kernel) (by decide +kernel)
theorem im_yX5_lines : Cond.instanceMethod yX5_lines ∈ gT := gT_mem (i := 792) (by decide +kernel) (by decide +kernel)
theorem se_yX5_lines : Cond.selects RX5 yX5_lines yX5_lines ∈ gT := gT_mem (i := 793) (by decide +kernel) (by decide +kernel)
theorem cd_yX5_lines : Cond.code yX5_lines cX5_lines 2 (some FieldType.int) ∈ gT := gT_mem (i := 794) (by decide +kernel) (by decide +kernel)
theorem ml_X5_197 : Cond.methodLink RX5 197 yX4_lineCount ∈ gT := gT_mem (i := 795) (by decide +kernel) (by decide +kernel)
theorem im_yX4_lineCount : Cond.instanceMethod yX4_lineCount ∈ gT := gT_mem (i := 796) (by decide +kernel) (by decide +kernel)
theorem se_yX4_lineCount : Cond.selects RX4 yX4_lineCount yX4_lineCount ∈ gT := gT_mem (i := 797) (by decide +kernel) (by decide +kernel)
theorem cd_yX4_lineCount : Cond.code yX4_lineCount cX4_lineCount 1 (some FieldType.int) ∈ gT := gT_mem (i := 798) (by decide +kernel) (by decide +kernel)
theorem ml_L_84 : Cond.methodLink RL 84 yL_line ∈ gT := gT_mem (i := 799) (by decide +kernel) (by decide +kernel)
theorem st_yL_line : Cond.static yL_line ∈ gT := gT_mem (i := 800) (by decide +kernel) (by decide +kernel)
theorem cw_yL_line : Cond.codeWith yL_line cL_line 5 (some (FieldType.object "java/lang/String")) [(3, 47, 48, 44)] ∈ gT := gT_mem (i := 801) (by decide +kernel) (by decide +kernel)
theorem cl_L_44 : Cond.classLink RL 44 "java/util/NoSuchElementException" ∈ gT := gT_mem (i := 802) (by decide +kernel) (by decide +kernel)
theorem ml_L_63 : Cond.methodLink RL 63 yX5_lineAt ∈ gT := gT_mem (i := 803) (by decide +kernel) (by decide +kernel)
theorem im_yX5_lineAt : Cond.instanceMethod yX5_lineAt ∈ gT := gT_mem (i := 804) (by decide +kernel) (by decide +kernel)
theorem se_yX5_lineAt : Cond.selects RX5 yX5_lineAt yX5_lineAt ∈ gT := gT_mem (i := 805) (by decide +kernel) (by decide +kernel)
theorem cd_yX5_lineAt : Cond.code yX5_lineAt cX5_lineAt 5 (some FieldType.int) ∈ gT := gT_mem (i := 806) (by decide +kernel) (by decide +kernel)
theorem ml_X5_202 : Cond.methodLink RX5 202 yX4_lineSize ∈ gT := gT_mem (i := 808) (by decide +kernel) (by decide +kernel)
theorem im_yX4_lineSize : Cond.instanceMethod yX4_lineSize ∈ gT := gT_mem (i := 809) (by decide +kernel) (by decide +kernel)
theorem se_yX4_lineSize : Cond.selects RX4 yX4_lineSize yX4_lineSize ∈ gT := gT_mem (i := 810) (by decide +kernel) (by decide +kernel)
theorem cd_yX4_lineSize : Cond.code yX4_lineSize cX4_lineSize 2 (some FieldType.int) ∈ gT := gT_mem (i := 811) (by decide +kernel) (by decide +kernel)
theorem ml_X5_207 : Cond.methodLink RX5 207 yX4_laidCellAt ∈ gT := gT_mem (i := 813) (by decide +kernel) (by decide +kernel)
theorem im_yX4_laidCellAt : Cond.instanceMethod yX4_laidCellAt ∈ gT := gT_mem (i := 814) (by decide +kernel) (by decide +kernel)
theorem se_yX4_laidCellAt : Cond.selects RX4 yX4_laidCellAt yX4_laidCellAt ∈ gT := gT_mem (i := 815) (by decide +kernel) (by decide +kernel)
theorem cd_yX4_laidCellAt : Cond.code yX4_laidCellAt cX4_laidCellAt 3 (some FieldType.int) ∈ gT := gT_mem (i := 816) (by decide +kernel) (by decide +kernel)
theorem ml_L_94 : Cond.methodLink RL 94 yX5_lineOf ∈ gT := gT_mem (i := 817) (by decide +kernel) (by decide +kernel)
theorem im_yX5_lineOf : Cond.instanceMethod yX5_lineOf ∈ gT := gT_mem (i := 818) (by decide +kernel) (by decide +kernel)
theorem se_yX5_lineOf : Cond.selects RX5 yX5_lineOf yX5_lineOf ∈ gT := gT_mem (i := 819) (by decide +kernel) (by decide +kernel)
theorem cd_yX5_lineOf : Cond.code yX5_lineOf cX5_lineOf 3 (some FieldType.int) ∈ gT := gT_mem (i := 820) (by decide +kernel) (by decide +kernel)
theorem ml_X5_210 : Cond.methodLink RX5 210 yX4_firstLineOf ∈ gT := gT_mem (i := 821) (by decide +kernel) (by decide +kernel)
theorem im_yX4_firstLineOf : Cond.instanceMethod yX4_firstLineOf ∈ gT := gT_mem (i := 822) (by decide +kernel) (by decide +kernel)
theorem se_yX4_firstLineOf : Cond.selects RX4 yX4_firstLineOf yX4_firstLineOf ∈ gT := gT_mem (i := 823) (by decide +kernel) (by decide +kernel)
theorem cd_yX4_firstLineOf : Cond.code yX4_firstLineOf cX4_firstLineOf 2 (some FieldType.int) ∈ gT := gT_mem (i := 824) (by decide +kernel) (by decide +kernel)
theorem ml_L_160 : Cond.methodLink RL 160 yL_acts ∈ gT := gT_mem (i := 825) (by decide +kernel) (by decide +kernel)
theorem st_yL_acts : Cond.static yL_acts ∈ gT := gT_mem (i := 826) (by decide +kernel) (by decide +kernel)
theorem cd_yL_acts : Cond.code yL_acts cL_acts 9 (some FieldType.boolean) ∈ gT := gT_mem (i := 827) (by decide +kernel) (by decide +kernel)
theorem ml_L_110 : Cond.methodLink RL 110 yJ9_max_7cf53 ∈ gT := gT_mem (i := 828) (by decide +kernel) (by decide +kernel)
theorem ml_L_119 : Cond.methodLink RL 119 yL_rule ∈ gT := gT_mem (i := 829) (by decide +kernel) (by decide +kernel)
theorem st_yL_rule : Cond.static yL_rule ∈ gT := gT_mem (i := 830) (by decide +kernel) (by decide +kernel)
theorem cw_yL_rule : Cond.codeWith yL_rule cL_rule 5 (some FieldType.int) [(0, 7, 8, 37), (0, 7, 12, 39)] ∈ gT := gT_mem (i := 831) (by decide +kernel) (by decide +kernel)
theorem cl_L_37 : Cond.classLink RL 37 "java/lang/UnsupportedOperationException" ∈ gT := gT_mem (i := 832) (by decide +kernel) (by decide +kernel)
theorem cl_L_39 : Cond.classLink RL 39 "java/lang/IllegalStateException" ∈ gT := gT_mem (i := 833) (by decide +kernel) (by decide +kernel)
theorem ml_L_33 : Cond.methodLink RL 33 yX5_addRule ∈ gT := gT_mem (i := 834) (by decide +kernel) (by decide +kernel)
theorem im_yX5_addRule : Cond.instanceMethod yX5_addRule ∈ gT := gT_mem (i := 835) (by decide +kernel) (by decide +kernel)
theorem se_yX5_addRule : Cond.selects RX5 yX5_addRule yX5_addRule ∈ gT := gT_mem (i := 836) (by decide +kernel) (by decide +kernel)
theorem cd_yX5_addRule : Cond.code yX5_addRule cX5_addRule 6 (some FieldType.int) ∈ gT := gT_mem (i := 837) (by decide +kernel) (by decide +kernel)
theorem ml_X5_80 : Cond.methodLink RX5 80 yX5_typedKey ∈ gT := gT_mem (i := 838) (by decide +kernel) (by decide +kernel)
theorem im_yX5_typedKey : Cond.instanceMethod yX5_typedKey ∈ gT := gT_mem (i := 840) (by decide +kernel) (by decide +kernel)
theorem cd_yX5_typedKey : Cond.code yX5_typedKey cX5_typedKey 1 (some FieldType.int) ∈ gT := gT_mem (i := 841) (by decide +kernel) (by decide +kernel)
theorem ml_X5_138 : Cond.methodLink RX5 138 yX2_placeOf ∈ gT := gT_mem (i := 842) (by decide +kernel) (by decide +kernel)
theorem ml_X5_286 : Cond.methodLink RX5 286 yX3_keyOf ∈ gT := gT_mem (i := 843) (by decide +kernel) (by decide +kernel)
theorem ml_X5_83 : Cond.methodLink RX5 83 yX5_isRule ∈ gT := gT_mem (i := 844) (by decide +kernel) (by decide +kernel)
theorem st_yX5_isRule : Cond.static yX5_isRule ∈ gT := gT_mem (i := 845) (by decide +kernel) (by decide +kernel)
theorem cd_yX5_isRule : Cond.code yX5_isRule cX5_isRule 3 (some FieldType.boolean) ∈ gT := gT_mem (i := 846) (by decide +kernel) (by decide +kernel)
theorem ml_X5_89 : Cond.methodLink RX5 89 yX3_isFull ∈ gT := gT_mem (i := 848) (by decide +kernel) (by decide +kernel)
theorem im_yX3_isFull : Cond.instanceMethod yX3_isFull ∈ gT := gT_mem (i := 849) (by decide +kernel) (by decide +kernel)
theorem se_yX3_isFull : Cond.selects RX3 yX3_isFull yX3_isFull ∈ gT := gT_mem (i := 850) (by decide +kernel) (by decide +kernel)
theorem cd_yX3_isFull : Cond.code yX3_isFull cX3_isFull 1 (some FieldType.boolean) ∈ gT := gT_mem (i := 851) (by decide +kernel) (by decide +kernel)
theorem ml_X3_46 : Cond.methodLink RX3 46 yX2_isFull ∈ gT := gT_mem (i := 852) (by decide +kernel) (by decide +kernel)
theorem ml_X5_92 : Cond.methodLink RX5 92 yX3_placeOf ∈ gT := gT_mem (i := 854) (by decide +kernel) (by decide +kernel)
theorem im_yX3_placeOf : Cond.instanceMethod yX3_placeOf ∈ gT := gT_mem (i := 855) (by decide +kernel) (by decide +kernel)
theorem se_yX3_placeOf : Cond.selects RX3 yX3_placeOf yX3_placeOf ∈ gT := gT_mem (i := 856) (by decide +kernel) (by decide +kernel)
theorem cd_yX3_placeOf : Cond.code yX3_placeOf cX3_placeOf 2 (some FieldType.int) ∈ gT := gT_mem (i := 857) (by decide +kernel) (by decide +kernel)
theorem cl_X5_96 : Cond.classLink RX5 96 "java/lang/UnsupportedOperationException" ∈ gT := gT_mem (i := 858) (by decide +kernel) (by decide +kernel)
theorem ml_X5_100 : Cond.methodLink RX5 100 ⟨"java/lang/UnsupportedOperationException", "<init>", "(Ljava/lang/String;)V"⟩ ∈ gT := gT_mem (i := 868) (by decide +kernel) (by decide +kernel)
theorem ml_X5_101 : Cond.methodLink RX5 101 yX3_insert ∈ gT := gT_mem (i := 874) (by decide +kernel) (by decide +kernel)
theorem im_yX3_insert : Cond.instanceMethod yX3_insert ∈ gT := gT_mem (i := 875) (by decide +kernel) (by decide +kernel)
theorem se_yX3_insert : Cond.selects RX3 yX3_insert yX3_insert ∈ gT := gT_mem (i := 876) (by decide +kernel) (by decide +kernel)
theorem cd_yX3_insert : Cond.code yX3_insert cX3_insert 7 (some FieldType.int) ∈ gT := gT_mem (i := 877) (by decide +kernel) (by decide +kernel)
theorem ml_X3_53 : Cond.methodLink RX3 53 yX2_insert ∈ gT := gT_mem (i := 878) (by decide +kernel) (by decide +kernel)
theorem im_yX2_insert : Cond.instanceMethod yX2_insert ∈ gT := gT_mem (i := 879) (by decide +kernel) (by decide +kernel)
theorem se_yX2_insert : Cond.selects RX2 yX2_insert yX2_insert ∈ gT := gT_mem (i := 880) (by decide +kernel) (by decide +kernel)
theorem cd_yX2_insert : Cond.code yX2_insert cX2_insert 3 none ∈ gT := gT_mem (i := 881) (by decide +kernel) (by decide +kernel)
theorem ml_X2_19 : Cond.methodLink RX2 19 ⟨"java/lang/System", "arraycopy", "(Ljava/lang/Object;ILjava/lang/Object;II)V"⟩ ∈ gT := gT_mem (i := 882) (by decide +kernel) (by decide +kernel)
theorem ml_X5_105 : Cond.methodLink RX5 105 yX5_translateTexts ∈ gT := gT_mem (i := 883) (by decide +kernel) (by decide +kernel)
theorem im_yX5_translateTexts : Cond.instanceMethod yX5_translateTexts ∈ gT := gT_mem (i := 885) (by decide +kernel) (by decide +kernel)
theorem cd_yX5_translateTexts : Cond.code yX5_translateTexts cX5_translateTexts 6 (some FieldType.int) ∈ gT := gT_mem (i := 886) (by decide +kernel) (by decide +kernel)
theorem ml_L_123 : Cond.methodLink RL 123 yL_mend ∈ gT := gT_mem (i := 887) (by decide +kernel) (by decide +kernel)
theorem st_yL_mend : Cond.static yL_mend ∈ gT := gT_mem (i := 888) (by decide +kernel) (by decide +kernel)
theorem cw_yL_mend : Cond.codeWith yL_mend cL_mend 5 (some FieldType.int) [(0, 7, 8, 44)] ∈ gT := gT_mem (i := 889) (by decide +kernel) (by decide +kernel)
theorem ml_L_41 : Cond.methodLink RL 41 yX5_mend ∈ gT := gT_mem (i := 890) (by decide +kernel) (by decide +kernel)
theorem im_yX5_mend : Cond.instanceMethod yX5_mend ∈ gT := gT_mem (i := 891) (by decide +kernel) (by decide +kernel)
theorem se_yX5_mend : Cond.selects RX5 yX5_mend yX5_mend ∈ gT := gT_mem (i := 892) (by decide +kernel) (by decide +kernel)
theorem cd_yX5_mend : Cond.code yX5_mend cX5_mend 5 (some FieldType.int) ∈ gT := gT_mem (i := 893) (by decide +kernel) (by decide +kernel)
theorem ml_X5_115 : Cond.methodLink RX5 115 yX3_alter ∈ gT := gT_mem (i := 896) (by decide +kernel) (by decide +kernel)
theorem im_yX3_alter : Cond.instanceMethod yX3_alter ∈ gT := gT_mem (i := 897) (by decide +kernel) (by decide +kernel)
theorem se_yX3_alter : Cond.selects RX3 yX3_alter yX3_alter ∈ gT := gT_mem (i := 898) (by decide +kernel) (by decide +kernel)
theorem cd_yX3_alter : Cond.code yX3_alter cX3_alter 5 none ∈ gT := gT_mem (i := 899) (by decide +kernel) (by decide +kernel)
theorem ml_X3_56 : Cond.methodLink RX3 56 yX2_set ∈ gT := gT_mem (i := 900) (by decide +kernel) (by decide +kernel)
theorem ml_L_125 : Cond.methodLink RL 125 yL_turns ∈ gT := gT_mem (i := 901) (by decide +kernel) (by decide +kernel)
theorem st_yL_turns : Cond.static yL_turns ∈ gT := gT_mem (i := 902) (by decide +kernel) (by decide +kernel)
theorem cw_yL_turns : Cond.codeWith yL_turns cL_turns 2 (some FieldType.boolean) [(0, 6, 7, 39)] ∈ gT := gT_mem (i := 903) (by decide +kernel) (by decide +kernel)
theorem ml_L_46 : Cond.methodLink RL 46 yX5_turnException ∈ gT := gT_mem (i := 904) (by decide +kernel) (by decide +kernel)
theorem im_yX5_turnException : Cond.instanceMethod yX5_turnException ∈ gT := gT_mem (i := 905) (by decide +kernel) (by decide +kernel)
theorem se_yX5_turnException : Cond.selects RX5 yX5_turnException yX5_turnException ∈ gT := gT_mem (i := 906) (by decide +kernel) (by decide +kernel)
theorem cd_yX5_turnException : Cond.code yX5_turnException cX5_turnException 2 (some FieldType.boolean) ∈ gT := gT_mem (i := 907) (by decide +kernel) (by decide +kernel)
theorem ml_X5_141 : Cond.methodLink RX5 141 yX3_placeOfException ∈ gT := gT_mem (i := 909) (by decide +kernel) (by decide +kernel)
theorem ml_X5_145 : Cond.methodLink RX5 145 yX3_isFullOfExceptions ∈ gT := gT_mem (i := 910) (by decide +kernel) (by decide +kernel)
theorem im_yX3_isFullOfExceptions : Cond.instanceMethod yX3_isFullOfExceptions ∈ gT := gT_mem (i := 911) (by decide +kernel) (by decide +kernel)
theorem se_yX3_isFullOfExceptions : Cond.selects RX3 yX3_isFullOfExceptions yX3_isFullOfExceptions ∈ gT := gT_mem (i := 912) (by decide +kernel) (by decide +kernel)
theorem cd_yX3_isFullOfExceptions : Cond.code yX3_isFullOfExceptions cX3_isFullOfExceptions 1 (some FieldType.boolean) ∈ gT := gT_mem (i := 913) (by decide +kernel) (by decide +kernel)
theorem ml_X5_150 : Cond.methodLink RX5 150 yX3_addException ∈ gT := gT_mem (i := 915) (by decide +kernel) (by decide +kernel)
theorem im_yX3_addException : Cond.instanceMethod yX3_addException ∈ gT := gT_mem (i := 916) (by decide +kernel) (by decide +kernel)
theorem se_yX3_addException : Cond.selects RX3 yX3_addException yX3_addException ∈ gT := gT_mem (i := 917) (by decide +kernel) (by decide +kernel)
theorem cd_yX3_addException : Cond.code yX3_addException cX3_addException 3 none ∈ gT := gT_mem (i := 918) (by decide +kernel) (by decide +kernel)
theorem ml_X3_70 : Cond.methodLink RX3 70 yX1_cut ∈ gT := gT_mem (i := 919) (by decide +kernel) (by decide +kernel)
theorem ml_X5_154 : Cond.methodLink RX5 154 yX3_dropException ∈ gT := gT_mem (i := 920) (by decide +kernel) (by decide +kernel)
theorem im_yX3_dropException : Cond.instanceMethod yX3_dropException ∈ gT := gT_mem (i := 921) (by decide +kernel) (by decide +kernel)
theorem se_yX3_dropException : Cond.selects RX3 yX3_dropException yX3_dropException ∈ gT := gT_mem (i := 922) (by decide +kernel) (by decide +kernel)
theorem cd_yX3_dropException : Cond.code yX3_dropException cX3_dropException 2 none ∈ gT := gT_mem (i := 923) (by decide +kernel) (by decide +kernel)
theorem ml_X3_73 : Cond.methodLink RX3 73 yX1_drop ∈ gT := gT_mem (i := 924) (by decide +kernel) (by decide +kernel)
theorem im_yX1_drop : Cond.instanceMethod yX1_drop ∈ gT := gT_mem (i := 925) (by decide +kernel) (by decide +kernel)
theorem se_yX1_drop : Cond.selects RX1 yX1_drop yX1_drop ∈ gT := gT_mem (i := 926) (by decide +kernel) (by decide +kernel)
theorem cd_yX1_drop : Cond.code yX1_drop cX1_drop 5 none ∈ gT := gT_mem (i := 927) (by decide +kernel) (by decide +kernel)
theorem ml_X1_45 : Cond.methodLink RX1 45 yX1_sizeOf ∈ gT := gT_mem (i := 928) (by decide +kernel) (by decide +kernel)
theorem ml_X1_48 : Cond.methodLink RX1 48 yX2_remove ∈ gT := gT_mem (i := 929) (by decide +kernel) (by decide +kernel)
theorem im_yX2_remove : Cond.instanceMethod yX2_remove ∈ gT := gT_mem (i := 930) (by decide +kernel) (by decide +kernel)
theorem se_yX2_remove : Cond.selects RX2 yX2_remove yX2_remove ∈ gT := gT_mem (i := 931) (by decide +kernel) (by decide +kernel)
theorem cd_yX2_remove : Cond.code yX2_remove cX2_remove 2 none ∈ gT := gT_mem (i := 932) (by decide +kernel) (by decide +kernel)
theorem ml_X1_51 : Cond.methodLink RX1 51 yX2_set ∈ gT := gT_mem (i := 933) (by decide +kernel) (by decide +kernel)
theorem ml_L_129 : Cond.methodLink RL 129 yX5_setWidth ∈ gT := gT_mem (i := 934) (by decide +kernel) (by decide +kernel)
theorem im_yX5_setWidth : Cond.instanceMethod yX5_setWidth ∈ gT := gT_mem (i := 935) (by decide +kernel) (by decide +kernel)
theorem se_yX5_setWidth : Cond.selects RX5 yX5_setWidth yX5_setWidth ∈ gT := gT_mem (i := 936) (by decide +kernel) (by decide +kernel)
theorem cd_yX5_setWidth : Cond.code yX5_setWidth cX5_setWidth 7 (some FieldType.int) ∈ gT := gT_mem (i := 937) (by decide +kernel) (by decide +kernel)
theorem ml_L_135 : Cond.methodLink RL 135 yL_isEmbossed ∈ gT := gT_mem (i := 939) (by decide +kernel) (by decide +kernel)
theorem st_yL_isEmbossed : Cond.static yL_isEmbossed ∈ gT := gT_mem (i := 940) (by decide +kernel) (by decide +kernel)
theorem cd_yL_isEmbossed : Cond.code yL_isEmbossed cL_isEmbossed 12 (some FieldType.boolean) ∈ gT := gT_mem (i := 941) (by decide +kernel) (by decide +kernel)
theorem ml_L_101 : Cond.methodLink RL 101 yX5_strikes ∈ gT := gT_mem (i := 942) (by decide +kernel) (by decide +kernel)
theorem im_yX5_strikes : Cond.instanceMethod yX5_strikes ∈ gT := gT_mem (i := 943) (by decide +kernel) (by decide +kernel)
theorem se_yX5_strikes : Cond.selects RX5 yX5_strikes yX5_strikes ∈ gT := gT_mem (i := 944) (by decide +kernel) (by decide +kernel)
theorem cd_yX5_strikes : Cond.code yX5_strikes cX5_strikes 2 (some FieldType.int) ∈ gT := gT_mem (i := 945) (by decide +kernel) (by decide +kernel)
theorem ml_X5_247 : Cond.methodLink RX5 247 yX0_wearOf ∈ gT := gT_mem (i := 947) (by decide +kernel) (by decide +kernel)
theorem im_yX0_wearOf : Cond.instanceMethod yX0_wearOf ∈ gT := gT_mem (i := 948) (by decide +kernel) (by decide +kernel)
theorem se_yX0_wearOf : Cond.selects RX0 yX0_wearOf yX0_wearOf ∈ gT := gT_mem (i := 949) (by decide +kernel) (by decide +kernel)
theorem cd_yX0_wearOf : Cond.code yX0_wearOf cX0_wearOf 2 (some FieldType.int) ∈ gT := gT_mem (i := 950) (by decide +kernel) (by decide +kernel)
theorem ml_X0_30 : Cond.methodLink RX0 30 yX2_get ∈ gT := gT_mem (i := 951) (by decide +kernel) (by decide +kernel)
theorem ml_L_104 : Cond.methodLink RL 104 yL_emboss ∈ gT := gT_mem (i := 952) (by decide +kernel) (by decide +kernel)
theorem st_yL_emboss : Cond.static yL_emboss ∈ gT := gT_mem (i := 953) (by decide +kernel) (by decide +kernel)
theorem cw_yL_emboss : Cond.codeWith yL_emboss cL_emboss 3 (some FieldType.int) [(0, 5, 6, 39)] ∈ gT := gT_mem (i := 954) (by decide +kernel) (by decide +kernel)
theorem ml_L_50 : Cond.methodLink RL 50 yX5_emboss ∈ gT := gT_mem (i := 955) (by decide +kernel) (by decide +kernel)
theorem im_yX5_emboss : Cond.instanceMethod yX5_emboss ∈ gT := gT_mem (i := 956) (by decide +kernel) (by decide +kernel)
theorem se_yX5_emboss : Cond.selects RX5 yX5_emboss yX5_emboss ∈ gT := gT_mem (i := 957) (by decide +kernel) (by decide +kernel)
theorem cd_yX5_emboss : Cond.code yX5_emboss cX5_emboss 8 (some FieldType.int) ∈ gT := gT_mem (i := 958) (by decide +kernel) (by decide +kernel)
theorem ml_X5_213 : Cond.methodLink RX5 213 yX0_forgetPlan ∈ gT := gT_mem (i := 959) (by decide +kernel) (by decide +kernel)
theorem im_yX0_forgetPlan : Cond.instanceMethod yX0_forgetPlan ∈ gT := gT_mem (i := 960) (by decide +kernel) (by decide +kernel)
theorem se_yX0_forgetPlan : Cond.selects RX0 yX0_forgetPlan yX0_forgetPlan ∈ gT := gT_mem (i := 961) (by decide +kernel) (by decide +kernel)
theorem cd_yX0_forgetPlan : Cond.code yX0_forgetPlan cX0_forgetPlan 2 none ∈ gT := gT_mem (i := 962) (by decide +kernel) (by decide +kernel)
theorem ml_X0_37 : Cond.methodLink RX0 37 yX2_set ∈ gT := gT_mem (i := 963) (by decide +kernel) (by decide +kernel)
theorem ml_X5_216 : Cond.methodLink RX5 216 yX4_isOther ∈ gT := gT_mem (i := 964) (by decide +kernel) (by decide +kernel)
theorem im_yX4_isOther : Cond.instanceMethod yX4_isOther ∈ gT := gT_mem (i := 965) (by decide +kernel) (by decide +kernel)
theorem se_yX4_isOther : Cond.selects RX4 yX4_isOther yX4_isOther ∈ gT := gT_mem (i := 966) (by decide +kernel) (by decide +kernel)
theorem cd_yX4_isOther : Cond.code yX4_isOther cX4_isOther 2 (some FieldType.boolean) ∈ gT := gT_mem (i := 967) (by decide +kernel) (by decide +kernel)
theorem ml_X5_219 : Cond.methodLink RX5 219 yX5_planLine ∈ gT := gT_mem (i := 968) (by decide +kernel) (by decide +kernel)
theorem im_yX5_planLine : Cond.instanceMethod yX5_planLine ∈ gT := gT_mem (i := 970) (by decide +kernel) (by decide +kernel)
theorem cd_yX5_planLine : Cond.code yX5_planLine cX5_planLine 4 none ∈ gT := gT_mem (i := 971) (by decide +kernel) (by decide +kernel)
theorem ml_X5_293 : Cond.methodLink RX5 293 yX0_planCell ∈ gT := gT_mem (i := 972) (by decide +kernel) (by decide +kernel)
theorem im_yX0_planCell : Cond.instanceMethod yX0_planCell ∈ gT := gT_mem (i := 973) (by decide +kernel) (by decide +kernel)
theorem se_yX0_planCell : Cond.selects RX0 yX0_planCell yX0_planCell ∈ gT := gT_mem (i := 974) (by decide +kernel) (by decide +kernel)
theorem cd_yX0_planCell : Cond.code yX0_planCell cX0_planCell 3 none ∈ gT := gT_mem (i := 975) (by decide +kernel) (by decide +kernel)
theorem ml_X5_223 : Cond.methodLink RX5 223 yX0_bearsPlan ∈ gT := gT_mem (i := 976) (by decide +kernel) (by decide +kernel)
theorem im_yX0_bearsPlan : Cond.instanceMethod yX0_bearsPlan ∈ gT := gT_mem (i := 977) (by decide +kernel) (by decide +kernel)
theorem se_yX0_bearsPlan : Cond.selects RX0 yX0_bearsPlan yX0_bearsPlan ∈ gT := gT_mem (i := 978) (by decide +kernel) (by decide +kernel)
theorem cd_yX0_bearsPlan : Cond.code yX0_bearsPlan cX0_bearsPlan 2 (some FieldType.boolean) ∈ gT := gT_mem (i := 979) (by decide +kernel) (by decide +kernel)
theorem ml_X5_228 : Cond.methodLink RX5 228 yX0_strikePlan ∈ gT := gT_mem (i := 981) (by decide +kernel) (by decide +kernel)
theorem im_yX0_strikePlan : Cond.instanceMethod yX0_strikePlan ∈ gT := gT_mem (i := 982) (by decide +kernel) (by decide +kernel)
theorem se_yX0_strikePlan : Cond.selects RX0 yX0_strikePlan yX0_strikePlan ∈ gT := gT_mem (i := 983) (by decide +kernel) (by decide +kernel)
theorem cd_yX0_strikePlan : Cond.code yX0_strikePlan cX0_strikePlan 2 none ∈ gT := gT_mem (i := 984) (by decide +kernel) (by decide +kernel)
theorem ml_X5_231 : Cond.methodLink RX5 231 yX4_keepAsEmbossed ∈ gT := gT_mem (i := 985) (by decide +kernel) (by decide +kernel)
theorem im_yX4_keepAsEmbossed : Cond.instanceMethod yX4_keepAsEmbossed ∈ gT := gT_mem (i := 986) (by decide +kernel) (by decide +kernel)
theorem se_yX4_keepAsEmbossed : Cond.selects RX4 yX4_keepAsEmbossed yX4_keepAsEmbossed ∈ gT := gT_mem (i := 987) (by decide +kernel) (by decide +kernel)
theorem cd_yX4_keepAsEmbossed : Cond.code yX4_keepAsEmbossed cX4_keepAsEmbossed 1 none ∈ gT := gT_mem (i := 988) (by decide +kernel) (by decide +kernel)
theorem ml_L_107 : Cond.methodLink RL 107 yX5_changed ∈ gT := gT_mem (i := 989) (by decide +kernel) (by decide +kernel)
theorem im_yX5_changed : Cond.instanceMethod yX5_changed ∈ gT := gT_mem (i := 990) (by decide +kernel) (by decide +kernel)
theorem se_yX5_changed : Cond.selects RX5 yX5_changed yX5_changed ∈ gT := gT_mem (i := 991) (by decide +kernel) (by decide +kernel)
theorem cd_yX5_changed : Cond.code yX5_changed cX5_changed 2 (some FieldType.int) ∈ gT := gT_mem (i := 992) (by decide +kernel) (by decide +kernel)
theorem ml_X5_234 : Cond.methodLink RX5 234 yX4_otherLineCount ∈ gT := gT_mem (i := 993) (by decide +kernel) (by decide +kernel)
theorem im_yX4_otherLineCount : Cond.instanceMethod yX4_otherLineCount ∈ gT := gT_mem (i := 994) (by decide +kernel) (by decide +kernel)
theorem se_yX4_otherLineCount : Cond.selects RX4 yX4_otherLineCount yX4_otherLineCount ∈ gT := gT_mem (i := 995) (by decide +kernel) (by decide +kernel)
theorem cd_yX4_otherLineCount : Cond.code yX4_otherLineCount cX4_otherLineCount 3 (some FieldType.int) ∈ gT := gT_mem (i := 996) (by decide +kernel) (by decide +kernel)
theorem ml_X4_104 : Cond.methodLink RX4 104 yJ9_max_7cf53 ∈ gT := gT_mem (i := 997) (by decide +kernel) (by decide +kernel)
theorem ml_X4_109 : Cond.methodLink RX4 109 yX4_isOther ∈ gT := gT_mem (i := 998) (by decide +kernel) (by decide +kernel)
theorem ml_L_139 : Cond.methodLink RL 139 yX5_replace ∈ gT := gT_mem (i := 999) (by decide +kernel) (by decide +kernel)
theorem im_yX5_replace : Cond.instanceMethod yX5_replace ∈ gT := gT_mem (i := 1000) (by decide +kernel) (by decide +kernel)
theorem se_yX5_replace : Cond.selects RX5 yX5_replace yX5_replace ∈ gT := gT_mem (i := 1001) (by decide +kernel) (by decide +kernel)
theorem cd_yX5_replace : Cond.code yX5_replace cX5_replace 2 (some FieldType.int) ∈ gT := gT_mem (i := 1002) (by decide +kernel) (by decide +kernel)
theorem ml_X5_244 : Cond.methodLink RX5 244 yX0_renewPin ∈ gT := gT_mem (i := 1003) (by decide +kernel) (by decide +kernel)
theorem im_yX0_renewPin : Cond.instanceMethod yX0_renewPin ∈ gT := gT_mem (i := 1004) (by decide +kernel) (by decide +kernel)
theorem se_yX0_renewPin : Cond.selects RX0 yX0_renewPin yX0_renewPin ∈ gT := gT_mem (i := 1005) (by decide +kernel) (by decide +kernel)
theorem cd_yX0_renewPin : Cond.code yX0_renewPin cX0_renewPin 3 (some FieldType.int) ∈ gT := gT_mem (i := 1006) (by decide +kernel) (by decide +kernel)
theorem ml_X0_34 : Cond.methodLink RX0 34 yX0_wearOf ∈ gT := gT_mem (i := 1007) (by decide +kernel) (by decide +kernel)
theorem ml_L_146 : Cond.methodLink RL 146 yX5_mark ∈ gT := gT_mem (i := 1008) (by decide +kernel) (by decide +kernel)
theorem im_yX5_mark : Cond.instanceMethod yX5_mark ∈ gT := gT_mem (i := 1009) (by decide +kernel) (by decide +kernel)
theorem se_yX5_mark : Cond.selects RX5 yX5_mark yX5_mark ∈ gT := gT_mem (i := 1010) (by decide +kernel) (by decide +kernel)
theorem cd_yX5_mark : Cond.code yX5_mark cX5_mark 7 (some FieldType.boolean) ∈ gT := gT_mem (i := 1011) (by decide +kernel) (by decide +kernel)
theorem ml_X5_255 : Cond.methodLink RX5 255 yX4_putMark ∈ gT := gT_mem (i := 1012) (by decide +kernel) (by decide +kernel)
theorem cl_L_151 : Cond.classLink RL 151 "[[Ljava/lang/String;" ∈ gT := gT_mem (i := 1013) (by decide +kernel) (by decide +kernel)
theorem ao_SA : Cond.arrayOver (.array (.object RJ0)) ∈ jTbl := List.mem_of_getElem? (i := 1014) (by decide +kernel)
theorem ao_S : Cond.arrayOver (.object RJ0) ∈ jTbl := List.mem_of_getElem? (i := 1015) (by decide +kernel)
theorem cl_L_24 : Cond.classLink RL 24 RJ0 ∈ gT := gT_mem (i := 1016) (by decide +kernel) (by decide +kernel)
theorem ac_char : Cond.arrayClass .char ∈ gT := gT_mem (i := 1017) (by decide +kernel) (by decide +kernel)
theorem sm_J5_yJ5_append_cf1ce : Cond.sameMethod RJ5 RJ5 "append" "(Ljava/lang/String;)Ljava/lang/AbstractStringBuilder;" ∈ gT := gT_mem (i := 1019) (by decide +kernel) (by decide +kernel)
theorem sm_J5_yJ5_appendNull_278bc : Cond.sameMethod RJ5 RJ5 "appendNull" "()Ljava/lang/AbstractStringBuilder;" ∈ gT := gT_mem (i := 1020) (by decide +kernel) (by decide +kernel)
theorem sm_J5_yJ5_ensureCapacityInternal_d00df : Cond.sameMethod RJ5 RJ5 "ensureCapacityInternal" "(I)V" ∈ gT := gT_mem (i := 1021) (by decide +kernel) (by decide +kernel)
theorem sm_J5_yJ5_newCapacity_0f7a4 : Cond.sameMethod RJ5 RJ5 "newCapacity" "(I)I" ∈ gT := gT_mem (i := 1022) (by decide +kernel) (by decide +kernel)
theorem sm_J5_yJ5_putStringAt_47b60 : Cond.sameMethod RJ5 RJ5 "putStringAt" "(ILjava/lang/String;)V" ∈ gT := gT_mem (i := 1023) (by decide +kernel) (by decide +kernel)
theorem sm_J5_yJ5_inflateIfNeededFor_a7421 : Cond.sameMethod RJ5 RJ5 "inflateIfNeededFor" "(Ljava/lang/String;)V" ∈ gT := gT_mem (i := 1024) (by decide +kernel) (by decide +kernel)
theorem sm_J5_yJ5_inflate_da8c8 : Cond.sameMethod RJ5 RJ5 "inflate" "()V" ∈ gT := gT_mem (i := 1025) (by decide +kernel) (by decide +kernel)
theorem sm_J5_yJ5_append_3fe6f : Cond.sameMethod RJ5 RJ5 "append" "(C)Ljava/lang/AbstractStringBuilder;" ∈ gT := gT_mem (i := 1026) (by decide +kernel) (by decide +kernel)
theorem se_yX3_addCells : Cond.selects RX3 yX3_addCells yX3_addCells ∈ gT := gT_mem (i := 5) (by decide +kernel) (by decide +kernel)
theorem se_yX4_beginWord : Cond.selects RX4 yX4_beginWord yX4_beginWord ∈ gT := gT_mem (i := 7) (by decide +kernel) (by decide +kernel)
theorem se_yX4_unmark : Cond.selects RX4 yX4_unmark yX4_unmark ∈ gT := gT_mem (i := 6) (by decide +kernel) (by decide +kernel)
theorem se_yX5_typedKey : Cond.selects RX5 yX5_typedKey yX5_typedKey ∈ gT := gT_mem (i := 10) (by decide +kernel) (by decide +kernel)
theorem se_yX5_textNumbered : Cond.selects RX5 yX5_textNumbered yX5_textNumbered ∈ gT := gT_mem (i := 8) (by decide +kernel) (by decide +kernel)
theorem se_yX5_textWithWord : Cond.selects RX5 yX5_textWithWord yX5_textWithWord ∈ gT := gT_mem (i := 9) (by decide +kernel) (by decide +kernel)
theorem se_yX5_translateTexts : Cond.selects RX5 yX5_translateTexts yX5_translateTexts ∈ gT := gT_mem (i := 11) (by decide +kernel) (by decide +kernel)
theorem se_yX5_planLine : Cond.selects RX5 yX5_planLine yX5_planLine ∈ gT := gT_mem (i := 12) (by decide +kernel) (by decide +kernel)
theorem se_J4_yJ5_ensureCapacityInternal_d00df : Cond.selects RJ4 yJ5_ensureCapacityInternal_d00df yJ5_ensureCapacityInternal_d00df ∈ gT := gT_mem (i := 0) (by decide +kernel) (by decide +kernel)
theorem se_J4_yJ5_newCapacity_0f7a4 : Cond.selects RJ4 yJ5_newCapacity_0f7a4 yJ5_newCapacity_0f7a4 ∈ gT := gT_mem (i := 1) (by decide +kernel) (by decide +kernel)
theorem se_J4_yJ5_putStringAt_47b60 : Cond.selects RJ4 yJ5_putStringAt_47b60 yJ5_putStringAt_47b60 ∈ gT := gT_mem (i := 2) (by decide +kernel) (by decide +kernel)
theorem se_J4_yJ5_inflateIfNeededFor_a7421 : Cond.selects RJ4 yJ5_inflateIfNeededFor_a7421 yJ5_inflateIfNeededFor_a7421 ∈ gT := gT_mem (i := 3) (by decide +kernel) (by decide +kernel)
theorem lay_X0 : ∀ w ∈ wsX00, w ∈ gT := by decide +kernel
theorem lay_X1 : ∀ w ∈ wsX10, w ∈ gT := by decide +kernel
theorem lay_X2 : ∀ w ∈ wsX20, w ∈ gT := by decide +kernel
theorem lay_X3 : ∀ w ∈ wsX30, w ∈ gT := by decide +kernel
theorem lay_X4 : ∀ w ∈ wsX40, w ∈ gT := by decide +kernel
theorem lay_X5 : ∀ w ∈ wsX50, w ∈ gT := by decide +kernel
theorem lay_J0 : ∀ w ∈ wsJ00, w ∈ gT := by decide +kernel
theorem lay_J4 : ∀ w ∈ wsJ40, w ∈ gT := by decide +kernel
end
section
theorem dX0_init_0 : decode cX0_init 0 = .ok (.aload_n 0, 1) := by decide +kernel
theorem dX0_init_1 : decode cX0_init 1 = .ok (.invokespecial 3, 3) := by decide +kernel
theorem dX0_init_4 : decode cX0_init 4 = .ok (.aload_n 0, 1) := by decide +kernel
theorem dX0_init_5 : decode cX0_init 5 = .ok (.new 9, 3) := by decide +kernel
theorem dX0_init_8 : decode cX0_init 8 = .ok (.dup, 1) := by decide +kernel
theorem dX0_init_9 : decode cX0_init 9 = .ok (.bipush 6, 2) := by decide +kernel
theorem dX0_init_11 : decode cX0_init 11 = .ok (.invokespecial 11, 3) := by decide +kernel
theorem dX0_init_14 : decode cX0_init 14 = .ok (.putfield 14, 3) := by decide +kernel
theorem dX0_init_17 : decode cX0_init 17 = .ok (.aload_n 0, 1) := by decide +kernel
theorem dX0_init_18 : decode cX0_init 18 = .ok (.new 9, 3) := by decide +kernel
theorem dX0_init_21 : decode cX0_init 21 = .ok (.dup, 1) := by decide +kernel
theorem dX0_init_22 : decode cX0_init 22 = .ok (.bipush 6, 2) := by decide +kernel
theorem dX0_init_24 : decode cX0_init 24 = .ok (.invokespecial 11, 3) := by decide +kernel
theorem dX0_init_27 : decode cX0_init 27 = .ok (.putfield 20, 3) := by decide +kernel
theorem dX0_init_30 : decode cX0_init 30 = .ok (.aload_n 0, 1) := by decide +kernel
theorem dX0_init_31 : decode cX0_init 31 = .ok (.sipush 5000, 3) := by decide +kernel
theorem dX0_init_34 : decode cX0_init 34 = .ok (.putfield 23, 3) := by decide +kernel
theorem dX0_init_37 : decode cX0_init 37 = .ok (.iconst 0, 1) := by decide +kernel
theorem dX0_init_38 : decode cX0_init 38 = .ok (.istore_n 1, 1) := by decide +kernel
theorem dX0_init_39 : decode cX0_init 39 = .ok (.iload_n 1, 1) := by decide +kernel
theorem dX0_init_40 : decode cX0_init 40 = .ok (.bipush 6, 2) := by decide +kernel
theorem dX0_init_42 : decode cX0_init 42 = .ok (.if_icmp .ge 25, 3) := by decide +kernel
theorem dX0_init_45 : decode cX0_init 45 = .ok (.aload_n 0, 1) := by decide +kernel
theorem dX0_init_46 : decode cX0_init 46 = .ok (.getfield 14, 3) := by decide +kernel
theorem dX0_init_49 : decode cX0_init 49 = .ok (.iconst 0, 1) := by decide +kernel
theorem dX0_init_50 : decode cX0_init 50 = .ok (.invokevirtual 27, 3) := by decide +kernel
theorem dX0_init_53 : decode cX0_init 53 = .ok (.aload_n 0, 1) := by decide +kernel
theorem dX0_init_54 : decode cX0_init 54 = .ok (.getfield 20, 3) := by decide +kernel
theorem dX0_init_57 : decode cX0_init 57 = .ok (.iconst 0, 1) := by decide +kernel
theorem dX0_init_58 : decode cX0_init 58 = .ok (.invokevirtual 27, 3) := by decide +kernel
theorem dX0_init_61 : decode cX0_init 61 = .ok (.iinc 1 1, 3) := by decide +kernel
theorem dX0_init_64 : decode cX0_init 64 = .ok (.goto (-25), 3) := by decide +kernel
theorem dX0_init_67 : decode cX0_init 67 = .ok (.return_, 1) := by decide +kernel
theorem dX0_changeBearing_0 : decode cX0_changeBearing 0 = .ok (.aload_n 0, 1) := by decide +kernel
theorem dX0_changeBearing_1 : decode cX0_changeBearing 1 = .ok (.getfield 23, 3) := by decide +kernel
theorem dX0_changeBearing_4 : decode cX0_changeBearing 4 = .ok (.istore_n 2, 1) := by decide +kernel
theorem dX0_changeBearing_5 : decode cX0_changeBearing 5 = .ok (.aload_n 0, 1) := by decide +kernel
theorem dX0_changeBearing_6 : decode cX0_changeBearing 6 = .ok (.iload_n 1, 1) := by decide +kernel
theorem dX0_changeBearing_7 : decode cX0_changeBearing 7 = .ok (.putfield 23, 3) := by decide +kernel
theorem dX0_changeBearing_10 : decode cX0_changeBearing 10 = .ok (.iload_n 2, 1) := by decide +kernel
theorem dX0_changeBearing_11 : decode cX0_changeBearing 11 = .ok (.ireturn, 1) := by decide +kernel
theorem dX0_wearOf_0 : decode cX0_wearOf 0 = .ok (.aload_n 0, 1) := by decide +kernel
theorem dX0_wearOf_1 : decode cX0_wearOf 1 = .ok (.getfield 14, 3) := by decide +kernel
theorem dX0_wearOf_4 : decode cX0_wearOf 4 = .ok (.iload_n 1, 1) := by decide +kernel
theorem dX0_wearOf_5 : decode cX0_wearOf 5 = .ok (.iconst 1, 1) := by decide +kernel
theorem dX0_wearOf_6 : decode cX0_wearOf 6 = .ok (.isub, 1) := by decide +kernel
theorem dX0_wearOf_7 : decode cX0_wearOf 7 = .ok (.invokevirtual 30, 3) := by decide +kernel
theorem dX0_wearOf_10 : decode cX0_wearOf 10 = .ok (.ireturn, 1) := by decide +kernel
theorem dX0_renewPin_0 : decode cX0_renewPin 0 = .ok (.aload_n 0, 1) := by decide +kernel
theorem dX0_renewPin_1 : decode cX0_renewPin 1 = .ok (.iload_n 1, 1) := by decide +kernel
theorem dX0_renewPin_2 : decode cX0_renewPin 2 = .ok (.invokevirtual 34, 3) := by decide +kernel
theorem dX0_renewPin_5 : decode cX0_renewPin 5 = .ok (.istore_n 2, 1) := by decide +kernel
theorem dX0_renewPin_6 : decode cX0_renewPin 6 = .ok (.aload_n 0, 1) := by decide +kernel
theorem dX0_renewPin_7 : decode cX0_renewPin 7 = .ok (.getfield 14, 3) := by decide +kernel
theorem dX0_renewPin_10 : decode cX0_renewPin 10 = .ok (.iload_n 1, 1) := by decide +kernel
theorem dX0_renewPin_11 : decode cX0_renewPin 11 = .ok (.iconst 1, 1) := by decide +kernel
theorem dX0_renewPin_12 : decode cX0_renewPin 12 = .ok (.isub, 1) := by decide +kernel
theorem dX0_renewPin_13 : decode cX0_renewPin 13 = .ok (.iconst 0, 1) := by decide +kernel
theorem dX0_renewPin_14 : decode cX0_renewPin 14 = .ok (.invokevirtual 37, 3) := by decide +kernel
theorem dX0_renewPin_17 : decode cX0_renewPin 17 = .ok (.iload_n 2, 1) := by decide +kernel
theorem dX0_renewPin_18 : decode cX0_renewPin 18 = .ok (.ireturn, 1) := by decide +kernel
theorem dX0_forgetPlan_0 : decode cX0_forgetPlan 0 = .ok (.iconst 0, 1) := by decide +kernel
theorem dX0_forgetPlan_1 : decode cX0_forgetPlan 1 = .ok (.istore_n 1, 1) := by decide +kernel
theorem dX0_forgetPlan_2 : decode cX0_forgetPlan 2 = .ok (.iload_n 1, 1) := by decide +kernel
theorem dX0_forgetPlan_3 : decode cX0_forgetPlan 3 = .ok (.bipush 6, 2) := by decide +kernel
theorem dX0_forgetPlan_5 : decode cX0_forgetPlan 5 = .ok (.if_icmp .ge 18, 3) := by decide +kernel
theorem dX0_forgetPlan_8 : decode cX0_forgetPlan 8 = .ok (.aload_n 0, 1) := by decide +kernel
theorem dX0_forgetPlan_9 : decode cX0_forgetPlan 9 = .ok (.getfield 20, 3) := by decide +kernel
theorem dX0_forgetPlan_12 : decode cX0_forgetPlan 12 = .ok (.iload_n 1, 1) := by decide +kernel
theorem dX0_forgetPlan_13 : decode cX0_forgetPlan 13 = .ok (.iconst 0, 1) := by decide +kernel
theorem dX0_forgetPlan_14 : decode cX0_forgetPlan 14 = .ok (.invokevirtual 37, 3) := by decide +kernel
theorem dX0_forgetPlan_17 : decode cX0_forgetPlan 17 = .ok (.iinc 1 1, 3) := by decide +kernel
theorem dX0_forgetPlan_20 : decode cX0_forgetPlan 20 = .ok (.goto (-18), 3) := by decide +kernel
theorem dX0_forgetPlan_23 : decode cX0_forgetPlan 23 = .ok (.return_, 1) := by decide +kernel
theorem dX0_planCell_0 : decode cX0_planCell 0 = .ok (.iconst 0, 1) := by decide +kernel
theorem dX0_planCell_1 : decode cX0_planCell 1 = .ok (.istore_n 2, 1) := by decide +kernel
theorem dX0_planCell_2 : decode cX0_planCell 2 = .ok (.iload_n 2, 1) := by decide +kernel
theorem dX0_planCell_3 : decode cX0_planCell 3 = .ok (.bipush 6, 2) := by decide +kernel
theorem dX0_planCell_5 : decode cX0_planCell 5 = .ok (.if_icmp .ge 31, 3) := by decide +kernel
theorem dX0_planCell_8 : decode cX0_planCell 8 = .ok (.aload_n 0, 1) := by decide +kernel
theorem dX0_planCell_9 : decode cX0_planCell 9 = .ok (.getfield 20, 3) := by decide +kernel
theorem dX0_planCell_12 : decode cX0_planCell 12 = .ok (.iload_n 2, 1) := by decide +kernel
theorem dX0_planCell_13 : decode cX0_planCell 13 = .ok (.aload_n 0, 1) := by decide +kernel
theorem dX0_planCell_14 : decode cX0_planCell 14 = .ok (.getfield 20, 3) := by decide +kernel
theorem dX0_planCell_17 : decode cX0_planCell 17 = .ok (.iload_n 2, 1) := by decide +kernel
theorem dX0_planCell_18 : decode cX0_planCell 18 = .ok (.invokevirtual 30, 3) := by decide +kernel
theorem dX0_planCell_21 : decode cX0_planCell 21 = .ok (.iload_n 1, 1) := by decide +kernel
theorem dX0_planCell_22 : decode cX0_planCell 22 = .ok (.iload_n 2, 1) := by decide +kernel
theorem dX0_planCell_23 : decode cX0_planCell 23 = .ok (.ishr, 1) := by decide +kernel
theorem dX0_planCell_24 : decode cX0_planCell 24 = .ok (.iconst 1, 1) := by decide +kernel
theorem dX0_planCell_25 : decode cX0_planCell 25 = .ok (.iand, 1) := by decide +kernel
theorem dX0_planCell_26 : decode cX0_planCell 26 = .ok (.iadd, 1) := by decide +kernel
theorem dX0_planCell_27 : decode cX0_planCell 27 = .ok (.invokevirtual 37, 3) := by decide +kernel
theorem dX0_planCell_30 : decode cX0_planCell 30 = .ok (.iinc 2 1, 3) := by decide +kernel
theorem dX0_planCell_33 : decode cX0_planCell 33 = .ok (.goto (-31), 3) := by decide +kernel
theorem dX0_planCell_36 : decode cX0_planCell 36 = .ok (.return_, 1) := by decide +kernel
theorem dX0_bearsPlan_0 : decode cX0_bearsPlan 0 = .ok (.iconst 0, 1) := by decide +kernel
theorem dX0_bearsPlan_1 : decode cX0_bearsPlan 1 = .ok (.istore_n 1, 1) := by decide +kernel
theorem dX0_bearsPlan_2 : decode cX0_bearsPlan 2 = .ok (.iload_n 1, 1) := by decide +kernel
theorem dX0_bearsPlan_3 : decode cX0_bearsPlan 3 = .ok (.bipush 6, 2) := by decide +kernel
theorem dX0_bearsPlan_5 : decode cX0_bearsPlan 5 = .ok (.if_icmp .ge 46, 3) := by decide +kernel
theorem dX0_bearsPlan_8 : decode cX0_bearsPlan 8 = .ok (.aload_n 0, 1) := by decide +kernel
theorem dX0_bearsPlan_9 : decode cX0_bearsPlan 9 = .ok (.getfield 20, 3) := by decide +kernel
theorem dX0_bearsPlan_12 : decode cX0_bearsPlan 12 = .ok (.iload_n 1, 1) := by decide +kernel
theorem dX0_bearsPlan_13 : decode cX0_bearsPlan 13 = .ok (.invokevirtual 30, 3) := by decide +kernel
theorem dX0_bearsPlan_16 : decode cX0_bearsPlan 16 = .ok (.ifCond .le 29, 3) := by decide +kernel
theorem dX0_bearsPlan_19 : decode cX0_bearsPlan 19 = .ok (.aload_n 0, 1) := by decide +kernel
theorem dX0_bearsPlan_20 : decode cX0_bearsPlan 20 = .ok (.getfield 14, 3) := by decide +kernel
theorem dX0_bearsPlan_23 : decode cX0_bearsPlan 23 = .ok (.iload_n 1, 1) := by decide +kernel
theorem dX0_bearsPlan_24 : decode cX0_bearsPlan 24 = .ok (.invokevirtual 30, 3) := by decide +kernel
theorem dX0_bearsPlan_27 : decode cX0_bearsPlan 27 = .ok (.aload_n 0, 1) := by decide +kernel
theorem dX0_bearsPlan_28 : decode cX0_bearsPlan 28 = .ok (.getfield 20, 3) := by decide +kernel
theorem dX0_bearsPlan_31 : decode cX0_bearsPlan 31 = .ok (.iload_n 1, 1) := by decide +kernel
theorem dX0_bearsPlan_32 : decode cX0_bearsPlan 32 = .ok (.invokevirtual 30, 3) := by decide +kernel
theorem dX0_bearsPlan_35 : decode cX0_bearsPlan 35 = .ok (.iadd, 1) := by decide +kernel
theorem dX0_bearsPlan_36 : decode cX0_bearsPlan 36 = .ok (.aload_n 0, 1) := by decide +kernel
theorem dX0_bearsPlan_37 : decode cX0_bearsPlan 37 = .ok (.getfield 23, 3) := by decide +kernel
theorem dX0_bearsPlan_40 : decode cX0_bearsPlan 40 = .ok (.if_icmp .le 5, 3) := by decide +kernel
theorem dX0_bearsPlan_43 : decode cX0_bearsPlan 43 = .ok (.iconst 0, 1) := by decide +kernel
theorem dX0_bearsPlan_44 : decode cX0_bearsPlan 44 = .ok (.ireturn, 1) := by decide +kernel
theorem dX0_bearsPlan_45 : decode cX0_bearsPlan 45 = .ok (.iinc 1 1, 3) := by decide +kernel
theorem dX0_bearsPlan_48 : decode cX0_bearsPlan 48 = .ok (.goto (-46), 3) := by decide +kernel
theorem dX0_bearsPlan_51 : decode cX0_bearsPlan 51 = .ok (.iconst 1, 1) := by decide +kernel
theorem dX0_bearsPlan_52 : decode cX0_bearsPlan 52 = .ok (.ireturn, 1) := by decide +kernel
theorem dX0_strikePlan_0 : decode cX0_strikePlan 0 = .ok (.iconst 0, 1) := by decide +kernel
theorem dX0_strikePlan_1 : decode cX0_strikePlan 1 = .ok (.istore_n 1, 1) := by decide +kernel
theorem dX0_strikePlan_2 : decode cX0_strikePlan 2 = .ok (.iload_n 1, 1) := by decide +kernel
theorem dX0_strikePlan_3 : decode cX0_strikePlan 3 = .ok (.bipush 6, 2) := by decide +kernel
theorem dX0_strikePlan_5 : decode cX0_strikePlan 5 = .ok (.if_icmp .ge 34, 3) := by decide +kernel
theorem dX0_strikePlan_8 : decode cX0_strikePlan 8 = .ok (.aload_n 0, 1) := by decide +kernel
theorem dX0_strikePlan_9 : decode cX0_strikePlan 9 = .ok (.getfield 14, 3) := by decide +kernel
theorem dX0_strikePlan_12 : decode cX0_strikePlan 12 = .ok (.iload_n 1, 1) := by decide +kernel
theorem dX0_strikePlan_13 : decode cX0_strikePlan 13 = .ok (.aload_n 0, 1) := by decide +kernel
theorem dX0_strikePlan_14 : decode cX0_strikePlan 14 = .ok (.getfield 14, 3) := by decide +kernel
theorem dX0_strikePlan_17 : decode cX0_strikePlan 17 = .ok (.iload_n 1, 1) := by decide +kernel
theorem dX0_strikePlan_18 : decode cX0_strikePlan 18 = .ok (.invokevirtual 30, 3) := by decide +kernel
theorem dX0_strikePlan_21 : decode cX0_strikePlan 21 = .ok (.aload_n 0, 1) := by decide +kernel
theorem dX0_strikePlan_22 : decode cX0_strikePlan 22 = .ok (.getfield 20, 3) := by decide +kernel
theorem dX0_strikePlan_25 : decode cX0_strikePlan 25 = .ok (.iload_n 1, 1) := by decide +kernel
theorem dX0_strikePlan_26 : decode cX0_strikePlan 26 = .ok (.invokevirtual 30, 3) := by decide +kernel
theorem dX0_strikePlan_29 : decode cX0_strikePlan 29 = .ok (.iadd, 1) := by decide +kernel
theorem dX0_strikePlan_30 : decode cX0_strikePlan 30 = .ok (.invokevirtual 37, 3) := by decide +kernel
theorem dX0_strikePlan_33 : decode cX0_strikePlan 33 = .ok (.iinc 1 1, 3) := by decide +kernel
theorem dX0_strikePlan_36 : decode cX0_strikePlan 36 = .ok (.goto (-34), 3) := by decide +kernel
theorem dX0_strikePlan_39 : decode cX0_strikePlan 39 = .ok (.return_, 1) := by decide +kernel
theorem dX1_init_0 : decode cX1_init 0 = .ok (.aload_n 0, 1) := by decide +kernel
theorem dX1_init_1 : decode cX1_init 1 = .ok (.invokespecial 1, 3) := by decide +kernel
theorem dX1_init_4 : decode cX1_init 4 = .ok (.aload_n 0, 1) := by decide +kernel
theorem dX1_init_5 : decode cX1_init 5 = .ok (.new 7, 3) := by decide +kernel
theorem dX1_init_8 : decode cX1_init 8 = .ok (.dup, 1) := by decide +kernel
theorem dX1_init_9 : decode cX1_init 9 = .ok (.iload_n 2, 1) := by decide +kernel
theorem dX1_init_10 : decode cX1_init 10 = .ok (.invokespecial 9, 3) := by decide +kernel
theorem dX1_init_13 : decode cX1_init 13 = .ok (.putfield 12, 3) := by decide +kernel
theorem dX1_init_16 : decode cX1_init 16 = .ok (.aload_n 0, 1) := by decide +kernel
theorem dX1_init_17 : decode cX1_init 17 = .ok (.new 7, 3) := by decide +kernel
theorem dX1_init_20 : decode cX1_init 20 = .ok (.dup, 1) := by decide +kernel
theorem dX1_init_21 : decode cX1_init 21 = .ok (.iload_n 1, 1) := by decide +kernel
theorem dX1_init_22 : decode cX1_init 22 = .ok (.invokespecial 9, 3) := by decide +kernel
theorem dX1_init_25 : decode cX1_init 25 = .ok (.putfield 18, 3) := by decide +kernel
theorem dX1_init_28 : decode cX1_init 28 = .ok (.return_, 1) := by decide +kernel
theorem dX1_uncut_0 : decode cX1_uncut 0 = .ok (.aload_n 0, 1) := by decide +kernel
theorem dX1_uncut_1 : decode cX1_uncut 1 = .ok (.getfield 12, 3) := by decide +kernel
theorem dX1_uncut_4 : decode cX1_uncut 4 = .ok (.areturn, 1) := by decide +kernel
theorem dX1_count_0 : decode cX1_count 0 = .ok (.aload_n 0, 1) := by decide +kernel
theorem dX1_count_1 : decode cX1_count 1 = .ok (.getfield 18, 3) := by decide +kernel
theorem dX1_count_4 : decode cX1_count 4 = .ok (.invokevirtual 21, 3) := by decide +kernel
theorem dX1_count_7 : decode cX1_count 7 = .ok (.ireturn, 1) := by decide +kernel
theorem dX1_startOf_0 : decode cX1_startOf 0 = .ok (.iload_n 1, 1) := by decide +kernel
theorem dX1_startOf_1 : decode cX1_startOf 1 = .ok (.ifCond .ne 7, 3) := by decide +kernel
theorem dX1_startOf_4 : decode cX1_startOf 4 = .ok (.iconst 0, 1) := by decide +kernel
theorem dX1_startOf_5 : decode cX1_startOf 5 = .ok (.goto 13, 3) := by decide +kernel
theorem dX1_startOf_8 : decode cX1_startOf 8 = .ok (.aload_n 0, 1) := by decide +kernel
theorem dX1_startOf_9 : decode cX1_startOf 9 = .ok (.getfield 18, 3) := by decide +kernel
theorem dX1_startOf_12 : decode cX1_startOf 12 = .ok (.iload_n 1, 1) := by decide +kernel
theorem dX1_startOf_13 : decode cX1_startOf 13 = .ok (.iconst 1, 1) := by decide +kernel
theorem dX1_startOf_14 : decode cX1_startOf 14 = .ok (.isub, 1) := by decide +kernel
theorem dX1_startOf_15 : decode cX1_startOf 15 = .ok (.invokevirtual 25, 3) := by decide +kernel
theorem dX1_startOf_18 : decode cX1_startOf 18 = .ok (.ireturn, 1) := by decide +kernel
theorem dX1_endOf_0 : decode cX1_endOf 0 = .ok (.aload_n 0, 1) := by decide +kernel
theorem dX1_endOf_1 : decode cX1_endOf 1 = .ok (.getfield 18, 3) := by decide +kernel
theorem dX1_endOf_4 : decode cX1_endOf 4 = .ok (.iload_n 1, 1) := by decide +kernel
theorem dX1_endOf_5 : decode cX1_endOf 5 = .ok (.invokevirtual 25, 3) := by decide +kernel
theorem dX1_endOf_8 : decode cX1_endOf 8 = .ok (.ireturn, 1) := by decide +kernel
theorem dX1_sizeOf_0 : decode cX1_sizeOf 0 = .ok (.aload_n 0, 1) := by decide +kernel
theorem dX1_sizeOf_1 : decode cX1_sizeOf 1 = .ok (.iload_n 1, 1) := by decide +kernel
theorem dX1_sizeOf_2 : decode cX1_sizeOf 2 = .ok (.invokevirtual 29, 3) := by decide +kernel
theorem dX1_sizeOf_5 : decode cX1_sizeOf 5 = .ok (.aload_n 0, 1) := by decide +kernel
theorem dX1_sizeOf_6 : decode cX1_sizeOf 6 = .ok (.iload_n 1, 1) := by decide +kernel
theorem dX1_sizeOf_7 : decode cX1_sizeOf 7 = .ok (.invokevirtual 32, 3) := by decide +kernel
theorem dX1_sizeOf_10 : decode cX1_sizeOf 10 = .ok (.isub, 1) := by decide +kernel
theorem dX1_sizeOf_11 : decode cX1_sizeOf 11 = .ok (.ireturn, 1) := by decide +kernel
theorem dX1_get_0 : decode cX1_get 0 = .ok (.aload_n 0, 1) := by decide +kernel
theorem dX1_get_1 : decode cX1_get 1 = .ok (.getfield 12, 3) := by decide +kernel
theorem dX1_get_4 : decode cX1_get 4 = .ok (.aload_n 0, 1) := by decide +kernel
theorem dX1_get_5 : decode cX1_get 5 = .ok (.iload_n 1, 1) := by decide +kernel
theorem dX1_get_6 : decode cX1_get 6 = .ok (.invokevirtual 32, 3) := by decide +kernel
theorem dX1_get_9 : decode cX1_get 9 = .ok (.iload_n 2, 1) := by decide +kernel
theorem dX1_get_10 : decode cX1_get 10 = .ok (.iadd, 1) := by decide +kernel
theorem dX1_get_11 : decode cX1_get 11 = .ok (.invokevirtual 25, 3) := by decide +kernel
theorem dX1_get_14 : decode cX1_get 14 = .ok (.ireturn, 1) := by decide +kernel
theorem dX1_uncutSize_0 : decode cX1_uncutSize 0 = .ok (.aload_n 0, 1) := by decide +kernel
theorem dX1_uncutSize_1 : decode cX1_uncutSize 1 = .ok (.getfield 12, 3) := by decide +kernel
theorem dX1_uncutSize_4 : decode cX1_uncutSize 4 = .ok (.invokevirtual 21, 3) := by decide +kernel
theorem dX1_uncutSize_7 : decode cX1_uncutSize 7 = .ok (.aload_n 0, 1) := by decide +kernel
theorem dX1_uncutSize_8 : decode cX1_uncutSize 8 = .ok (.aload_n 0, 1) := by decide +kernel
theorem dX1_uncutSize_9 : decode cX1_uncutSize 9 = .ok (.invokevirtual 35, 3) := by decide +kernel
theorem dX1_uncutSize_12 : decode cX1_uncutSize 12 = .ok (.invokevirtual 32, 3) := by decide +kernel
theorem dX1_uncutSize_15 : decode cX1_uncutSize 15 = .ok (.isub, 1) := by decide +kernel
theorem dX1_uncutSize_16 : decode cX1_uncutSize 16 = .ok (.ireturn, 1) := by decide +kernel
theorem dX1_add_0 : decode cX1_add 0 = .ok (.aload_n 0, 1) := by decide +kernel
theorem dX1_add_1 : decode cX1_add 1 = .ok (.getfield 12, 3) := by decide +kernel
theorem dX1_add_4 : decode cX1_add 4 = .ok (.iload_n 1, 1) := by decide +kernel
theorem dX1_add_5 : decode cX1_add 5 = .ok (.invokevirtual 36, 3) := by decide +kernel
theorem dX1_add_8 : decode cX1_add 8 = .ok (.return_, 1) := by decide +kernel
theorem dX1_cut_0 : decode cX1_cut 0 = .ok (.aload_n 0, 1) := by decide +kernel
theorem dX1_cut_1 : decode cX1_cut 1 = .ok (.invokevirtual 39, 3) := by decide +kernel
theorem dX1_cut_4 : decode cX1_cut 4 = .ok (.ifCond .le 17, 3) := by decide +kernel
theorem dX1_cut_7 : decode cX1_cut 7 = .ok (.aload_n 0, 1) := by decide +kernel
theorem dX1_cut_8 : decode cX1_cut 8 = .ok (.getfield 18, 3) := by decide +kernel
theorem dX1_cut_11 : decode cX1_cut 11 = .ok (.aload_n 0, 1) := by decide +kernel
theorem dX1_cut_12 : decode cX1_cut 12 = .ok (.getfield 12, 3) := by decide +kernel
theorem dX1_cut_15 : decode cX1_cut 15 = .ok (.invokevirtual 21, 3) := by decide +kernel
theorem dX1_cut_18 : decode cX1_cut 18 = .ok (.invokevirtual 36, 3) := by decide +kernel
theorem dX1_cut_21 : decode cX1_cut 21 = .ok (.return_, 1) := by decide +kernel
theorem dX1_empty_0 : decode cX1_empty 0 = .ok (.aload_n 0, 1) := by decide +kernel
theorem dX1_empty_1 : decode cX1_empty 1 = .ok (.getfield 12, 3) := by decide +kernel
theorem dX1_empty_4 : decode cX1_empty 4 = .ok (.invokevirtual 42, 3) := by decide +kernel
theorem dX1_empty_7 : decode cX1_empty 7 = .ok (.aload_n 0, 1) := by decide +kernel
theorem dX1_empty_8 : decode cX1_empty 8 = .ok (.getfield 18, 3) := by decide +kernel
theorem dX1_empty_11 : decode cX1_empty 11 = .ok (.invokevirtual 42, 3) := by decide +kernel
theorem dX1_empty_14 : decode cX1_empty 14 = .ok (.return_, 1) := by decide +kernel
theorem dX1_drop_0 : decode cX1_drop 0 = .ok (.aload_n 0, 1) := by decide +kernel
theorem dX1_drop_1 : decode cX1_drop 1 = .ok (.iload_n 1, 1) := by decide +kernel
theorem dX1_drop_2 : decode cX1_drop 2 = .ok (.invokevirtual 32, 3) := by decide +kernel
theorem dX1_drop_5 : decode cX1_drop 5 = .ok (.istore_n 2, 1) := by decide +kernel
theorem dX1_drop_6 : decode cX1_drop 6 = .ok (.aload_n 0, 1) := by decide +kernel
theorem dX1_drop_7 : decode cX1_drop 7 = .ok (.iload_n 1, 1) := by decide +kernel
theorem dX1_drop_8 : decode cX1_drop 8 = .ok (.invokevirtual 45, 3) := by decide +kernel
theorem dX1_drop_11 : decode cX1_drop 11 = .ok (.istore_n 3, 1) := by decide +kernel
theorem dX1_drop_12 : decode cX1_drop 12 = .ok (.iconst 0, 1) := by decide +kernel
theorem dX1_drop_13 : decode cX1_drop 13 = .ok (.istore 4, 2) := by decide +kernel
theorem dX1_drop_15 : decode cX1_drop 15 = .ok (.iload 4, 2) := by decide +kernel
theorem dX1_drop_17 : decode cX1_drop 17 = .ok (.iload_n 3, 1) := by decide +kernel
theorem dX1_drop_18 : decode cX1_drop 18 = .ok (.if_icmp .ge 17, 3) := by decide +kernel
theorem dX1_drop_21 : decode cX1_drop 21 = .ok (.aload_n 0, 1) := by decide +kernel
theorem dX1_drop_22 : decode cX1_drop 22 = .ok (.getfield 12, 3) := by decide +kernel
theorem dX1_drop_25 : decode cX1_drop 25 = .ok (.iload_n 2, 1) := by decide +kernel
theorem dX1_drop_26 : decode cX1_drop 26 = .ok (.invokevirtual 48, 3) := by decide +kernel
theorem dX1_drop_29 : decode cX1_drop 29 = .ok (.iinc 4 1, 3) := by decide +kernel
theorem dX1_drop_32 : decode cX1_drop 32 = .ok (.goto (-17), 3) := by decide +kernel
theorem dX1_drop_35 : decode cX1_drop 35 = .ok (.aload_n 0, 1) := by decide +kernel
theorem dX1_drop_36 : decode cX1_drop 36 = .ok (.getfield 18, 3) := by decide +kernel
theorem dX1_drop_39 : decode cX1_drop 39 = .ok (.iload_n 1, 1) := by decide +kernel
theorem dX1_drop_40 : decode cX1_drop 40 = .ok (.invokevirtual 48, 3) := by decide +kernel
theorem dX1_drop_43 : decode cX1_drop 43 = .ok (.iload_n 1, 1) := by decide +kernel
theorem dX1_drop_44 : decode cX1_drop 44 = .ok (.istore 4, 2) := by decide +kernel
theorem dX1_drop_46 : decode cX1_drop 46 = .ok (.iload 4, 2) := by decide +kernel
theorem dX1_drop_48 : decode cX1_drop 48 = .ok (.aload_n 0, 1) := by decide +kernel
theorem dX1_drop_49 : decode cX1_drop 49 = .ok (.getfield 18, 3) := by decide +kernel
theorem dX1_drop_52 : decode cX1_drop 52 = .ok (.invokevirtual 21, 3) := by decide +kernel
theorem dX1_drop_55 : decode cX1_drop 55 = .ok (.if_icmp .ge 29, 3) := by decide +kernel
theorem dX1_drop_58 : decode cX1_drop 58 = .ok (.aload_n 0, 1) := by decide +kernel
theorem dX1_drop_59 : decode cX1_drop 59 = .ok (.getfield 18, 3) := by decide +kernel
theorem dX1_drop_62 : decode cX1_drop 62 = .ok (.iload 4, 2) := by decide +kernel
theorem dX1_drop_64 : decode cX1_drop 64 = .ok (.aload_n 0, 1) := by decide +kernel
theorem dX1_drop_65 : decode cX1_drop 65 = .ok (.getfield 18, 3) := by decide +kernel
theorem dX1_drop_68 : decode cX1_drop 68 = .ok (.iload 4, 2) := by decide +kernel
theorem dX1_drop_70 : decode cX1_drop 70 = .ok (.invokevirtual 25, 3) := by decide +kernel
theorem dX1_drop_73 : decode cX1_drop 73 = .ok (.iload_n 3, 1) := by decide +kernel
theorem dX1_drop_74 : decode cX1_drop 74 = .ok (.isub, 1) := by decide +kernel
theorem dX1_drop_75 : decode cX1_drop 75 = .ok (.invokevirtual 51, 3) := by decide +kernel
theorem dX1_drop_78 : decode cX1_drop 78 = .ok (.iinc 4 1, 3) := by decide +kernel
theorem dX1_drop_81 : decode cX1_drop 81 = .ok (.goto (-35), 3) := by decide +kernel
theorem dX1_drop_84 : decode cX1_drop 84 = .ok (.return_, 1) := by decide +kernel
theorem dX1_isSame_0 : decode cX1_isSame 0 = .ok (.aload_n 0, 1) := by decide +kernel
theorem dX1_isSame_1 : decode cX1_isSame 1 = .ok (.iload_n 1, 1) := by decide +kernel
theorem dX1_isSame_2 : decode cX1_isSame 2 = .ok (.invokevirtual 32, 3) := by decide +kernel
theorem dX1_isSame_5 : decode cX1_isSame 5 = .ok (.istore 5, 2) := by decide +kernel
theorem dX1_isSame_7 : decode cX1_isSame 7 = .ok (.aload_n 0, 1) := by decide +kernel
theorem dX1_isSame_8 : decode cX1_isSame 8 = .ok (.getfield 18, 3) := by decide +kernel
theorem dX1_isSame_11 : decode cX1_isSame 11 = .ok (.iload_n 1, 1) := by decide +kernel
theorem dX1_isSame_12 : decode cX1_isSame 12 = .ok (.invokevirtual 25, 3) := by decide +kernel
theorem dX1_isSame_15 : decode cX1_isSame 15 = .ok (.iload 5, 2) := by decide +kernel
theorem dX1_isSame_17 : decode cX1_isSame 17 = .ok (.isub, 1) := by decide +kernel
theorem dX1_isSame_18 : decode cX1_isSame 18 = .ok (.iload 4, 2) := by decide +kernel
theorem dX1_isSame_20 : decode cX1_isSame 20 = .ok (.iload_n 3, 1) := by decide +kernel
theorem dX1_isSame_21 : decode cX1_isSame 21 = .ok (.isub, 1) := by decide +kernel
theorem dX1_isSame_22 : decode cX1_isSame 22 = .ok (.if_icmp .eq 5, 3) := by decide +kernel
theorem dX1_isSame_25 : decode cX1_isSame 25 = .ok (.iconst 0, 1) := by decide +kernel
theorem dX1_isSame_26 : decode cX1_isSame 26 = .ok (.ireturn, 1) := by decide +kernel
theorem dX1_isSame_27 : decode cX1_isSame 27 = .ok (.iconst 0, 1) := by decide +kernel
theorem dX1_isSame_28 : decode cX1_isSame 28 = .ok (.istore 6, 2) := by decide +kernel
theorem dX1_isSame_30 : decode cX1_isSame 30 = .ok (.iload 6, 2) := by decide +kernel
theorem dX1_isSame_32 : decode cX1_isSame 32 = .ok (.iload 4, 2) := by decide +kernel
theorem dX1_isSame_34 : decode cX1_isSame 34 = .ok (.iload_n 3, 1) := by decide +kernel
theorem dX1_isSame_35 : decode cX1_isSame 35 = .ok (.isub, 1) := by decide +kernel
theorem dX1_isSame_36 : decode cX1_isSame 36 = .ok (.if_icmp .ge 34, 3) := by decide +kernel
theorem dX1_isSame_39 : decode cX1_isSame 39 = .ok (.aload_n 0, 1) := by decide +kernel
theorem dX1_isSame_40 : decode cX1_isSame 40 = .ok (.getfield 12, 3) := by decide +kernel
theorem dX1_isSame_43 : decode cX1_isSame 43 = .ok (.iload 5, 2) := by decide +kernel
theorem dX1_isSame_45 : decode cX1_isSame 45 = .ok (.iload 6, 2) := by decide +kernel
theorem dX1_isSame_47 : decode cX1_isSame 47 = .ok (.iadd, 1) := by decide +kernel
theorem dX1_isSame_48 : decode cX1_isSame 48 = .ok (.invokevirtual 25, 3) := by decide +kernel
theorem dX1_isSame_51 : decode cX1_isSame 51 = .ok (.aload_n 2, 1) := by decide +kernel
theorem dX1_isSame_52 : decode cX1_isSame 52 = .ok (.iload_n 3, 1) := by decide +kernel
theorem dX1_isSame_53 : decode cX1_isSame 53 = .ok (.iload 6, 2) := by decide +kernel
theorem dX1_isSame_55 : decode cX1_isSame 55 = .ok (.iadd, 1) := by decide +kernel
theorem dX1_isSame_56 : decode cX1_isSame 56 = .ok (.invokevirtual 25, 3) := by decide +kernel
theorem dX1_isSame_59 : decode cX1_isSame 59 = .ok (.if_icmp .eq 5, 3) := by decide +kernel
theorem dX1_isSame_62 : decode cX1_isSame 62 = .ok (.iconst 0, 1) := by decide +kernel
theorem dX1_isSame_63 : decode cX1_isSame 63 = .ok (.ireturn, 1) := by decide +kernel
theorem dX1_isSame_64 : decode cX1_isSame 64 = .ok (.iinc 6 1, 3) := by decide +kernel
theorem dX1_isSame_67 : decode cX1_isSame 67 = .ok (.goto (-37), 3) := by decide +kernel
theorem dX1_isSame_70 : decode cX1_isSame 70 = .ok (.iconst 1, 1) := by decide +kernel
theorem dX1_isSame_71 : decode cX1_isSame 71 = .ok (.ireturn, 1) := by decide +kernel
theorem dX1_shares_0 : decode cX1_shares 0 = .ok (.iload_n 1, 1) := by decide +kernel
theorem dX1_shares_1 : decode cX1_shares 1 = .ok (.aload_n 0, 1) := by decide +kernel
theorem dX1_shares_2 : decode cX1_shares 2 = .ok (.invokevirtual 35, 3) := by decide +kernel
theorem dX1_shares_5 : decode cX1_shares 5 = .ok (.if_icmp .ge 37, 3) := by decide +kernel
theorem dX1_shares_8 : decode cX1_shares 8 = .ok (.iload_n 1, 1) := by decide +kernel
theorem dX1_shares_9 : decode cX1_shares 9 = .ok (.aload_n 2, 1) := by decide +kernel
theorem dX1_shares_10 : decode cX1_shares 10 = .ok (.invokevirtual 35, 3) := by decide +kernel
theorem dX1_shares_13 : decode cX1_shares 13 = .ok (.if_icmp .ge 29, 3) := by decide +kernel
theorem dX1_shares_16 : decode cX1_shares 16 = .ok (.aload_n 0, 1) := by decide +kernel
theorem dX1_shares_17 : decode cX1_shares 17 = .ok (.iload_n 1, 1) := by decide +kernel
theorem dX1_shares_18 : decode cX1_shares 18 = .ok (.aload_n 2, 1) := by decide +kernel
theorem dX1_shares_19 : decode cX1_shares 19 = .ok (.getfield 12, 3) := by decide +kernel
theorem dX1_shares_22 : decode cX1_shares 22 = .ok (.aload_n 2, 1) := by decide +kernel
theorem dX1_shares_23 : decode cX1_shares 23 = .ok (.iload_n 1, 1) := by decide +kernel
theorem dX1_shares_24 : decode cX1_shares 24 = .ok (.invokevirtual 32, 3) := by decide +kernel
theorem dX1_shares_27 : decode cX1_shares 27 = .ok (.aload_n 2, 1) := by decide +kernel
theorem dX1_shares_28 : decode cX1_shares 28 = .ok (.iload_n 1, 1) := by decide +kernel
theorem dX1_shares_29 : decode cX1_shares 29 = .ok (.invokevirtual 29, 3) := by decide +kernel
theorem dX1_shares_32 : decode cX1_shares 32 = .ok (.invokevirtual 55, 3) := by decide +kernel
theorem dX1_shares_35 : decode cX1_shares 35 = .ok (.ifCond .eq 7, 3) := by decide +kernel
theorem dX1_shares_38 : decode cX1_shares 38 = .ok (.iconst 1, 1) := by decide +kernel
theorem dX1_shares_39 : decode cX1_shares 39 = .ok (.goto 4, 3) := by decide +kernel
theorem dX1_shares_42 : decode cX1_shares 42 = .ok (.iconst 0, 1) := by decide +kernel
theorem dX1_shares_43 : decode cX1_shares 43 = .ok (.ireturn, 1) := by decide +kernel
theorem dX1_takeOver_0 : decode cX1_takeOver 0 = .ok (.aload_n 0, 1) := by decide +kernel
theorem dX1_takeOver_1 : decode cX1_takeOver 1 = .ok (.getfield 12, 3) := by decide +kernel
theorem dX1_takeOver_4 : decode cX1_takeOver 4 = .ok (.aload_n 1, 1) := by decide +kernel
theorem dX1_takeOver_5 : decode cX1_takeOver 5 = .ok (.getfield 12, 3) := by decide +kernel
theorem dX1_takeOver_8 : decode cX1_takeOver 8 = .ok (.invokevirtual 59, 3) := by decide +kernel
theorem dX1_takeOver_11 : decode cX1_takeOver 11 = .ok (.aload_n 0, 1) := by decide +kernel
theorem dX1_takeOver_12 : decode cX1_takeOver 12 = .ok (.getfield 18, 3) := by decide +kernel
theorem dX1_takeOver_15 : decode cX1_takeOver 15 = .ok (.aload_n 1, 1) := by decide +kernel
theorem dX1_takeOver_16 : decode cX1_takeOver 16 = .ok (.getfield 18, 3) := by decide +kernel
theorem dX1_takeOver_19 : decode cX1_takeOver 19 = .ok (.invokevirtual 59, 3) := by decide +kernel
theorem dX1_takeOver_22 : decode cX1_takeOver 22 = .ok (.return_, 1) := by decide +kernel
theorem dX2_init_0 : decode cX2_init 0 = .ok (.aload_n 0, 1) := by decide +kernel
theorem dX2_init_1 : decode cX2_init 1 = .ok (.invokespecial 3, 3) := by decide +kernel
theorem dX2_init_4 : decode cX2_init 4 = .ok (.aload_n 0, 1) := by decide +kernel
theorem dX2_init_5 : decode cX2_init 5 = .ok (.iconst 0, 1) := by decide +kernel
theorem dX2_init_6 : decode cX2_init 6 = .ok (.putfield 9, 3) := by decide +kernel
theorem dX2_init_9 : decode cX2_init 9 = .ok (.aload_n 0, 1) := by decide +kernel
theorem dX2_init_10 : decode cX2_init 10 = .ok (.iload_n 1, 1) := by decide +kernel
theorem dX2_init_11 : decode cX2_init 11 = .ok (.ifCond .ge 7, 3) := by decide +kernel
theorem dX2_init_14 : decode cX2_init 14 = .ok (.iconst 0, 1) := by decide +kernel
theorem dX2_init_15 : decode cX2_init 15 = .ok (.goto 4, 3) := by decide +kernel
theorem dX2_init_18 : decode cX2_init 18 = .ok (.iload_n 1, 1) := by decide +kernel
theorem dX2_init_19 : decode cX2_init 19 = .ok (.newarray .int, 2) := by decide +kernel
theorem dX2_init_21 : decode cX2_init 21 = .ok (.putfield 15, 3) := by decide +kernel
theorem dX2_init_24 : decode cX2_init 24 = .ok (.return_, 1) := by decide +kernel
theorem dX2_count_0 : decode cX2_count 0 = .ok (.aload_n 0, 1) := by decide +kernel
theorem dX2_count_1 : decode cX2_count 1 = .ok (.getfield 9, 3) := by decide +kernel
theorem dX2_count_4 : decode cX2_count 4 = .ok (.ireturn, 1) := by decide +kernel
theorem dX2_isFull_0 : decode cX2_isFull 0 = .ok (.aload_n 0, 1) := by decide +kernel
theorem dX2_isFull_1 : decode cX2_isFull 1 = .ok (.getfield 9, 3) := by decide +kernel
theorem dX2_isFull_4 : decode cX2_isFull 4 = .ok (.aload_n 0, 1) := by decide +kernel
theorem dX2_isFull_5 : decode cX2_isFull 5 = .ok (.getfield 15, 3) := by decide +kernel
theorem dX2_isFull_8 : decode cX2_isFull 8 = .ok (.arraylength, 1) := by decide +kernel
theorem dX2_isFull_9 : decode cX2_isFull 9 = .ok (.if_icmp .lt 7, 3) := by decide +kernel
theorem dX2_isFull_12 : decode cX2_isFull 12 = .ok (.iconst 1, 1) := by decide +kernel
theorem dX2_isFull_13 : decode cX2_isFull 13 = .ok (.goto 4, 3) := by decide +kernel
theorem dX2_isFull_16 : decode cX2_isFull 16 = .ok (.iconst 0, 1) := by decide +kernel
theorem dX2_isFull_17 : decode cX2_isFull 17 = .ok (.ireturn, 1) := by decide +kernel
theorem dX2_get_0 : decode cX2_get 0 = .ok (.iload_n 1, 1) := by decide +kernel
theorem dX2_get_1 : decode cX2_get 1 = .ok (.ifCond .lt 11, 3) := by decide +kernel
theorem dX2_get_4 : decode cX2_get 4 = .ok (.iload_n 1, 1) := by decide +kernel
theorem dX2_get_5 : decode cX2_get 5 = .ok (.aload_n 0, 1) := by decide +kernel
theorem dX2_get_6 : decode cX2_get 6 = .ok (.getfield 9, 3) := by decide +kernel
theorem dX2_get_9 : decode cX2_get 9 = .ok (.if_icmp .lt 7, 3) := by decide +kernel
theorem dX2_get_12 : decode cX2_get 12 = .ok (.iconst 0, 1) := by decide +kernel
theorem dX2_get_13 : decode cX2_get 13 = .ok (.goto 9, 3) := by decide +kernel
theorem dX2_get_16 : decode cX2_get 16 = .ok (.aload_n 0, 1) := by decide +kernel
theorem dX2_get_17 : decode cX2_get 17 = .ok (.getfield 15, 3) := by decide +kernel
theorem dX2_get_20 : decode cX2_get 20 = .ok (.iload_n 1, 1) := by decide +kernel
theorem dX2_get_21 : decode cX2_get 21 = .ok (.iaload, 1) := by decide +kernel
theorem dX2_get_22 : decode cX2_get 22 = .ok (.ireturn, 1) := by decide +kernel
theorem dX2_set_0 : decode cX2_set 0 = .ok (.iload_n 1, 1) := by decide +kernel
theorem dX2_set_1 : decode cX2_set 1 = .ok (.ifCond .lt 18, 3) := by decide +kernel
theorem dX2_set_4 : decode cX2_set 4 = .ok (.iload_n 1, 1) := by decide +kernel
theorem dX2_set_5 : decode cX2_set 5 = .ok (.aload_n 0, 1) := by decide +kernel
theorem dX2_set_6 : decode cX2_set 6 = .ok (.getfield 9, 3) := by decide +kernel
theorem dX2_set_9 : decode cX2_set 9 = .ok (.if_icmp .ge 10, 3) := by decide +kernel
theorem dX2_set_12 : decode cX2_set 12 = .ok (.aload_n 0, 1) := by decide +kernel
theorem dX2_set_13 : decode cX2_set 13 = .ok (.getfield 15, 3) := by decide +kernel
theorem dX2_set_16 : decode cX2_set 16 = .ok (.iload_n 1, 1) := by decide +kernel
theorem dX2_set_17 : decode cX2_set 17 = .ok (.iload_n 2, 1) := by decide +kernel
theorem dX2_set_18 : decode cX2_set 18 = .ok (.iastore, 1) := by decide +kernel
theorem dX2_set_19 : decode cX2_set 19 = .ok (.return_, 1) := by decide +kernel
theorem dX2_add_0 : decode cX2_add 0 = .ok (.aload_n 0, 1) := by decide +kernel
theorem dX2_add_1 : decode cX2_add 1 = .ok (.getfield 9, 3) := by decide +kernel
theorem dX2_add_4 : decode cX2_add 4 = .ok (.aload_n 0, 1) := by decide +kernel
theorem dX2_add_5 : decode cX2_add 5 = .ok (.getfield 15, 3) := by decide +kernel
theorem dX2_add_8 : decode cX2_add 8 = .ok (.arraylength, 1) := by decide +kernel
theorem dX2_add_9 : decode cX2_add 9 = .ok (.if_icmp .ge 23, 3) := by decide +kernel
theorem dX2_add_12 : decode cX2_add 12 = .ok (.aload_n 0, 1) := by decide +kernel
theorem dX2_add_13 : decode cX2_add 13 = .ok (.getfield 15, 3) := by decide +kernel
theorem dX2_add_16 : decode cX2_add 16 = .ok (.aload_n 0, 1) := by decide +kernel
theorem dX2_add_17 : decode cX2_add 17 = .ok (.getfield 9, 3) := by decide +kernel
theorem dX2_add_20 : decode cX2_add 20 = .ok (.iload_n 1, 1) := by decide +kernel
theorem dX2_add_21 : decode cX2_add 21 = .ok (.iastore, 1) := by decide +kernel
theorem dX2_add_22 : decode cX2_add 22 = .ok (.aload_n 0, 1) := by decide +kernel
theorem dX2_add_23 : decode cX2_add 23 = .ok (.dup, 1) := by decide +kernel
theorem dX2_add_24 : decode cX2_add 24 = .ok (.getfield 9, 3) := by decide +kernel
theorem dX2_add_27 : decode cX2_add 27 = .ok (.iconst 1, 1) := by decide +kernel
theorem dX2_add_28 : decode cX2_add 28 = .ok (.iadd, 1) := by decide +kernel
theorem dX2_add_29 : decode cX2_add 29 = .ok (.putfield 9, 3) := by decide +kernel
theorem dX2_add_32 : decode cX2_add 32 = .ok (.return_, 1) := by decide +kernel
theorem dX2_insert_0 : decode cX2_insert 0 = .ok (.iload_n 1, 1) := by decide +kernel
theorem dX2_insert_1 : decode cX2_insert 1 = .ok (.ifCond .lt 61, 3) := by decide +kernel
theorem dX2_insert_4 : decode cX2_insert 4 = .ok (.iload_n 1, 1) := by decide +kernel
theorem dX2_insert_5 : decode cX2_insert 5 = .ok (.aload_n 0, 1) := by decide +kernel
theorem dX2_insert_6 : decode cX2_insert 6 = .ok (.getfield 9, 3) := by decide +kernel
theorem dX2_insert_9 : decode cX2_insert 9 = .ok (.if_icmp .gt 53, 3) := by decide +kernel
theorem dX2_insert_12 : decode cX2_insert 12 = .ok (.aload_n 0, 1) := by decide +kernel
theorem dX2_insert_13 : decode cX2_insert 13 = .ok (.getfield 9, 3) := by decide +kernel
theorem dX2_insert_16 : decode cX2_insert 16 = .ok (.aload_n 0, 1) := by decide +kernel
theorem dX2_insert_17 : decode cX2_insert 17 = .ok (.getfield 15, 3) := by decide +kernel
theorem dX2_insert_20 : decode cX2_insert 20 = .ok (.arraylength, 1) := by decide +kernel
theorem dX2_insert_21 : decode cX2_insert 21 = .ok (.if_icmp .ge 41, 3) := by decide +kernel
theorem dX2_insert_24 : decode cX2_insert 24 = .ok (.aload_n 0, 1) := by decide +kernel
theorem dX2_insert_25 : decode cX2_insert 25 = .ok (.getfield 15, 3) := by decide +kernel
theorem dX2_insert_28 : decode cX2_insert 28 = .ok (.iload_n 1, 1) := by decide +kernel
theorem dX2_insert_29 : decode cX2_insert 29 = .ok (.aload_n 0, 1) := by decide +kernel
theorem dX2_insert_30 : decode cX2_insert 30 = .ok (.getfield 15, 3) := by decide +kernel
theorem dX2_insert_33 : decode cX2_insert 33 = .ok (.iload_n 1, 1) := by decide +kernel
theorem dX2_insert_34 : decode cX2_insert 34 = .ok (.iconst 1, 1) := by decide +kernel
theorem dX2_insert_35 : decode cX2_insert 35 = .ok (.iadd, 1) := by decide +kernel
theorem dX2_insert_36 : decode cX2_insert 36 = .ok (.aload_n 0, 1) := by decide +kernel
theorem dX2_insert_37 : decode cX2_insert 37 = .ok (.getfield 9, 3) := by decide +kernel
theorem dX2_insert_40 : decode cX2_insert 40 = .ok (.iload_n 1, 1) := by decide +kernel
theorem dX2_insert_41 : decode cX2_insert 41 = .ok (.isub, 1) := by decide +kernel
theorem dX2_insert_42 : decode cX2_insert 42 = .ok (.invokestatic 19, 3) := by decide +kernel
theorem dX2_insert_45 : decode cX2_insert 45 = .ok (.aload_n 0, 1) := by decide +kernel
theorem dX2_insert_46 : decode cX2_insert 46 = .ok (.getfield 15, 3) := by decide +kernel
theorem dX2_insert_49 : decode cX2_insert 49 = .ok (.iload_n 1, 1) := by decide +kernel
theorem dX2_insert_50 : decode cX2_insert 50 = .ok (.iload_n 2, 1) := by decide +kernel
theorem dX2_insert_51 : decode cX2_insert 51 = .ok (.iastore, 1) := by decide +kernel
theorem dX2_insert_52 : decode cX2_insert 52 = .ok (.aload_n 0, 1) := by decide +kernel
theorem dX2_insert_53 : decode cX2_insert 53 = .ok (.dup, 1) := by decide +kernel
theorem dX2_insert_54 : decode cX2_insert 54 = .ok (.getfield 9, 3) := by decide +kernel
theorem dX2_insert_57 : decode cX2_insert 57 = .ok (.iconst 1, 1) := by decide +kernel
theorem dX2_insert_58 : decode cX2_insert 58 = .ok (.iadd, 1) := by decide +kernel
theorem dX2_insert_59 : decode cX2_insert 59 = .ok (.putfield 9, 3) := by decide +kernel
theorem dX2_insert_62 : decode cX2_insert 62 = .ok (.return_, 1) := by decide +kernel
theorem dX2_remove_0 : decode cX2_remove 0 = .ok (.iload_n 1, 1) := by decide +kernel
theorem dX2_remove_1 : decode cX2_remove 1 = .ok (.ifCond .lt 42, 3) := by decide +kernel
theorem dX2_remove_4 : decode cX2_remove 4 = .ok (.iload_n 1, 1) := by decide +kernel
theorem dX2_remove_5 : decode cX2_remove 5 = .ok (.aload_n 0, 1) := by decide +kernel
theorem dX2_remove_6 : decode cX2_remove 6 = .ok (.getfield 9, 3) := by decide +kernel
theorem dX2_remove_9 : decode cX2_remove 9 = .ok (.if_icmp .ge 34, 3) := by decide +kernel
theorem dX2_remove_12 : decode cX2_remove 12 = .ok (.aload_n 0, 1) := by decide +kernel
theorem dX2_remove_13 : decode cX2_remove 13 = .ok (.dup, 1) := by decide +kernel
theorem dX2_remove_14 : decode cX2_remove 14 = .ok (.getfield 9, 3) := by decide +kernel
theorem dX2_remove_17 : decode cX2_remove 17 = .ok (.iconst 1, 1) := by decide +kernel
theorem dX2_remove_18 : decode cX2_remove 18 = .ok (.isub, 1) := by decide +kernel
theorem dX2_remove_19 : decode cX2_remove 19 = .ok (.putfield 9, 3) := by decide +kernel
theorem dX2_remove_22 : decode cX2_remove 22 = .ok (.aload_n 0, 1) := by decide +kernel
theorem dX2_remove_23 : decode cX2_remove 23 = .ok (.getfield 15, 3) := by decide +kernel
theorem dX2_remove_26 : decode cX2_remove 26 = .ok (.iload_n 1, 1) := by decide +kernel
theorem dX2_remove_27 : decode cX2_remove 27 = .ok (.iconst 1, 1) := by decide +kernel
theorem dX2_remove_28 : decode cX2_remove 28 = .ok (.iadd, 1) := by decide +kernel
theorem dX2_remove_29 : decode cX2_remove 29 = .ok (.aload_n 0, 1) := by decide +kernel
theorem dX2_remove_30 : decode cX2_remove 30 = .ok (.getfield 15, 3) := by decide +kernel
theorem dX2_remove_33 : decode cX2_remove 33 = .ok (.iload_n 1, 1) := by decide +kernel
theorem dX2_remove_34 : decode cX2_remove 34 = .ok (.aload_n 0, 1) := by decide +kernel
theorem dX2_remove_35 : decode cX2_remove 35 = .ok (.getfield 9, 3) := by decide +kernel
theorem dX2_remove_38 : decode cX2_remove 38 = .ok (.iload_n 1, 1) := by decide +kernel
theorem dX2_remove_39 : decode cX2_remove 39 = .ok (.isub, 1) := by decide +kernel
theorem dX2_remove_40 : decode cX2_remove 40 = .ok (.invokestatic 19, 3) := by decide +kernel
theorem dX2_remove_43 : decode cX2_remove 43 = .ok (.return_, 1) := by decide +kernel
theorem dX2_empty_0 : decode cX2_empty 0 = .ok (.aload_n 0, 1) := by decide +kernel
theorem dX2_empty_1 : decode cX2_empty 1 = .ok (.iconst 0, 1) := by decide +kernel
theorem dX2_empty_2 : decode cX2_empty 2 = .ok (.putfield 9, 3) := by decide +kernel
theorem dX2_empty_5 : decode cX2_empty 5 = .ok (.return_, 1) := by decide +kernel
theorem dX2_placeOf_0 : decode cX2_placeOf 0 = .ok (.iconst 0, 1) := by decide +kernel
theorem dX2_placeOf_1 : decode cX2_placeOf 1 = .ok (.istore_n 2, 1) := by decide +kernel
theorem dX2_placeOf_2 : decode cX2_placeOf 2 = .ok (.iload_n 2, 1) := by decide +kernel
theorem dX2_placeOf_3 : decode cX2_placeOf 3 = .ok (.aload_n 0, 1) := by decide +kernel
theorem dX2_placeOf_4 : decode cX2_placeOf 4 = .ok (.getfield 9, 3) := by decide +kernel
theorem dX2_placeOf_7 : decode cX2_placeOf 7 = .ok (.if_icmp .ge 20, 3) := by decide +kernel
theorem dX2_placeOf_10 : decode cX2_placeOf 10 = .ok (.aload_n 0, 1) := by decide +kernel
theorem dX2_placeOf_11 : decode cX2_placeOf 11 = .ok (.iload_n 2, 1) := by decide +kernel
theorem dX2_placeOf_12 : decode cX2_placeOf 12 = .ok (.invokevirtual 25, 3) := by decide +kernel
theorem dX2_placeOf_15 : decode cX2_placeOf 15 = .ok (.iload_n 1, 1) := by decide +kernel
theorem dX2_placeOf_16 : decode cX2_placeOf 16 = .ok (.if_icmp .ne 5, 3) := by decide +kernel
theorem dX2_placeOf_19 : decode cX2_placeOf 19 = .ok (.iload_n 2, 1) := by decide +kernel
theorem dX2_placeOf_20 : decode cX2_placeOf 20 = .ok (.ireturn, 1) := by decide +kernel
theorem dX2_placeOf_21 : decode cX2_placeOf 21 = .ok (.iinc 2 1, 3) := by decide +kernel
theorem dX2_placeOf_24 : decode cX2_placeOf 24 = .ok (.goto (-22), 3) := by decide +kernel
theorem dX2_placeOf_27 : decode cX2_placeOf 27 = .ok (.iconst (-1), 1) := by decide +kernel
theorem dX2_placeOf_28 : decode cX2_placeOf 28 = .ok (.ireturn, 1) := by decide +kernel
theorem dX2_takeOver_0 : decode cX2_takeOver 0 = .ok (.aload_n 0, 1) := by decide +kernel
theorem dX2_takeOver_1 : decode cX2_takeOver 1 = .ok (.invokevirtual 29, 3) := by decide +kernel
theorem dX2_takeOver_4 : decode cX2_takeOver 4 = .ok (.iconst 0, 1) := by decide +kernel
theorem dX2_takeOver_5 : decode cX2_takeOver 5 = .ok (.istore_n 2, 1) := by decide +kernel
theorem dX2_takeOver_6 : decode cX2_takeOver 6 = .ok (.iload_n 2, 1) := by decide +kernel
theorem dX2_takeOver_7 : decode cX2_takeOver 7 = .ok (.aload_n 1, 1) := by decide +kernel
theorem dX2_takeOver_8 : decode cX2_takeOver 8 = .ok (.invokevirtual 32, 3) := by decide +kernel
theorem dX2_takeOver_11 : decode cX2_takeOver 11 = .ok (.if_icmp .ge 18, 3) := by decide +kernel
theorem dX2_takeOver_14 : decode cX2_takeOver 14 = .ok (.aload_n 0, 1) := by decide +kernel
theorem dX2_takeOver_15 : decode cX2_takeOver 15 = .ok (.aload_n 1, 1) := by decide +kernel
theorem dX2_takeOver_16 : decode cX2_takeOver 16 = .ok (.iload_n 2, 1) := by decide +kernel
theorem dX2_takeOver_17 : decode cX2_takeOver 17 = .ok (.invokevirtual 25, 3) := by decide +kernel
theorem dX2_takeOver_20 : decode cX2_takeOver 20 = .ok (.invokevirtual 35, 3) := by decide +kernel
theorem dX2_takeOver_23 : decode cX2_takeOver 23 = .ok (.iinc 2 1, 3) := by decide +kernel
theorem dX2_takeOver_26 : decode cX2_takeOver 26 = .ok (.goto (-20), 3) := by decide +kernel
theorem dX2_takeOver_29 : decode cX2_takeOver 29 = .ok (.return_, 1) := by decide +kernel
theorem dX3_init_0 : decode cX3_init 0 = .ok (.aload_n 0, 1) := by decide +kernel
theorem dX3_init_1 : decode cX3_init 1 = .ok (.invokespecial 5, 3) := by decide +kernel
theorem dX3_init_4 : decode cX3_init 4 = .ok (.aload_n 0, 1) := by decide +kernel
theorem dX3_init_5 : decode cX3_init 5 = .ok (.new 11, 3) := by decide +kernel
theorem dX3_init_8 : decode cX3_init 8 = .ok (.dup, 1) := by decide +kernel
theorem dX3_init_9 : decode cX3_init 9 = .ok (.bipush 40, 2) := by decide +kernel
theorem dX3_init_11 : decode cX3_init 11 = .ok (.invokespecial 13, 3) := by decide +kernel
theorem dX3_init_14 : decode cX3_init 14 = .ok (.putfield 16, 3) := by decide +kernel
theorem dX3_init_17 : decode cX3_init 17 = .ok (.aload_n 0, 1) := by decide +kernel
theorem dX3_init_18 : decode cX3_init 18 = .ok (.new 11, 3) := by decide +kernel
theorem dX3_init_21 : decode cX3_init 21 = .ok (.dup, 1) := by decide +kernel
theorem dX3_init_22 : decode cX3_init 22 = .ok (.bipush 40, 2) := by decide +kernel
theorem dX3_init_24 : decode cX3_init 24 = .ok (.invokespecial 13, 3) := by decide +kernel
theorem dX3_init_27 : decode cX3_init 27 = .ok (.putfield 20, 3) := by decide +kernel
theorem dX3_init_30 : decode cX3_init 30 = .ok (.aload_n 0, 1) := by decide +kernel
theorem dX3_init_31 : decode cX3_init 31 = .ok (.new 11, 3) := by decide +kernel
theorem dX3_init_34 : decode cX3_init 34 = .ok (.dup, 1) := by decide +kernel
theorem dX3_init_35 : decode cX3_init 35 = .ok (.bipush 40, 2) := by decide +kernel
theorem dX3_init_37 : decode cX3_init 37 = .ok (.invokespecial 13, 3) := by decide +kernel
theorem dX3_init_40 : decode cX3_init 40 = .ok (.putfield 23, 3) := by decide +kernel
theorem dX3_init_43 : decode cX3_init 43 = .ok (.aload_n 0, 1) := by decide +kernel
theorem dX3_init_44 : decode cX3_init 44 = .ok (.new 11, 3) := by decide +kernel
theorem dX3_init_47 : decode cX3_init 47 = .ok (.dup, 1) := by decide +kernel
theorem dX3_init_48 : decode cX3_init 48 = .ok (.bipush 40, 2) := by decide +kernel
theorem dX3_init_50 : decode cX3_init 50 = .ok (.invokespecial 13, 3) := by decide +kernel
theorem dX3_init_53 : decode cX3_init 53 = .ok (.putfield 26, 3) := by decide +kernel
theorem dX3_init_56 : decode cX3_init 56 = .ok (.aload_n 0, 1) := by decide +kernel
theorem dX3_init_57 : decode cX3_init 57 = .ok (.new 29, 3) := by decide +kernel
theorem dX3_init_60 : decode cX3_init 60 = .ok (.dup, 1) := by decide +kernel
theorem dX3_init_61 : decode cX3_init 61 = .ok (.bipush 20, 2) := by decide +kernel
theorem dX3_init_63 : decode cX3_init 63 = .ok (.sipush 1600, 3) := by decide +kernel
theorem dX3_init_66 : decode cX3_init 66 = .ok (.invokespecial 31, 3) := by decide +kernel
theorem dX3_init_69 : decode cX3_init 69 = .ok (.putfield 34, 3) := by decide +kernel
theorem dX3_init_72 : decode cX3_init 72 = .ok (.return_, 1) := by decide +kernel
theorem dX3_keyOf_0 : decode cX3_keyOf 0 = .ok (.iload_n 2, 1) := by decide +kernel
theorem dX3_keyOf_1 : decode cX3_keyOf 1 = .ok (.iconst 1, 1) := by decide +kernel
theorem dX3_keyOf_2 : decode cX3_keyOf 2 = .ok (.if_icmp .lt 8, 3) := by decide +kernel
theorem dX3_keyOf_5 : decode cX3_keyOf 5 = .ok (.iload_n 2, 1) := by decide +kernel
theorem dX3_keyOf_6 : decode cX3_keyOf 6 = .ok (.iconst 4, 1) := by decide +kernel
theorem dX3_keyOf_7 : decode cX3_keyOf 7 = .ok (.if_icmp .le 5, 3) := by decide +kernel
theorem dX3_keyOf_10 : decode cX3_keyOf 10 = .ok (.iconst 0, 1) := by decide +kernel
theorem dX3_keyOf_11 : decode cX3_keyOf 11 = .ok (.ireturn, 1) := by decide +kernel
theorem dX3_keyOf_12 : decode cX3_keyOf 12 = .ok (.iconst 0, 1) := by decide +kernel
theorem dX3_keyOf_13 : decode cX3_keyOf 13 = .ok (.istore_n 3, 1) := by decide +kernel
theorem dX3_keyOf_14 : decode cX3_keyOf 14 = .ok (.iconst 0, 1) := by decide +kernel
theorem dX3_keyOf_15 : decode cX3_keyOf 15 = .ok (.istore 4, 2) := by decide +kernel
theorem dX3_keyOf_17 : decode cX3_keyOf 17 = .ok (.iload 4, 2) := by decide +kernel
theorem dX3_keyOf_19 : decode cX3_keyOf 19 = .ok (.iconst 4, 1) := by decide +kernel
theorem dX3_keyOf_20 : decode cX3_keyOf 20 = .ok (.if_icmp .ge 41, 3) := by decide +kernel
theorem dX3_keyOf_23 : decode cX3_keyOf 23 = .ok (.iload 4, 2) := by decide +kernel
theorem dX3_keyOf_25 : decode cX3_keyOf 25 = .ok (.iload_n 2, 1) := by decide +kernel
theorem dX3_keyOf_26 : decode cX3_keyOf 26 = .ok (.if_icmp .ge 19, 3) := by decide +kernel
theorem dX3_keyOf_29 : decode cX3_keyOf 29 = .ok (.aload_n 0, 1) := by decide +kernel
theorem dX3_keyOf_30 : decode cX3_keyOf 30 = .ok (.iload_n 1, 1) := by decide +kernel
theorem dX3_keyOf_31 : decode cX3_keyOf 31 = .ok (.iload 4, 2) := by decide +kernel
theorem dX3_keyOf_33 : decode cX3_keyOf 33 = .ok (.iadd, 1) := by decide +kernel
theorem dX3_keyOf_34 : decode cX3_keyOf 34 = .ok (.invokevirtual 38, 3) := by decide +kernel
theorem dX3_keyOf_37 : decode cX3_keyOf 37 = .ok (.bipush 97, 2) := by decide +kernel
theorem dX3_keyOf_39 : decode cX3_keyOf 39 = .ok (.isub, 1) := by decide +kernel
theorem dX3_keyOf_40 : decode cX3_keyOf 40 = .ok (.iconst 1, 1) := by decide +kernel
theorem dX3_keyOf_41 : decode cX3_keyOf 41 = .ok (.iadd, 1) := by decide +kernel
theorem dX3_keyOf_42 : decode cX3_keyOf 42 = .ok (.goto 4, 3) := by decide +kernel
theorem dX3_keyOf_45 : decode cX3_keyOf 45 = .ok (.iconst 0, 1) := by decide +kernel
theorem dX3_keyOf_46 : decode cX3_keyOf 46 = .ok (.istore 5, 2) := by decide +kernel
theorem dX3_keyOf_48 : decode cX3_keyOf 48 = .ok (.iload_n 3, 1) := by decide +kernel
theorem dX3_keyOf_49 : decode cX3_keyOf 49 = .ok (.iconst 5, 1) := by decide +kernel
theorem dX3_keyOf_50 : decode cX3_keyOf 50 = .ok (.ishl, 1) := by decide +kernel
theorem dX3_keyOf_51 : decode cX3_keyOf 51 = .ok (.iload 5, 2) := by decide +kernel
theorem dX3_keyOf_53 : decode cX3_keyOf 53 = .ok (.ior, 1) := by decide +kernel
theorem dX3_keyOf_54 : decode cX3_keyOf 54 = .ok (.istore_n 3, 1) := by decide +kernel
theorem dX3_keyOf_55 : decode cX3_keyOf 55 = .ok (.iinc 4 1, 3) := by decide +kernel
theorem dX3_keyOf_58 : decode cX3_keyOf 58 = .ok (.goto (-41), 3) := by decide +kernel
theorem dX3_keyOf_61 : decode cX3_keyOf 61 = .ok (.iload_n 3, 1) := by decide +kernel
theorem dX3_keyOf_62 : decode cX3_keyOf 62 = .ok (.ireturn, 1) := by decide +kernel
theorem dX3_isFull_0 : decode cX3_isFull 0 = .ok (.aload_n 0, 1) := by decide +kernel
theorem dX3_isFull_1 : decode cX3_isFull 1 = .ok (.getfield 16, 3) := by decide +kernel
theorem dX3_isFull_4 : decode cX3_isFull 4 = .ok (.invokevirtual 46, 3) := by decide +kernel
theorem dX3_isFull_7 : decode cX3_isFull 7 = .ok (.ireturn, 1) := by decide +kernel
theorem dX3_placeOf_0 : decode cX3_placeOf 0 = .ok (.aload_n 0, 1) := by decide +kernel
theorem dX3_placeOf_1 : decode cX3_placeOf 1 = .ok (.getfield 16, 3) := by decide +kernel
theorem dX3_placeOf_4 : decode cX3_placeOf 4 = .ok (.iload_n 1, 1) := by decide +kernel
theorem dX3_placeOf_5 : decode cX3_placeOf 5 = .ok (.invokevirtual 50, 3) := by decide +kernel
theorem dX3_placeOf_8 : decode cX3_placeOf 8 = .ok (.ireturn, 1) := by decide +kernel
theorem dX3_insert_0 : decode cX3_insert 0 = .ok (.iconst 0, 1) := by decide +kernel
theorem dX3_insert_1 : decode cX3_insert 1 = .ok (.istore 5, 2) := by decide +kernel
theorem dX3_insert_3 : decode cX3_insert 3 = .ok (.iconst 0, 1) := by decide +kernel
theorem dX3_insert_4 : decode cX3_insert 4 = .ok (.istore 6, 2) := by decide +kernel
theorem dX3_insert_6 : decode cX3_insert 6 = .ok (.iload 6, 2) := by decide +kernel
theorem dX3_insert_8 : decode cX3_insert 8 = .ok (.aload_n 0, 1) := by decide +kernel
theorem dX3_insert_9 : decode cX3_insert 9 = .ok (.getfield 16, 3) := by decide +kernel
theorem dX3_insert_12 : decode cX3_insert 12 = .ok (.invokevirtual 42, 3) := by decide +kernel
theorem dX3_insert_15 : decode cX3_insert 15 = .ok (.if_icmp .ge 28, 3) := by decide +kernel
theorem dX3_insert_18 : decode cX3_insert 18 = .ok (.aload_n 0, 1) := by decide +kernel
theorem dX3_insert_19 : decode cX3_insert 19 = .ok (.getfield 16, 3) := by decide +kernel
theorem dX3_insert_22 : decode cX3_insert 22 = .ok (.iload 6, 2) := by decide +kernel
theorem dX3_insert_24 : decode cX3_insert 24 = .ok (.invokevirtual 38, 3) := by decide +kernel
theorem dX3_insert_27 : decode cX3_insert 27 = .ok (.iload_n 1, 1) := by decide +kernel
theorem dX3_insert_28 : decode cX3_insert 28 = .ok (.if_icmp .ge 9, 3) := by decide +kernel
theorem dX3_insert_31 : decode cX3_insert 31 = .ok (.iload 6, 2) := by decide +kernel
theorem dX3_insert_33 : decode cX3_insert 33 = .ok (.iconst 1, 1) := by decide +kernel
theorem dX3_insert_34 : decode cX3_insert 34 = .ok (.iadd, 1) := by decide +kernel
theorem dX3_insert_35 : decode cX3_insert 35 = .ok (.istore 5, 2) := by decide +kernel
theorem dX3_insert_37 : decode cX3_insert 37 = .ok (.iinc 6 1, 3) := by decide +kernel
theorem dX3_insert_40 : decode cX3_insert 40 = .ok (.goto (-34), 3) := by decide +kernel
theorem dX3_insert_43 : decode cX3_insert 43 = .ok (.aload_n 0, 1) := by decide +kernel
theorem dX3_insert_44 : decode cX3_insert 44 = .ok (.getfield 16, 3) := by decide +kernel
theorem dX3_insert_47 : decode cX3_insert 47 = .ok (.iload 5, 2) := by decide +kernel
theorem dX3_insert_49 : decode cX3_insert 49 = .ok (.iload_n 1, 1) := by decide +kernel
theorem dX3_insert_50 : decode cX3_insert 50 = .ok (.invokevirtual 53, 3) := by decide +kernel
theorem dX3_insert_53 : decode cX3_insert 53 = .ok (.aload_n 0, 1) := by decide +kernel
theorem dX3_insert_54 : decode cX3_insert 54 = .ok (.getfield 20, 3) := by decide +kernel
theorem dX3_insert_57 : decode cX3_insert 57 = .ok (.iload 5, 2) := by decide +kernel
theorem dX3_insert_59 : decode cX3_insert 59 = .ok (.iload_n 2, 1) := by decide +kernel
theorem dX3_insert_60 : decode cX3_insert 60 = .ok (.invokevirtual 53, 3) := by decide +kernel
theorem dX3_insert_63 : decode cX3_insert 63 = .ok (.aload_n 0, 1) := by decide +kernel
theorem dX3_insert_64 : decode cX3_insert 64 = .ok (.getfield 23, 3) := by decide +kernel
theorem dX3_insert_67 : decode cX3_insert 67 = .ok (.iload 5, 2) := by decide +kernel
theorem dX3_insert_69 : decode cX3_insert 69 = .ok (.iload_n 3, 1) := by decide +kernel
theorem dX3_insert_70 : decode cX3_insert 70 = .ok (.invokevirtual 53, 3) := by decide +kernel
theorem dX3_insert_73 : decode cX3_insert 73 = .ok (.aload_n 0, 1) := by decide +kernel
theorem dX3_insert_74 : decode cX3_insert 74 = .ok (.getfield 26, 3) := by decide +kernel
theorem dX3_insert_77 : decode cX3_insert 77 = .ok (.iload 5, 2) := by decide +kernel
theorem dX3_insert_79 : decode cX3_insert 79 = .ok (.iload 4, 2) := by decide +kernel
theorem dX3_insert_81 : decode cX3_insert 81 = .ok (.invokevirtual 53, 3) := by decide +kernel
theorem dX3_insert_84 : decode cX3_insert 84 = .ok (.iload 5, 2) := by decide +kernel
theorem dX3_insert_86 : decode cX3_insert 86 = .ok (.ireturn, 1) := by decide +kernel
theorem dX3_alter_0 : decode cX3_alter 0 = .ok (.aload_n 0, 1) := by decide +kernel
theorem dX3_alter_1 : decode cX3_alter 1 = .ok (.getfield 20, 3) := by decide +kernel
theorem dX3_alter_4 : decode cX3_alter 4 = .ok (.iload_n 1, 1) := by decide +kernel
theorem dX3_alter_5 : decode cX3_alter 5 = .ok (.iload_n 2, 1) := by decide +kernel
theorem dX3_alter_6 : decode cX3_alter 6 = .ok (.invokevirtual 56, 3) := by decide +kernel
theorem dX3_alter_9 : decode cX3_alter 9 = .ok (.aload_n 0, 1) := by decide +kernel
theorem dX3_alter_10 : decode cX3_alter 10 = .ok (.getfield 23, 3) := by decide +kernel
theorem dX3_alter_13 : decode cX3_alter 13 = .ok (.iload_n 1, 1) := by decide +kernel
theorem dX3_alter_14 : decode cX3_alter 14 = .ok (.iload_n 3, 1) := by decide +kernel
theorem dX3_alter_15 : decode cX3_alter 15 = .ok (.invokevirtual 56, 3) := by decide +kernel
theorem dX3_alter_18 : decode cX3_alter 18 = .ok (.aload_n 0, 1) := by decide +kernel
theorem dX3_alter_19 : decode cX3_alter 19 = .ok (.getfield 26, 3) := by decide +kernel
theorem dX3_alter_22 : decode cX3_alter 22 = .ok (.iload_n 1, 1) := by decide +kernel
theorem dX3_alter_23 : decode cX3_alter 23 = .ok (.iload 4, 2) := by decide +kernel
theorem dX3_alter_25 : decode cX3_alter 25 = .ok (.invokevirtual 56, 3) := by decide +kernel
theorem dX3_alter_28 : decode cX3_alter 28 = .ok (.return_, 1) := by decide +kernel
theorem dX3_isInOrder_0 : decode cX3_isInOrder 0 = .ok (.iconst 1, 1) := by decide +kernel
theorem dX3_isInOrder_1 : decode cX3_isInOrder 1 = .ok (.istore_n 1, 1) := by decide +kernel
theorem dX3_isInOrder_2 : decode cX3_isInOrder 2 = .ok (.iload_n 1, 1) := by decide +kernel
theorem dX3_isInOrder_3 : decode cX3_isInOrder 3 = .ok (.aload_n 0, 1) := by decide +kernel
theorem dX3_isInOrder_4 : decode cX3_isInOrder 4 = .ok (.getfield 16, 3) := by decide +kernel
theorem dX3_isInOrder_7 : decode cX3_isInOrder 7 = .ok (.invokevirtual 42, 3) := by decide +kernel
theorem dX3_isInOrder_10 : decode cX3_isInOrder 10 = .ok (.if_icmp .ge 32, 3) := by decide +kernel
theorem dX3_isInOrder_13 : decode cX3_isInOrder 13 = .ok (.aload_n 0, 1) := by decide +kernel
theorem dX3_isInOrder_14 : decode cX3_isInOrder 14 = .ok (.getfield 16, 3) := by decide +kernel
theorem dX3_isInOrder_17 : decode cX3_isInOrder 17 = .ok (.iload_n 1, 1) := by decide +kernel
theorem dX3_isInOrder_18 : decode cX3_isInOrder 18 = .ok (.iconst 1, 1) := by decide +kernel
theorem dX3_isInOrder_19 : decode cX3_isInOrder 19 = .ok (.isub, 1) := by decide +kernel
theorem dX3_isInOrder_20 : decode cX3_isInOrder 20 = .ok (.invokevirtual 38, 3) := by decide +kernel
theorem dX3_isInOrder_23 : decode cX3_isInOrder 23 = .ok (.aload_n 0, 1) := by decide +kernel
theorem dX3_isInOrder_24 : decode cX3_isInOrder 24 = .ok (.getfield 16, 3) := by decide +kernel
theorem dX3_isInOrder_27 : decode cX3_isInOrder 27 = .ok (.iload_n 1, 1) := by decide +kernel
theorem dX3_isInOrder_28 : decode cX3_isInOrder 28 = .ok (.invokevirtual 38, 3) := by decide +kernel
theorem dX3_isInOrder_31 : decode cX3_isInOrder 31 = .ok (.if_icmp .lt 5, 3) := by decide +kernel
theorem dX3_isInOrder_34 : decode cX3_isInOrder 34 = .ok (.iconst 0, 1) := by decide +kernel
theorem dX3_isInOrder_35 : decode cX3_isInOrder 35 = .ok (.ireturn, 1) := by decide +kernel
theorem dX3_isInOrder_36 : decode cX3_isInOrder 36 = .ok (.iinc 1 1, 3) := by decide +kernel
theorem dX3_isInOrder_39 : decode cX3_isInOrder 39 = .ok (.goto (-37), 3) := by decide +kernel
theorem dX3_isInOrder_42 : decode cX3_isInOrder 42 = .ok (.iconst 1, 1) := by decide +kernel
theorem dX3_isInOrder_43 : decode cX3_isInOrder 43 = .ok (.ireturn, 1) := by decide +kernel
theorem dX3_placeOfException_0 : decode cX3_placeOfException 0 = .ok (.iconst 0, 1) := by decide +kernel
theorem dX3_placeOfException_1 : decode cX3_placeOfException 1 = .ok (.istore 4, 2) := by decide +kernel
theorem dX3_placeOfException_3 : decode cX3_placeOfException 3 = .ok (.iload 4, 2) := by decide +kernel
theorem dX3_placeOfException_5 : decode cX3_placeOfException 5 = .ok (.aload_n 0, 1) := by decide +kernel
theorem dX3_placeOfException_6 : decode cX3_placeOfException 6 = .ok (.getfield 34, 3) := by decide +kernel
theorem dX3_placeOfException_9 : decode cX3_placeOfException 9 = .ok (.invokevirtual 62, 3) := by decide +kernel
theorem dX3_placeOfException_12 : decode cX3_placeOfException 12 = .ok (.if_icmp .ge 27, 3) := by decide +kernel
theorem dX3_placeOfException_15 : decode cX3_placeOfException 15 = .ok (.aload_n 0, 1) := by decide +kernel
theorem dX3_placeOfException_16 : decode cX3_placeOfException 16 = .ok (.getfield 34, 3) := by decide +kernel
theorem dX3_placeOfException_19 : decode cX3_placeOfException 19 = .ok (.iload 4, 2) := by decide +kernel
theorem dX3_placeOfException_21 : decode cX3_placeOfException 21 = .ok (.aload_n 1, 1) := by decide +kernel
theorem dX3_placeOfException_22 : decode cX3_placeOfException 22 = .ok (.iload_n 2, 1) := by decide +kernel
theorem dX3_placeOfException_23 : decode cX3_placeOfException 23 = .ok (.iload_n 3, 1) := by decide +kernel
theorem dX3_placeOfException_24 : decode cX3_placeOfException 24 = .ok (.invokevirtual 63, 3) := by decide +kernel
theorem dX3_placeOfException_27 : decode cX3_placeOfException 27 = .ok (.ifCond .eq 6, 3) := by decide +kernel
theorem dX3_placeOfException_30 : decode cX3_placeOfException 30 = .ok (.iload 4, 2) := by decide +kernel
theorem dX3_placeOfException_32 : decode cX3_placeOfException 32 = .ok (.ireturn, 1) := by decide +kernel
theorem dX3_placeOfException_33 : decode cX3_placeOfException 33 = .ok (.iinc 4 1, 3) := by decide +kernel
theorem dX3_placeOfException_36 : decode cX3_placeOfException 36 = .ok (.goto (-33), 3) := by decide +kernel
theorem dX3_placeOfException_39 : decode cX3_placeOfException 39 = .ok (.iconst (-1), 1) := by decide +kernel
theorem dX3_placeOfException_40 : decode cX3_placeOfException 40 = .ok (.ireturn, 1) := by decide +kernel
theorem dX3_isFullOfExceptions_0 : decode cX3_isFullOfExceptions 0 = .ok (.aload_n 0, 1) := by decide +kernel
theorem dX3_isFullOfExceptions_1 : decode cX3_isFullOfExceptions 1 = .ok (.getfield 34, 3) := by decide +kernel
theorem dX3_isFullOfExceptions_4 : decode cX3_isFullOfExceptions 4 = .ok (.invokevirtual 62, 3) := by decide +kernel
theorem dX3_isFullOfExceptions_7 : decode cX3_isFullOfExceptions 7 = .ok (.bipush 20, 2) := by decide +kernel
theorem dX3_isFullOfExceptions_9 : decode cX3_isFullOfExceptions 9 = .ok (.if_icmp .lt 7, 3) := by decide +kernel
theorem dX3_isFullOfExceptions_12 : decode cX3_isFullOfExceptions 12 = .ok (.iconst 1, 1) := by decide +kernel
theorem dX3_isFullOfExceptions_13 : decode cX3_isFullOfExceptions 13 = .ok (.goto 4, 3) := by decide +kernel
theorem dX3_isFullOfExceptions_16 : decode cX3_isFullOfExceptions 16 = .ok (.iconst 0, 1) := by decide +kernel
theorem dX3_isFullOfExceptions_17 : decode cX3_isFullOfExceptions 17 = .ok (.ireturn, 1) := by decide +kernel
theorem dX3_addException_0 : decode cX3_addException 0 = .ok (.iconst 0, 1) := by decide +kernel
theorem dX3_addException_1 : decode cX3_addException 1 = .ok (.istore_n 2, 1) := by decide +kernel
theorem dX3_addException_2 : decode cX3_addException 2 = .ok (.iload_n 2, 1) := by decide +kernel
theorem dX3_addException_3 : decode cX3_addException 3 = .ok (.aload_n 1, 1) := by decide +kernel
theorem dX3_addException_4 : decode cX3_addException 4 = .ok (.invokevirtual 42, 3) := by decide +kernel
theorem dX3_addException_7 : decode cX3_addException 7 = .ok (.if_icmp .ge 21, 3) := by decide +kernel
theorem dX3_addException_10 : decode cX3_addException 10 = .ok (.aload_n 0, 1) := by decide +kernel
theorem dX3_addException_11 : decode cX3_addException 11 = .ok (.getfield 34, 3) := by decide +kernel
theorem dX3_addException_14 : decode cX3_addException 14 = .ok (.aload_n 1, 1) := by decide +kernel
theorem dX3_addException_15 : decode cX3_addException 15 = .ok (.iload_n 2, 1) := by decide +kernel
theorem dX3_addException_16 : decode cX3_addException 16 = .ok (.invokevirtual 38, 3) := by decide +kernel
theorem dX3_addException_19 : decode cX3_addException 19 = .ok (.invokevirtual 67, 3) := by decide +kernel
theorem dX3_addException_22 : decode cX3_addException 22 = .ok (.iinc 2 1, 3) := by decide +kernel
theorem dX3_addException_25 : decode cX3_addException 25 = .ok (.goto (-23), 3) := by decide +kernel
theorem dX3_addException_28 : decode cX3_addException 28 = .ok (.aload_n 0, 1) := by decide +kernel
theorem dX3_addException_29 : decode cX3_addException 29 = .ok (.getfield 34, 3) := by decide +kernel
theorem dX3_addException_32 : decode cX3_addException 32 = .ok (.invokevirtual 70, 3) := by decide +kernel
theorem dX3_addException_35 : decode cX3_addException 35 = .ok (.return_, 1) := by decide +kernel
theorem dX3_dropException_0 : decode cX3_dropException 0 = .ok (.aload_n 0, 1) := by decide +kernel
theorem dX3_dropException_1 : decode cX3_dropException 1 = .ok (.getfield 34, 3) := by decide +kernel
theorem dX3_dropException_4 : decode cX3_dropException 4 = .ok (.iload_n 1, 1) := by decide +kernel
theorem dX3_dropException_5 : decode cX3_dropException 5 = .ok (.invokevirtual 73, 3) := by decide +kernel
theorem dX3_dropException_8 : decode cX3_dropException 8 = .ok (.return_, 1) := by decide +kernel
theorem dX3_translate_0 : decode cX3_translate 0 = .ok (.aload_n 0, 1) := by decide +kernel
theorem dX3_translate_1 : decode cX3_translate 1 = .ok (.aload_n 1, 1) := by decide +kernel
theorem dX3_translate_2 : decode cX3_translate 2 = .ok (.iload_n 2, 1) := by decide +kernel
theorem dX3_translate_3 : decode cX3_translate 3 = .ok (.iload_n 3, 1) := by decide +kernel
theorem dX3_translate_4 : decode cX3_translate 4 = .ok (.invokevirtual 76, 3) := by decide +kernel
theorem dX3_translate_7 : decode cX3_translate 7 = .ok (.iconst (-1), 1) := by decide +kernel
theorem dX3_translate_8 : decode cX3_translate 8 = .ok (.if_icmp .eq 7, 3) := by decide +kernel
theorem dX3_translate_11 : decode cX3_translate 11 = .ok (.iconst 1, 1) := by decide +kernel
theorem dX3_translate_12 : decode cX3_translate 12 = .ok (.goto 4, 3) := by decide +kernel
theorem dX3_translate_15 : decode cX3_translate 15 = .ok (.iconst 0, 1) := by decide +kernel
theorem dX3_translate_16 : decode cX3_translate 16 = .ok (.istore 6, 2) := by decide +kernel
theorem dX3_translate_18 : decode cX3_translate 18 = .ok (.iload 6, 2) := by decide +kernel
theorem dX3_translate_20 : decode cX3_translate 20 = .ok (.ifCond .eq 7, 3) := by decide +kernel
theorem dX3_translate_23 : decode cX3_translate 23 = .ok (.iconst 1, 1) := by decide +kernel
theorem dX3_translate_24 : decode cX3_translate 24 = .ok (.goto 4, 3) := by decide +kernel
theorem dX3_translate_27 : decode cX3_translate 27 = .ok (.iconst 4, 1) := by decide +kernel
theorem dX3_translate_28 : decode cX3_translate 28 = .ok (.istore 7, 2) := by decide +kernel
theorem dX3_translate_30 : decode cX3_translate 30 = .ok (.iload_n 2, 1) := by decide +kernel
theorem dX3_translate_31 : decode cX3_translate 31 = .ok (.istore 8, 2) := by decide +kernel
theorem dX3_translate_33 : decode cX3_translate 33 = .ok (.iload_n 2, 1) := by decide +kernel
theorem dX3_translate_34 : decode cX3_translate 34 = .ok (.istore 9, 2) := by decide +kernel
theorem dX3_translate_36 : decode cX3_translate 36 = .ok (.iload 9, 2) := by decide +kernel
theorem dX3_translate_38 : decode cX3_translate 38 = .ok (.iload_n 3, 1) := by decide +kernel
theorem dX3_translate_39 : decode cX3_translate 39 = .ok (.if_icmp .ge 45, 3) := by decide +kernel
theorem dX3_translate_42 : decode cX3_translate 42 = .ok (.iload 9, 2) := by decide +kernel
theorem dX3_translate_44 : decode cX3_translate 44 = .ok (.iload 8, 2) := by decide +kernel
theorem dX3_translate_46 : decode cX3_translate 46 = .ok (.if_icmp .ne 32, 3) := by decide +kernel
theorem dX3_translate_49 : decode cX3_translate 49 = .ok (.iload 7, 2) := by decide +kernel
theorem dX3_translate_51 : decode cX3_translate 51 = .ok (.iload_n 3, 1) := by decide +kernel
theorem dX3_translate_52 : decode cX3_translate 52 = .ok (.iload 9, 2) := by decide +kernel
theorem dX3_translate_54 : decode cX3_translate 54 = .ok (.isub, 1) := by decide +kernel
theorem dX3_translate_55 : decode cX3_translate 55 = .ok (.invokestatic 80, 3) := by decide +kernel
theorem dX3_translate_58 : decode cX3_translate 58 = .ok (.istore 10, 2) := by decide +kernel
theorem dX3_translate_60 : decode cX3_translate 60 = .ok (.iload 8, 2) := by decide +kernel
theorem dX3_translate_62 : decode cX3_translate 62 = .ok (.aload_n 0, 1) := by decide +kernel
theorem dX3_translate_63 : decode cX3_translate 63 = .ok (.aload_n 1, 1) := by decide +kernel
theorem dX3_translate_64 : decode cX3_translate 64 = .ok (.iload 9, 2) := by decide +kernel
theorem dX3_translate_66 : decode cX3_translate 66 = .ok (.iload 10, 2) := by decide +kernel
theorem dX3_translate_68 : decode cX3_translate 68 = .ok (.iload 4, 2) := by decide +kernel
theorem dX3_translate_70 : decode cX3_translate 70 = .ok (.aload 5, 2) := by decide +kernel
theorem dX3_translate_72 : decode cX3_translate 72 = .ok (.invokevirtual 86, 3) := by decide +kernel
theorem dX3_translate_75 : decode cX3_translate 75 = .ok (.iadd, 1) := by decide +kernel
theorem dX3_translate_76 : decode cX3_translate 76 = .ok (.istore 8, 2) := by decide +kernel
theorem dX3_translate_78 : decode cX3_translate 78 = .ok (.iinc 9 1, 3) := by decide +kernel
theorem dX3_translate_81 : decode cX3_translate 81 = .ok (.goto (-45), 3) := by decide +kernel
theorem dX3_translate_84 : decode cX3_translate 84 = .ok (.return_, 1) := by decide +kernel
theorem dX3_addCells_0 : decode cX3_addCells 0 = .ok (.iload_n 3, 1) := by decide +kernel
theorem dX3_addCells_1 : decode cX3_addCells 1 = .ok (.istore 6, 2) := by decide +kernel
theorem dX3_addCells_3 : decode cX3_addCells 3 = .ok (.iload 6, 2) := by decide +kernel
theorem dX3_addCells_5 : decode cX3_addCells 5 = .ok (.iconst 1, 1) := by decide +kernel
theorem dX3_addCells_6 : decode cX3_addCells 6 = .ok (.if_icmp .lt 88, 3) := by decide +kernel
theorem dX3_addCells_9 : decode cX3_addCells 9 = .ok (.aload_n 0, 1) := by decide +kernel
theorem dX3_addCells_10 : decode cX3_addCells 10 = .ok (.getfield 16, 3) := by decide +kernel
theorem dX3_addCells_13 : decode cX3_addCells 13 = .ok (.aload_n 1, 1) := by decide +kernel
theorem dX3_addCells_14 : decode cX3_addCells 14 = .ok (.iload_n 2, 1) := by decide +kernel
theorem dX3_addCells_15 : decode cX3_addCells 15 = .ok (.iload 6, 2) := by decide +kernel
theorem dX3_addCells_17 : decode cX3_addCells 17 = .ok (.invokestatic 90, 3) := by decide +kernel
theorem dX3_addCells_20 : decode cX3_addCells 20 = .ok (.invokevirtual 50, 3) := by decide +kernel
theorem dX3_addCells_23 : decode cX3_addCells 23 = .ok (.istore 7, 2) := by decide +kernel
theorem dX3_addCells_25 : decode cX3_addCells 25 = .ok (.iload 7, 2) := by decide +kernel
theorem dX3_addCells_27 : decode cX3_addCells 27 = .ok (.iconst (-1), 1) := by decide +kernel
theorem dX3_addCells_28 : decode cX3_addCells 28 = .ok (.if_icmp .eq 60, 3) := by decide +kernel
theorem dX3_addCells_31 : decode cX3_addCells 31 = .ok (.aload_n 0, 1) := by decide +kernel
theorem dX3_addCells_32 : decode cX3_addCells 32 = .ok (.getfield 20, 3) := by decide +kernel
theorem dX3_addCells_35 : decode cX3_addCells 35 = .ok (.iload 7, 2) := by decide +kernel
theorem dX3_addCells_37 : decode cX3_addCells 37 = .ok (.invokevirtual 38, 3) := by decide +kernel
theorem dX3_addCells_40 : decode cX3_addCells 40 = .ok (.iload 4, 2) := by decide +kernel
theorem dX3_addCells_42 : decode cX3_addCells 42 = .ok (.if_icmp .gt 46, 3) := by decide +kernel
theorem dX3_addCells_45 : decode cX3_addCells 45 = .ok (.aload 5, 2) := by decide +kernel
theorem dX3_addCells_47 : decode cX3_addCells 47 = .ok (.aload_n 0, 1) := by decide +kernel
theorem dX3_addCells_48 : decode cX3_addCells 48 = .ok (.getfield 23, 3) := by decide +kernel
theorem dX3_addCells_51 : decode cX3_addCells 51 = .ok (.iload 7, 2) := by decide +kernel
theorem dX3_addCells_53 : decode cX3_addCells 53 = .ok (.invokevirtual 38, 3) := by decide +kernel
theorem dX3_addCells_56 : decode cX3_addCells 56 = .ok (.invokevirtual 67, 3) := by decide +kernel
theorem dX3_addCells_59 : decode cX3_addCells 59 = .ok (.aload_n 0, 1) := by decide +kernel
theorem dX3_addCells_60 : decode cX3_addCells 60 = .ok (.getfield 26, 3) := by decide +kernel
theorem dX3_addCells_63 : decode cX3_addCells 63 = .ok (.iload 7, 2) := by decide +kernel
theorem dX3_addCells_65 : decode cX3_addCells 65 = .ok (.invokevirtual 38, 3) := by decide +kernel
theorem dX3_addCells_68 : decode cX3_addCells 68 = .ok (.ifCond .eq 17, 3) := by decide +kernel
theorem dX3_addCells_71 : decode cX3_addCells 71 = .ok (.aload 5, 2) := by decide +kernel
theorem dX3_addCells_73 : decode cX3_addCells 73 = .ok (.aload_n 0, 1) := by decide +kernel
theorem dX3_addCells_74 : decode cX3_addCells 74 = .ok (.getfield 26, 3) := by decide +kernel
theorem dX3_addCells_77 : decode cX3_addCells 77 = .ok (.iload 7, 2) := by decide +kernel
theorem dX3_addCells_79 : decode cX3_addCells 79 = .ok (.invokevirtual 38, 3) := by decide +kernel
theorem dX3_addCells_82 : decode cX3_addCells 82 = .ok (.invokevirtual 67, 3) := by decide +kernel
theorem dX3_addCells_85 : decode cX3_addCells 85 = .ok (.iload 6, 2) := by decide +kernel
theorem dX3_addCells_87 : decode cX3_addCells 87 = .ok (.ireturn, 1) := by decide +kernel
theorem dX3_addCells_88 : decode cX3_addCells 88 = .ok (.iinc 6 (-1), 3) := by decide +kernel
theorem dX3_addCells_91 : decode cX3_addCells 91 = .ok (.goto (-88), 3) := by decide +kernel
theorem dX3_addCells_94 : decode cX3_addCells 94 = .ok (.aload 5, 2) := by decide +kernel
theorem dX3_addCells_96 : decode cX3_addCells 96 = .ok (.bipush 63, 2) := by decide +kernel
theorem dX3_addCells_98 : decode cX3_addCells 98 = .ok (.invokevirtual 67, 3) := by decide +kernel
theorem dX3_addCells_101 : decode cX3_addCells 101 = .ok (.iconst 1, 1) := by decide +kernel
theorem dX3_addCells_102 : decode cX3_addCells 102 = .ok (.ireturn, 1) := by decide +kernel
end
section
theorem dX4_init_0 : decode cX4_init 0 = .ok (.aload_n 0, 1) := by decide +kernel
theorem dX4_init_1 : decode cX4_init 1 = .ok (.invokespecial 3, 3) := by decide +kernel
theorem dX4_init_4 : decode cX4_init 4 = .ok (.aload_n 0, 1) := by decide +kernel
theorem dX4_init_5 : decode cX4_init 5 = .ok (.new 9, 3) := by decide +kernel
theorem dX4_init_8 : decode cX4_init 8 = .ok (.dup, 1) := by decide +kernel
theorem dX4_init_9 : decode cX4_init 9 = .ok (.bipush 40, 2) := by decide +kernel
theorem dX4_init_11 : decode cX4_init 11 = .ok (.bipush 80, 2) := by decide +kernel
theorem dX4_init_13 : decode cX4_init 13 = .ok (.invokespecial 11, 3) := by decide +kernel
theorem dX4_init_16 : decode cX4_init 16 = .ok (.putfield 14, 3) := by decide +kernel
theorem dX4_init_19 : decode cX4_init 19 = .ok (.aload_n 0, 1) := by decide +kernel
theorem dX4_init_20 : decode cX4_init 20 = .ok (.new 9, 3) := by decide +kernel
theorem dX4_init_23 : decode cX4_init 23 = .ok (.dup, 1) := by decide +kernel
theorem dX4_init_24 : decode cX4_init 24 = .ok (.bipush 40, 2) := by decide +kernel
theorem dX4_init_26 : decode cX4_init 26 = .ok (.sipush 160, 3) := by decide +kernel
theorem dX4_init_29 : decode cX4_init 29 = .ok (.invokespecial 11, 3) := by decide +kernel
theorem dX4_init_32 : decode cX4_init 32 = .ok (.putfield 20, 3) := by decide +kernel
theorem dX4_init_35 : decode cX4_init 35 = .ok (.aload_n 0, 1) := by decide +kernel
theorem dX4_init_36 : decode cX4_init 36 = .ok (.new 23, 3) := by decide +kernel
theorem dX4_init_39 : decode cX4_init 39 = .ok (.dup, 1) := by decide +kernel
theorem dX4_init_40 : decode cX4_init 40 = .ok (.bipush 80, 2) := by decide +kernel
theorem dX4_init_42 : decode cX4_init 42 = .ok (.invokespecial 25, 3) := by decide +kernel
theorem dX4_init_45 : decode cX4_init 45 = .ok (.putfield 28, 3) := by decide +kernel
theorem dX4_init_48 : decode cX4_init 48 = .ok (.aload_n 0, 1) := by decide +kernel
theorem dX4_init_49 : decode cX4_init 49 = .ok (.new 9, 3) := by decide +kernel
theorem dX4_init_52 : decode cX4_init 52 = .ok (.dup, 1) := by decide +kernel
theorem dX4_init_53 : decode cX4_init 53 = .ok (.bipush 60, 2) := by decide +kernel
theorem dX4_init_55 : decode cX4_init 55 = .ok (.sipush 160, 3) := by decide +kernel
theorem dX4_init_58 : decode cX4_init 58 = .ok (.invokespecial 11, 3) := by decide +kernel
theorem dX4_init_61 : decode cX4_init 61 = .ok (.putfield 32, 3) := by decide +kernel
theorem dX4_init_64 : decode cX4_init 64 = .ok (.aload_n 0, 1) := by decide +kernel
theorem dX4_init_65 : decode cX4_init 65 = .ok (.new 23, 3) := by decide +kernel
theorem dX4_init_68 : decode cX4_init 68 = .ok (.dup, 1) := by decide +kernel
theorem dX4_init_69 : decode cX4_init 69 = .ok (.bipush 40, 2) := by decide +kernel
theorem dX4_init_71 : decode cX4_init 71 = .ok (.invokespecial 25, 3) := by decide +kernel
theorem dX4_init_74 : decode cX4_init 74 = .ok (.putfield 35, 3) := by decide +kernel
theorem dX4_init_77 : decode cX4_init 77 = .ok (.aload_n 0, 1) := by decide +kernel
theorem dX4_init_78 : decode cX4_init 78 = .ok (.new 9, 3) := by decide +kernel
theorem dX4_init_81 : decode cX4_init 81 = .ok (.dup, 1) := by decide +kernel
theorem dX4_init_82 : decode cX4_init 82 = .ok (.bipush 60, 2) := by decide +kernel
theorem dX4_init_84 : decode cX4_init 84 = .ok (.sipush 160, 3) := by decide +kernel
theorem dX4_init_87 : decode cX4_init 87 = .ok (.invokespecial 11, 3) := by decide +kernel
theorem dX4_init_90 : decode cX4_init 90 = .ok (.putfield 38, 3) := by decide +kernel
theorem dX4_init_93 : decode cX4_init 93 = .ok (.aload_n 0, 1) := by decide +kernel
theorem dX4_init_94 : decode cX4_init 94 = .ok (.iconst 1, 1) := by decide +kernel
theorem dX4_init_95 : decode cX4_init 95 = .ok (.putfield 41, 3) := by decide +kernel
theorem dX4_init_98 : decode cX4_init 98 = .ok (.return_, 1) := by decide +kernel
theorem dX4_take_0 : decode cX4_take 0 = .ok (.aload_n 0, 1) := by decide +kernel
theorem dX4_take_1 : decode cX4_take 1 = .ok (.iload_n 2, 1) := by decide +kernel
theorem dX4_take_2 : decode cX4_take 2 = .ok (.putfield 41, 3) := by decide +kernel
theorem dX4_take_5 : decode cX4_take 5 = .ok (.aload_n 0, 1) := by decide +kernel
theorem dX4_take_6 : decode cX4_take 6 = .ok (.getfield 14, 3) := by decide +kernel
theorem dX4_take_9 : decode cX4_take 9 = .ok (.invokevirtual 45, 3) := by decide +kernel
theorem dX4_take_12 : decode cX4_take 12 = .ok (.iconst 0, 1) := by decide +kernel
theorem dX4_take_13 : decode cX4_take 13 = .ok (.istore_n 3, 1) := by decide +kernel
theorem dX4_take_14 : decode cX4_take 14 = .ok (.iload_n 3, 1) := by decide +kernel
theorem dX4_take_15 : decode cX4_take 15 = .ok (.aload_n 1, 1) := by decide +kernel
theorem dX4_take_16 : decode cX4_take 16 = .ok (.invokevirtual 48, 3) := by decide +kernel
theorem dX4_take_19 : decode cX4_take 19 = .ok (.if_icmp .ge 41, 3) := by decide +kernel
theorem dX4_take_22 : decode cX4_take 22 = .ok (.aload_n 1, 1) := by decide +kernel
theorem dX4_take_23 : decode cX4_take 23 = .ok (.iload_n 3, 1) := by decide +kernel
theorem dX4_take_24 : decode cX4_take 24 = .ok (.invokevirtual 52, 3) := by decide +kernel
theorem dX4_take_27 : decode cX4_take 27 = .ok (.bipush 32, 2) := by decide +kernel
theorem dX4_take_29 : decode cX4_take 29 = .ok (.if_icmp .ne 13, 3) := by decide +kernel
theorem dX4_take_32 : decode cX4_take 32 = .ok (.aload_n 0, 1) := by decide +kernel
theorem dX4_take_33 : decode cX4_take 33 = .ok (.getfield 14, 3) := by decide +kernel
theorem dX4_take_36 : decode cX4_take 36 = .ok (.invokevirtual 56, 3) := by decide +kernel
theorem dX4_take_39 : decode cX4_take 39 = .ok (.goto 15, 3) := by decide +kernel
theorem dX4_take_42 : decode cX4_take 42 = .ok (.aload_n 0, 1) := by decide +kernel
theorem dX4_take_43 : decode cX4_take 43 = .ok (.getfield 14, 3) := by decide +kernel
theorem dX4_take_46 : decode cX4_take 46 = .ok (.aload_n 1, 1) := by decide +kernel
theorem dX4_take_47 : decode cX4_take 47 = .ok (.iload_n 3, 1) := by decide +kernel
theorem dX4_take_48 : decode cX4_take 48 = .ok (.invokevirtual 52, 3) := by decide +kernel
theorem dX4_take_51 : decode cX4_take 51 = .ok (.invokevirtual 59, 3) := by decide +kernel
theorem dX4_take_54 : decode cX4_take 54 = .ok (.iinc 3 1, 3) := by decide +kernel
theorem dX4_take_57 : decode cX4_take 57 = .ok (.goto (-43), 3) := by decide +kernel
theorem dX4_take_60 : decode cX4_take 60 = .ok (.aload_n 0, 1) := by decide +kernel
theorem dX4_take_61 : decode cX4_take 61 = .ok (.getfield 14, 3) := by decide +kernel
theorem dX4_take_64 : decode cX4_take 64 = .ok (.invokevirtual 56, 3) := by decide +kernel
theorem dX4_take_67 : decode cX4_take 67 = .ok (.aload_n 0, 1) := by decide +kernel
theorem dX4_take_68 : decode cX4_take 68 = .ok (.getfield 28, 3) := by decide +kernel
theorem dX4_take_71 : decode cX4_take 71 = .ok (.invokevirtual 62, 3) := by decide +kernel
theorem dX4_take_74 : decode cX4_take 74 = .ok (.iconst 0, 1) := by decide +kernel
theorem dX4_take_75 : decode cX4_take 75 = .ok (.istore_n 3, 1) := by decide +kernel
theorem dX4_take_76 : decode cX4_take 76 = .ok (.iload_n 3, 1) := by decide +kernel
theorem dX4_take_77 : decode cX4_take 77 = .ok (.iconst 2, 1) := by decide +kernel
theorem dX4_take_78 : decode cX4_take 78 = .ok (.aload_n 0, 1) := by decide +kernel
theorem dX4_take_79 : decode cX4_take 79 = .ok (.getfield 14, 3) := by decide +kernel
theorem dX4_take_82 : decode cX4_take 82 = .ok (.invokevirtual 63, 3) := by decide +kernel
theorem dX4_take_85 : decode cX4_take 85 = .ok (.imul, 1) := by decide +kernel
theorem dX4_take_86 : decode cX4_take 86 = .ok (.if_icmp .ge 18, 3) := by decide +kernel
theorem dX4_take_89 : decode cX4_take 89 = .ok (.aload_n 0, 1) := by decide +kernel
theorem dX4_take_90 : decode cX4_take 90 = .ok (.getfield 28, 3) := by decide +kernel
theorem dX4_take_93 : decode cX4_take 93 = .ok (.bipush 45, 2) := by decide +kernel
theorem dX4_take_95 : decode cX4_take 95 = .ok (.invokevirtual 64, 3) := by decide +kernel
theorem dX4_take_98 : decode cX4_take 98 = .ok (.iinc 3 1, 3) := by decide +kernel
theorem dX4_take_101 : decode cX4_take 101 = .ok (.goto (-25), 3) := by decide +kernel
theorem dX4_take_104 : decode cX4_take 104 = .ok (.return_, 1) := by decide +kernel
theorem dX4_translate_0 : decode cX4_translate 0 = .ok (.iconst 0, 1) := by decide +kernel
theorem dX4_translate_1 : decode cX4_translate 1 = .ok (.istore_n 3, 1) := by decide +kernel
theorem dX4_translate_2 : decode cX4_translate 2 = .ok (.aload_n 2, 1) := by decide +kernel
theorem dX4_translate_3 : decode cX4_translate 3 = .ok (.invokevirtual 45, 3) := by decide +kernel
theorem dX4_translate_6 : decode cX4_translate 6 = .ok (.iconst 0, 1) := by decide +kernel
theorem dX4_translate_7 : decode cX4_translate 7 = .ok (.istore 4, 2) := by decide +kernel
theorem dX4_translate_9 : decode cX4_translate 9 = .ok (.iload 4, 2) := by decide +kernel
theorem dX4_translate_11 : decode cX4_translate 11 = .ok (.aload_n 0, 1) := by decide +kernel
theorem dX4_translate_12 : decode cX4_translate 12 = .ok (.getfield 14, 3) := by decide +kernel
theorem dX4_translate_15 : decode cX4_translate 15 = .ok (.invokevirtual 63, 3) := by decide +kernel
theorem dX4_translate_18 : decode cX4_translate 18 = .ok (.if_icmp .ge 68, 3) := by decide +kernel
theorem dX4_translate_21 : decode cX4_translate 21 = .ok (.aload_n 1, 1) := by decide +kernel
theorem dX4_translate_22 : decode cX4_translate 22 = .ok (.aload_n 0, 1) := by decide +kernel
theorem dX4_translate_23 : decode cX4_translate 23 = .ok (.getfield 14, 3) := by decide +kernel
theorem dX4_translate_26 : decode cX4_translate 26 = .ok (.invokevirtual 65, 3) := by decide +kernel
theorem dX4_translate_29 : decode cX4_translate 29 = .ok (.aload_n 0, 1) := by decide +kernel
theorem dX4_translate_30 : decode cX4_translate 30 = .ok (.getfield 14, 3) := by decide +kernel
theorem dX4_translate_33 : decode cX4_translate 33 = .ok (.iload 4, 2) := by decide +kernel
theorem dX4_translate_35 : decode cX4_translate 35 = .ok (.invokevirtual 69, 3) := by decide +kernel
theorem dX4_translate_38 : decode cX4_translate 38 = .ok (.aload_n 0, 1) := by decide +kernel
theorem dX4_translate_39 : decode cX4_translate 39 = .ok (.getfield 14, 3) := by decide +kernel
theorem dX4_translate_42 : decode cX4_translate 42 = .ok (.iload 4, 2) := by decide +kernel
theorem dX4_translate_44 : decode cX4_translate 44 = .ok (.invokevirtual 72, 3) := by decide +kernel
theorem dX4_translate_47 : decode cX4_translate 47 = .ok (.aload_n 0, 1) := by decide +kernel
theorem dX4_translate_48 : decode cX4_translate 48 = .ok (.getfield 41, 3) := by decide +kernel
theorem dX4_translate_51 : decode cX4_translate 51 = .ok (.aload_n 2, 1) := by decide +kernel
theorem dX4_translate_52 : decode cX4_translate 52 = .ok (.invokevirtual 75, 3) := by decide +kernel
theorem dX4_translate_55 : decode cX4_translate 55 = .ok (.aload_n 2, 1) := by decide +kernel
theorem dX4_translate_56 : decode cX4_translate 56 = .ok (.invokevirtual 56, 3) := by decide +kernel
theorem dX4_translate_59 : decode cX4_translate 59 = .ok (.aload_n 2, 1) := by decide +kernel
theorem dX4_translate_60 : decode cX4_translate 60 = .ok (.iload 4, 2) := by decide +kernel
theorem dX4_translate_62 : decode cX4_translate 62 = .ok (.aload_n 0, 1) := by decide +kernel
theorem dX4_translate_63 : decode cX4_translate 63 = .ok (.getfield 20, 3) := by decide +kernel
theorem dX4_translate_66 : decode cX4_translate 66 = .ok (.invokevirtual 81, 3) := by decide +kernel
theorem dX4_translate_69 : decode cX4_translate 69 = .ok (.ifCond .ne 11, 3) := by decide +kernel
theorem dX4_translate_72 : decode cX4_translate 72 = .ok (.iconst 1, 1) := by decide +kernel
theorem dX4_translate_73 : decode cX4_translate 73 = .ok (.istore_n 3, 1) := by decide +kernel
theorem dX4_translate_74 : decode cX4_translate 74 = .ok (.aload_n 0, 1) := by decide +kernel
theorem dX4_translate_75 : decode cX4_translate 75 = .ok (.iload 4, 2) := by decide +kernel
theorem dX4_translate_77 : decode cX4_translate 77 = .ok (.invokevirtual 85, 3) := by decide +kernel
theorem dX4_translate_80 : decode cX4_translate 80 = .ok (.iinc 4 1, 3) := by decide +kernel
theorem dX4_translate_83 : decode cX4_translate 83 = .ok (.goto (-74), 3) := by decide +kernel
theorem dX4_translate_86 : decode cX4_translate 86 = .ok (.aload_n 0, 1) := by decide +kernel
theorem dX4_translate_87 : decode cX4_translate 87 = .ok (.getfield 20, 3) := by decide +kernel
theorem dX4_translate_90 : decode cX4_translate 90 = .ok (.aload_n 2, 1) := by decide +kernel
theorem dX4_translate_91 : decode cX4_translate 91 = .ok (.invokevirtual 88, 3) := by decide +kernel
theorem dX4_translate_94 : decode cX4_translate 94 = .ok (.iload_n 3, 1) := by decide +kernel
theorem dX4_translate_95 : decode cX4_translate 95 = .ok (.ireturn, 1) := by decide +kernel
theorem dX4_lay_0 : decode cX4_lay 0 = .ok (.aload_n 0, 1) := by decide +kernel
theorem dX4_lay_1 : decode cX4_lay 1 = .ok (.getfield 32, 3) := by decide +kernel
theorem dX4_lay_4 : decode cX4_lay 4 = .ok (.invokevirtual 45, 3) := by decide +kernel
theorem dX4_lay_7 : decode cX4_lay 7 = .ok (.aload_n 0, 1) := by decide +kernel
theorem dX4_lay_8 : decode cX4_lay 8 = .ok (.getfield 35, 3) := by decide +kernel
theorem dX4_lay_11 : decode cX4_lay 11 = .ok (.invokevirtual 62, 3) := by decide +kernel
theorem dX4_lay_14 : decode cX4_lay 14 = .ok (.iconst 0, 1) := by decide +kernel
theorem dX4_lay_15 : decode cX4_lay 15 = .ok (.istore_n 2, 1) := by decide +kernel
theorem dX4_lay_16 : decode cX4_lay 16 = .ok (.iload_n 2, 1) := by decide +kernel
theorem dX4_lay_17 : decode cX4_lay 17 = .ok (.aload_n 0, 1) := by decide +kernel
theorem dX4_lay_18 : decode cX4_lay 18 = .ok (.getfield 20, 3) := by decide +kernel
theorem dX4_lay_21 : decode cX4_lay 21 = .ok (.invokevirtual 63, 3) := by decide +kernel
theorem dX4_lay_24 : decode cX4_lay 24 = .ok (.if_icmp .ge 90, 3) := by decide +kernel
theorem dX4_lay_27 : decode cX4_lay 27 = .ok (.aload_n 0, 1) := by decide +kernel
theorem dX4_lay_28 : decode cX4_lay 28 = .ok (.aload_n 0, 1) := by decide +kernel
theorem dX4_lay_29 : decode cX4_lay 29 = .ok (.getfield 20, 3) := by decide +kernel
theorem dX4_lay_32 : decode cX4_lay 32 = .ok (.iload_n 2, 1) := by decide +kernel
theorem dX4_lay_33 : decode cX4_lay 33 = .ok (.invokevirtual 92, 3) := by decide +kernel
theorem dX4_lay_36 : decode cX4_lay 36 = .ok (.iload_n 1, 1) := by decide +kernel
theorem dX4_lay_37 : decode cX4_lay 37 = .ok (.invokevirtual 95, 3) := by decide +kernel
theorem dX4_lay_40 : decode cX4_lay 40 = .ok (.aload_n 0, 1) := by decide +kernel
theorem dX4_lay_41 : decode cX4_lay 41 = .ok (.getfield 35, 3) := by decide +kernel
theorem dX4_lay_44 : decode cX4_lay 44 = .ok (.aload_n 0, 1) := by decide +kernel
theorem dX4_lay_45 : decode cX4_lay 45 = .ok (.getfield 32, 3) := by decide +kernel
theorem dX4_lay_48 : decode cX4_lay 48 = .ok (.invokevirtual 63, 3) := by decide +kernel
theorem dX4_lay_51 : decode cX4_lay 51 = .ok (.invokevirtual 64, 3) := by decide +kernel
theorem dX4_lay_54 : decode cX4_lay 54 = .ok (.iconst 0, 1) := by decide +kernel
theorem dX4_lay_55 : decode cX4_lay 55 = .ok (.istore_n 3, 1) := by decide +kernel
theorem dX4_lay_56 : decode cX4_lay 56 = .ok (.iload_n 3, 1) := by decide +kernel
theorem dX4_lay_57 : decode cX4_lay 57 = .ok (.aload_n 0, 1) := by decide +kernel
theorem dX4_lay_58 : decode cX4_lay 58 = .ok (.getfield 20, 3) := by decide +kernel
theorem dX4_lay_61 : decode cX4_lay 61 = .ok (.iload_n 2, 1) := by decide +kernel
theorem dX4_lay_62 : decode cX4_lay 62 = .ok (.invokevirtual 92, 3) := by decide +kernel
theorem dX4_lay_65 : decode cX4_lay 65 = .ok (.if_icmp .ge 43, 3) := by decide +kernel
theorem dX4_lay_68 : decode cX4_lay 68 = .ok (.aload_n 0, 1) := by decide +kernel
theorem dX4_lay_69 : decode cX4_lay 69 = .ok (.getfield 32, 3) := by decide +kernel
theorem dX4_lay_72 : decode cX4_lay 72 = .ok (.invokevirtual 98, 3) := by decide +kernel
theorem dX4_lay_75 : decode cX4_lay 75 = .ok (.iload_n 1, 1) := by decide +kernel
theorem dX4_lay_76 : decode cX4_lay 76 = .ok (.if_icmp .lt 10, 3) := by decide +kernel
theorem dX4_lay_79 : decode cX4_lay 79 = .ok (.aload_n 0, 1) := by decide +kernel
theorem dX4_lay_80 : decode cX4_lay 80 = .ok (.getfield 32, 3) := by decide +kernel
theorem dX4_lay_83 : decode cX4_lay 83 = .ok (.invokevirtual 56, 3) := by decide +kernel
theorem dX4_lay_86 : decode cX4_lay 86 = .ok (.aload_n 0, 1) := by decide +kernel
theorem dX4_lay_87 : decode cX4_lay 87 = .ok (.getfield 32, 3) := by decide +kernel
theorem dX4_lay_90 : decode cX4_lay 90 = .ok (.aload_n 0, 1) := by decide +kernel
theorem dX4_lay_91 : decode cX4_lay 91 = .ok (.getfield 20, 3) := by decide +kernel
theorem dX4_lay_94 : decode cX4_lay 94 = .ok (.iload_n 2, 1) := by decide +kernel
theorem dX4_lay_95 : decode cX4_lay 95 = .ok (.iload_n 3, 1) := by decide +kernel
theorem dX4_lay_96 : decode cX4_lay 96 = .ok (.invokevirtual 101, 3) := by decide +kernel
theorem dX4_lay_99 : decode cX4_lay 99 = .ok (.invokevirtual 59, 3) := by decide +kernel
theorem dX4_lay_102 : decode cX4_lay 102 = .ok (.iinc 3 1, 3) := by decide +kernel
theorem dX4_lay_105 : decode cX4_lay 105 = .ok (.goto (-49), 3) := by decide +kernel
theorem dX4_lay_108 : decode cX4_lay 108 = .ok (.iinc 2 1, 3) := by decide +kernel
theorem dX4_lay_111 : decode cX4_lay 111 = .ok (.goto (-95), 3) := by decide +kernel
theorem dX4_lay_114 : decode cX4_lay 114 = .ok (.aload_n 0, 1) := by decide +kernel
theorem dX4_lay_115 : decode cX4_lay 115 = .ok (.getfield 32, 3) := by decide +kernel
theorem dX4_lay_118 : decode cX4_lay 118 = .ok (.invokevirtual 56, 3) := by decide +kernel
theorem dX4_lay_121 : decode cX4_lay 121 = .ok (.return_, 1) := by decide +kernel
theorem dX4_beginWord_0 : decode cX4_beginWord 0 = .ok (.aload_n 0, 1) := by decide +kernel
theorem dX4_beginWord_1 : decode cX4_beginWord 1 = .ok (.getfield 32, 3) := by decide +kernel
theorem dX4_beginWord_4 : decode cX4_beginWord 4 = .ok (.invokevirtual 98, 3) := by decide +kernel
theorem dX4_beginWord_7 : decode cX4_beginWord 7 = .ok (.istore_n 3, 1) := by decide +kernel
theorem dX4_beginWord_8 : decode cX4_beginWord 8 = .ok (.iload_n 3, 1) := by decide +kernel
theorem dX4_beginWord_9 : decode cX4_beginWord 9 = .ok (.ifCond .le 23, 3) := by decide +kernel
theorem dX4_beginWord_12 : decode cX4_beginWord 12 = .ok (.iload_n 3, 1) := by decide +kernel
theorem dX4_beginWord_13 : decode cX4_beginWord 13 = .ok (.iconst 1, 1) := by decide +kernel
theorem dX4_beginWord_14 : decode cX4_beginWord 14 = .ok (.iadd, 1) := by decide +kernel
theorem dX4_beginWord_15 : decode cX4_beginWord 15 = .ok (.iload_n 1, 1) := by decide +kernel
theorem dX4_beginWord_16 : decode cX4_beginWord 16 = .ok (.iadd, 1) := by decide +kernel
theorem dX4_beginWord_17 : decode cX4_beginWord 17 = .ok (.iload_n 2, 1) := by decide +kernel
theorem dX4_beginWord_18 : decode cX4_beginWord 18 = .ok (.if_icmp .gt 14, 3) := by decide +kernel
theorem dX4_beginWord_21 : decode cX4_beginWord 21 = .ok (.aload_n 0, 1) := by decide +kernel
theorem dX4_beginWord_22 : decode cX4_beginWord 22 = .ok (.getfield 32, 3) := by decide +kernel
theorem dX4_beginWord_25 : decode cX4_beginWord 25 = .ok (.iconst 0, 1) := by decide +kernel
theorem dX4_beginWord_26 : decode cX4_beginWord 26 = .ok (.invokevirtual 59, 3) := by decide +kernel
theorem dX4_beginWord_29 : decode cX4_beginWord 29 = .ok (.goto 10, 3) := by decide +kernel
theorem dX4_beginWord_32 : decode cX4_beginWord 32 = .ok (.aload_n 0, 1) := by decide +kernel
theorem dX4_beginWord_33 : decode cX4_beginWord 33 = .ok (.getfield 32, 3) := by decide +kernel
theorem dX4_beginWord_36 : decode cX4_beginWord 36 = .ok (.invokevirtual 56, 3) := by decide +kernel
theorem dX4_beginWord_39 : decode cX4_beginWord 39 = .ok (.return_, 1) := by decide +kernel
theorem dX4_wordCount_0 : decode cX4_wordCount 0 = .ok (.aload_n 0, 1) := by decide +kernel
theorem dX4_wordCount_1 : decode cX4_wordCount 1 = .ok (.getfield 14, 3) := by decide +kernel
theorem dX4_wordCount_4 : decode cX4_wordCount 4 = .ok (.invokevirtual 63, 3) := by decide +kernel
theorem dX4_wordCount_7 : decode cX4_wordCount 7 = .ok (.ireturn, 1) := by decide +kernel
theorem dX4_cellCount_0 : decode cX4_cellCount 0 = .ok (.aload_n 0, 1) := by decide +kernel
theorem dX4_cellCount_1 : decode cX4_cellCount 1 = .ok (.getfield 20, 3) := by decide +kernel
theorem dX4_cellCount_4 : decode cX4_cellCount 4 = .ok (.iload_n 1, 1) := by decide +kernel
theorem dX4_cellCount_5 : decode cX4_cellCount 5 = .ok (.invokevirtual 92, 3) := by decide +kernel
theorem dX4_cellCount_8 : decode cX4_cellCount 8 = .ok (.ireturn, 1) := by decide +kernel
theorem dX4_cellAt_0 : decode cX4_cellAt 0 = .ok (.aload_n 0, 1) := by decide +kernel
theorem dX4_cellAt_1 : decode cX4_cellAt 1 = .ok (.getfield 20, 3) := by decide +kernel
theorem dX4_cellAt_4 : decode cX4_cellAt 4 = .ok (.iload_n 1, 1) := by decide +kernel
theorem dX4_cellAt_5 : decode cX4_cellAt 5 = .ok (.iload_n 2, 1) := by decide +kernel
theorem dX4_cellAt_6 : decode cX4_cellAt 6 = .ok (.invokevirtual 101, 3) := by decide +kernel
theorem dX4_cellAt_9 : decode cX4_cellAt 9 = .ok (.ireturn, 1) := by decide +kernel
theorem dX4_lineCount_0 : decode cX4_lineCount 0 = .ok (.aload_n 0, 1) := by decide +kernel
theorem dX4_lineCount_1 : decode cX4_lineCount 1 = .ok (.getfield 32, 3) := by decide +kernel
theorem dX4_lineCount_4 : decode cX4_lineCount 4 = .ok (.invokevirtual 63, 3) := by decide +kernel
theorem dX4_lineCount_7 : decode cX4_lineCount 7 = .ok (.ireturn, 1) := by decide +kernel
theorem dX4_lineSize_0 : decode cX4_lineSize 0 = .ok (.aload_n 0, 1) := by decide +kernel
theorem dX4_lineSize_1 : decode cX4_lineSize 1 = .ok (.getfield 32, 3) := by decide +kernel
theorem dX4_lineSize_4 : decode cX4_lineSize 4 = .ok (.iload_n 1, 1) := by decide +kernel
theorem dX4_lineSize_5 : decode cX4_lineSize 5 = .ok (.invokevirtual 92, 3) := by decide +kernel
theorem dX4_lineSize_8 : decode cX4_lineSize 8 = .ok (.ireturn, 1) := by decide +kernel
theorem dX4_laidCellAt_0 : decode cX4_laidCellAt 0 = .ok (.aload_n 0, 1) := by decide +kernel
theorem dX4_laidCellAt_1 : decode cX4_laidCellAt 1 = .ok (.getfield 32, 3) := by decide +kernel
theorem dX4_laidCellAt_4 : decode cX4_laidCellAt 4 = .ok (.iload_n 1, 1) := by decide +kernel
theorem dX4_laidCellAt_5 : decode cX4_laidCellAt 5 = .ok (.iload_n 2, 1) := by decide +kernel
theorem dX4_laidCellAt_6 : decode cX4_laidCellAt 6 = .ok (.invokevirtual 101, 3) := by decide +kernel
theorem dX4_laidCellAt_9 : decode cX4_laidCellAt 9 = .ok (.ireturn, 1) := by decide +kernel
theorem dX4_firstLineOf_0 : decode cX4_firstLineOf 0 = .ok (.aload_n 0, 1) := by decide +kernel
theorem dX4_firstLineOf_1 : decode cX4_firstLineOf 1 = .ok (.getfield 35, 3) := by decide +kernel
theorem dX4_firstLineOf_4 : decode cX4_firstLineOf 4 = .ok (.iload_n 1, 1) := by decide +kernel
theorem dX4_firstLineOf_5 : decode cX4_firstLineOf 5 = .ok (.invokevirtual 52, 3) := by decide +kernel
theorem dX4_firstLineOf_8 : decode cX4_firstLineOf 8 = .ok (.ireturn, 1) := by decide +kernel
theorem dX4_isOther_0 : decode cX4_isOther 0 = .ok (.aload_n 0, 1) := by decide +kernel
theorem dX4_isOther_1 : decode cX4_isOther 1 = .ok (.getfield 32, 3) := by decide +kernel
theorem dX4_isOther_4 : decode cX4_isOther 4 = .ok (.iload_n 1, 1) := by decide +kernel
theorem dX4_isOther_5 : decode cX4_isOther 5 = .ok (.aload_n 0, 1) := by decide +kernel
theorem dX4_isOther_6 : decode cX4_isOther 6 = .ok (.getfield 38, 3) := by decide +kernel
theorem dX4_isOther_9 : decode cX4_isOther 9 = .ok (.invokevirtual 81, 3) := by decide +kernel
theorem dX4_isOther_12 : decode cX4_isOther 12 = .ok (.ifCond .ne 7, 3) := by decide +kernel
theorem dX4_isOther_15 : decode cX4_isOther 15 = .ok (.iconst 1, 1) := by decide +kernel
theorem dX4_isOther_16 : decode cX4_isOther 16 = .ok (.goto 4, 3) := by decide +kernel
theorem dX4_isOther_19 : decode cX4_isOther 19 = .ok (.iconst 0, 1) := by decide +kernel
theorem dX4_isOther_20 : decode cX4_isOther 20 = .ok (.ireturn, 1) := by decide +kernel
theorem dX4_otherLineCount_0 : decode cX4_otherLineCount 0 = .ok (.iconst 0, 1) := by decide +kernel
theorem dX4_otherLineCount_1 : decode cX4_otherLineCount 1 = .ok (.istore_n 1, 1) := by decide +kernel
theorem dX4_otherLineCount_2 : decode cX4_otherLineCount 2 = .ok (.iconst 0, 1) := by decide +kernel
theorem dX4_otherLineCount_3 : decode cX4_otherLineCount 3 = .ok (.istore_n 2, 1) := by decide +kernel
theorem dX4_otherLineCount_4 : decode cX4_otherLineCount 4 = .ok (.iload_n 2, 1) := by decide +kernel
theorem dX4_otherLineCount_5 : decode cX4_otherLineCount 5 = .ok (.aload_n 0, 1) := by decide +kernel
theorem dX4_otherLineCount_6 : decode cX4_otherLineCount 6 = .ok (.getfield 32, 3) := by decide +kernel
theorem dX4_otherLineCount_9 : decode cX4_otherLineCount 9 = .ok (.invokevirtual 63, 3) := by decide +kernel
theorem dX4_otherLineCount_12 : decode cX4_otherLineCount 12 = .ok (.aload_n 0, 1) := by decide +kernel
theorem dX4_otherLineCount_13 : decode cX4_otherLineCount 13 = .ok (.getfield 38, 3) := by decide +kernel
theorem dX4_otherLineCount_16 : decode cX4_otherLineCount 16 = .ok (.invokevirtual 63, 3) := by decide +kernel
theorem dX4_otherLineCount_19 : decode cX4_otherLineCount 19 = .ok (.invokestatic 104, 3) := by decide +kernel
theorem dX4_otherLineCount_22 : decode cX4_otherLineCount 22 = .ok (.if_icmp .ge 25, 3) := by decide +kernel
theorem dX4_otherLineCount_25 : decode cX4_otherLineCount 25 = .ok (.iload_n 1, 1) := by decide +kernel
theorem dX4_otherLineCount_26 : decode cX4_otherLineCount 26 = .ok (.aload_n 0, 1) := by decide +kernel
theorem dX4_otherLineCount_27 : decode cX4_otherLineCount 27 = .ok (.iload_n 2, 1) := by decide +kernel
theorem dX4_otherLineCount_28 : decode cX4_otherLineCount 28 = .ok (.invokevirtual 109, 3) := by decide +kernel
theorem dX4_otherLineCount_31 : decode cX4_otherLineCount 31 = .ok (.ifCond .eq 7, 3) := by decide +kernel
theorem dX4_otherLineCount_34 : decode cX4_otherLineCount 34 = .ok (.iconst 1, 1) := by decide +kernel
theorem dX4_otherLineCount_35 : decode cX4_otherLineCount 35 = .ok (.goto 4, 3) := by decide +kernel
theorem dX4_otherLineCount_38 : decode cX4_otherLineCount 38 = .ok (.iconst 0, 1) := by decide +kernel
theorem dX4_otherLineCount_39 : decode cX4_otherLineCount 39 = .ok (.iadd, 1) := by decide +kernel
theorem dX4_otherLineCount_40 : decode cX4_otherLineCount 40 = .ok (.istore_n 1, 1) := by decide +kernel
theorem dX4_otherLineCount_41 : decode cX4_otherLineCount 41 = .ok (.iinc 2 1, 3) := by decide +kernel
theorem dX4_otherLineCount_44 : decode cX4_otherLineCount 44 = .ok (.goto (-40), 3) := by decide +kernel
theorem dX4_otherLineCount_47 : decode cX4_otherLineCount 47 = .ok (.iload_n 1, 1) := by decide +kernel
theorem dX4_otherLineCount_48 : decode cX4_otherLineCount 48 = .ok (.ireturn, 1) := by decide +kernel
theorem dX4_keepAsEmbossed_0 : decode cX4_keepAsEmbossed 0 = .ok (.aload_n 0, 1) := by decide +kernel
theorem dX4_keepAsEmbossed_1 : decode cX4_keepAsEmbossed 1 = .ok (.getfield 38, 3) := by decide +kernel
theorem dX4_keepAsEmbossed_4 : decode cX4_keepAsEmbossed 4 = .ok (.aload_n 0, 1) := by decide +kernel
theorem dX4_keepAsEmbossed_5 : decode cX4_keepAsEmbossed 5 = .ok (.getfield 32, 3) := by decide +kernel
theorem dX4_keepAsEmbossed_8 : decode cX4_keepAsEmbossed 8 = .ok (.invokevirtual 88, 3) := by decide +kernel
theorem dX4_keepAsEmbossed_11 : decode cX4_keepAsEmbossed 11 = .ok (.return_, 1) := by decide +kernel
theorem dX4_putMark_0 : decode cX4_putMark 0 = .ok (.aload_n 0, 1) := by decide +kernel
theorem dX4_putMark_1 : decode cX4_putMark 1 = .ok (.getfield 28, 3) := by decide +kernel
theorem dX4_putMark_4 : decode cX4_putMark 4 = .ok (.iconst 2, 1) := by decide +kernel
theorem dX4_putMark_5 : decode cX4_putMark 5 = .ok (.iload_n 2, 1) := by decide +kernel
theorem dX4_putMark_6 : decode cX4_putMark 6 = .ok (.imul, 1) := by decide +kernel
theorem dX4_putMark_7 : decode cX4_putMark 7 = .ok (.iload_n 1, 1) := by decide +kernel
theorem dX4_putMark_8 : decode cX4_putMark 8 = .ok (.iadd, 1) := by decide +kernel
theorem dX4_putMark_9 : decode cX4_putMark 9 = .ok (.iload_n 3, 1) := by decide +kernel
theorem dX4_putMark_10 : decode cX4_putMark 10 = .ok (.invokevirtual 113, 3) := by decide +kernel
theorem dX4_putMark_13 : decode cX4_putMark 13 = .ok (.return_, 1) := by decide +kernel
theorem dX4_markBy_0 : decode cX4_markBy 0 = .ok (.aload_n 0, 1) := by decide +kernel
theorem dX4_markBy_1 : decode cX4_markBy 1 = .ok (.getfield 28, 3) := by decide +kernel
theorem dX4_markBy_4 : decode cX4_markBy 4 = .ok (.iconst 2, 1) := by decide +kernel
theorem dX4_markBy_5 : decode cX4_markBy 5 = .ok (.iload_n 2, 1) := by decide +kernel
theorem dX4_markBy_6 : decode cX4_markBy 6 = .ok (.imul, 1) := by decide +kernel
theorem dX4_markBy_7 : decode cX4_markBy 7 = .ok (.iload_n 1, 1) := by decide +kernel
theorem dX4_markBy_8 : decode cX4_markBy 8 = .ok (.iadd, 1) := by decide +kernel
theorem dX4_markBy_9 : decode cX4_markBy 9 = .ok (.invokevirtual 52, 3) := by decide +kernel
theorem dX4_markBy_12 : decode cX4_markBy 12 = .ok (.i2c, 1) := by decide +kernel
theorem dX4_markBy_13 : decode cX4_markBy 13 = .ok (.ireturn, 1) := by decide +kernel
theorem dX4_unmark_0 : decode cX4_unmark 0 = .ok (.iconst 0, 1) := by decide +kernel
theorem dX4_unmark_1 : decode cX4_unmark 1 = .ok (.istore_n 2, 1) := by decide +kernel
theorem dX4_unmark_2 : decode cX4_unmark 2 = .ok (.iload_n 2, 1) := by decide +kernel
theorem dX4_unmark_3 : decode cX4_unmark 3 = .ok (.iconst 2, 1) := by decide +kernel
theorem dX4_unmark_4 : decode cX4_unmark 4 = .ok (.if_icmp .ge 17, 3) := by decide +kernel
theorem dX4_unmark_7 : decode cX4_unmark 7 = .ok (.aload_n 0, 1) := by decide +kernel
theorem dX4_unmark_8 : decode cX4_unmark 8 = .ok (.iload_n 2, 1) := by decide +kernel
theorem dX4_unmark_9 : decode cX4_unmark 9 = .ok (.iload_n 1, 1) := by decide +kernel
theorem dX4_unmark_10 : decode cX4_unmark 10 = .ok (.bipush 45, 2) := by decide +kernel
theorem dX4_unmark_12 : decode cX4_unmark 12 = .ok (.invokevirtual 116, 3) := by decide +kernel
theorem dX4_unmark_15 : decode cX4_unmark 15 = .ok (.iinc 2 1, 3) := by decide +kernel
theorem dX4_unmark_18 : decode cX4_unmark 18 = .ok (.goto (-16), 3) := by decide +kernel
theorem dX4_unmark_21 : decode cX4_unmark 21 = .ok (.return_, 1) := by decide +kernel
theorem dX4_isWellLaid_0 : decode cX4_isWellLaid 0 = .ok (.iconst 0, 1) := by decide +kernel
theorem dX4_isWellLaid_1 : decode cX4_isWellLaid 1 = .ok (.istore_n 2, 1) := by decide +kernel
theorem dX4_isWellLaid_2 : decode cX4_isWellLaid 2 = .ok (.iload_n 2, 1) := by decide +kernel
theorem dX4_isWellLaid_3 : decode cX4_isWellLaid 3 = .ok (.aload_n 0, 1) := by decide +kernel
theorem dX4_isWellLaid_4 : decode cX4_isWellLaid 4 = .ok (.getfield 32, 3) := by decide +kernel
theorem dX4_isWellLaid_7 : decode cX4_isWellLaid 7 = .ok (.invokevirtual 63, 3) := by decide +kernel
theorem dX4_isWellLaid_10 : decode cX4_isWellLaid 10 = .ok (.if_icmp .ge 23, 3) := by decide +kernel
theorem dX4_isWellLaid_13 : decode cX4_isWellLaid 13 = .ok (.aload_n 0, 1) := by decide +kernel
theorem dX4_isWellLaid_14 : decode cX4_isWellLaid 14 = .ok (.getfield 32, 3) := by decide +kernel
theorem dX4_isWellLaid_17 : decode cX4_isWellLaid 17 = .ok (.iload_n 2, 1) := by decide +kernel
theorem dX4_isWellLaid_18 : decode cX4_isWellLaid 18 = .ok (.invokevirtual 92, 3) := by decide +kernel
theorem dX4_isWellLaid_21 : decode cX4_isWellLaid 21 = .ok (.iload_n 1, 1) := by decide +kernel
theorem dX4_isWellLaid_22 : decode cX4_isWellLaid 22 = .ok (.if_icmp .le 5, 3) := by decide +kernel
theorem dX4_isWellLaid_25 : decode cX4_isWellLaid 25 = .ok (.iconst 0, 1) := by decide +kernel
theorem dX4_isWellLaid_26 : decode cX4_isWellLaid 26 = .ok (.ireturn, 1) := by decide +kernel
theorem dX4_isWellLaid_27 : decode cX4_isWellLaid 27 = .ok (.iinc 2 1, 3) := by decide +kernel
theorem dX4_isWellLaid_30 : decode cX4_isWellLaid 30 = .ok (.goto (-28), 3) := by decide +kernel
theorem dX4_isWellLaid_33 : decode cX4_isWellLaid 33 = .ok (.aload_n 0, 1) := by decide +kernel
theorem dX4_isWellLaid_34 : decode cX4_isWellLaid 34 = .ok (.getfield 32, 3) := by decide +kernel
theorem dX4_isWellLaid_37 : decode cX4_isWellLaid 37 = .ok (.invokevirtual 65, 3) := by decide +kernel
theorem dX4_isWellLaid_40 : decode cX4_isWellLaid 40 = .ok (.astore_n 2, 1) := by decide +kernel
theorem dX4_isWellLaid_41 : decode cX4_isWellLaid 41 = .ok (.iconst 0, 1) := by decide +kernel
theorem dX4_isWellLaid_42 : decode cX4_isWellLaid 42 = .ok (.istore_n 3, 1) := by decide +kernel
theorem dX4_isWellLaid_43 : decode cX4_isWellLaid 43 = .ok (.iconst 0, 1) := by decide +kernel
theorem dX4_isWellLaid_44 : decode cX4_isWellLaid 44 = .ok (.istore 4, 2) := by decide +kernel
theorem dX4_isWellLaid_46 : decode cX4_isWellLaid 46 = .ok (.iload 4, 2) := by decide +kernel
theorem dX4_isWellLaid_48 : decode cX4_isWellLaid 48 = .ok (.aload_n 2, 1) := by decide +kernel
theorem dX4_isWellLaid_49 : decode cX4_isWellLaid 49 = .ok (.invokevirtual 48, 3) := by decide +kernel
theorem dX4_isWellLaid_52 : decode cX4_isWellLaid 52 = .ok (.if_icmp .ge 43, 3) := by decide +kernel
theorem dX4_isWellLaid_55 : decode cX4_isWellLaid 55 = .ok (.aload_n 2, 1) := by decide +kernel
theorem dX4_isWellLaid_56 : decode cX4_isWellLaid 56 = .ok (.iload 4, 2) := by decide +kernel
theorem dX4_isWellLaid_58 : decode cX4_isWellLaid 58 = .ok (.invokevirtual 52, 3) := by decide +kernel
theorem dX4_isWellLaid_61 : decode cX4_isWellLaid 61 = .ok (.ifCond .eq 28, 3) := by decide +kernel
theorem dX4_isWellLaid_64 : decode cX4_isWellLaid 64 = .ok (.aload_n 2, 1) := by decide +kernel
theorem dX4_isWellLaid_65 : decode cX4_isWellLaid 65 = .ok (.iload 4, 2) := by decide +kernel
theorem dX4_isWellLaid_67 : decode cX4_isWellLaid 67 = .ok (.invokevirtual 52, 3) := by decide +kernel
theorem dX4_isWellLaid_70 : decode cX4_isWellLaid 70 = .ok (.aload_n 0, 1) := by decide +kernel
theorem dX4_isWellLaid_71 : decode cX4_isWellLaid 71 = .ok (.getfield 20, 3) := by decide +kernel
theorem dX4_isWellLaid_74 : decode cX4_isWellLaid 74 = .ok (.invokevirtual 65, 3) := by decide +kernel
theorem dX4_isWellLaid_77 : decode cX4_isWellLaid 77 = .ok (.iload_n 3, 1) := by decide +kernel
theorem dX4_isWellLaid_78 : decode cX4_isWellLaid 78 = .ok (.invokevirtual 52, 3) := by decide +kernel
theorem dX4_isWellLaid_81 : decode cX4_isWellLaid 81 = .ok (.if_icmp .eq 5, 3) := by decide +kernel
theorem dX4_isWellLaid_84 : decode cX4_isWellLaid 84 = .ok (.iconst 0, 1) := by decide +kernel
theorem dX4_isWellLaid_85 : decode cX4_isWellLaid 85 = .ok (.ireturn, 1) := by decide +kernel
theorem dX4_isWellLaid_86 : decode cX4_isWellLaid 86 = .ok (.iinc 3 1, 3) := by decide +kernel
theorem dX4_isWellLaid_89 : decode cX4_isWellLaid 89 = .ok (.iinc 4 1, 3) := by decide +kernel
theorem dX4_isWellLaid_92 : decode cX4_isWellLaid 92 = .ok (.goto (-46), 3) := by decide +kernel
theorem dX4_isWellLaid_95 : decode cX4_isWellLaid 95 = .ok (.iload_n 3, 1) := by decide +kernel
theorem dX4_isWellLaid_96 : decode cX4_isWellLaid 96 = .ok (.aload_n 0, 1) := by decide +kernel
theorem dX4_isWellLaid_97 : decode cX4_isWellLaid 97 = .ok (.getfield 20, 3) := by decide +kernel
theorem dX4_isWellLaid_100 : decode cX4_isWellLaid 100 = .ok (.invokevirtual 65, 3) := by decide +kernel
theorem dX4_isWellLaid_103 : decode cX4_isWellLaid 103 = .ok (.invokevirtual 48, 3) := by decide +kernel
theorem dX4_isWellLaid_106 : decode cX4_isWellLaid 106 = .ok (.if_icmp .ne 7, 3) := by decide +kernel
theorem dX4_isWellLaid_109 : decode cX4_isWellLaid 109 = .ok (.iconst 1, 1) := by decide +kernel
theorem dX4_isWellLaid_110 : decode cX4_isWellLaid 110 = .ok (.goto 4, 3) := by decide +kernel
theorem dX4_isWellLaid_113 : decode cX4_isWellLaid 113 = .ok (.iconst 0, 1) := by decide +kernel
theorem dX4_isWellLaid_114 : decode cX4_isWellLaid 114 = .ok (.ireturn, 1) := by decide +kernel
theorem dX5_init_0 : decode cX5_init 0 = .ok (.aload_n 0, 1) := by decide +kernel
theorem dX5_init_1 : decode cX5_init 1 = .ok (.invokespecial 3, 3) := by decide +kernel
theorem dX5_init_4 : decode cX5_init 4 = .ok (.aload_n 0, 1) := by decide +kernel
theorem dX5_init_5 : decode cX5_init 5 = .ok (.new 9, 3) := by decide +kernel
theorem dX5_init_8 : decode cX5_init 8 = .ok (.dup, 1) := by decide +kernel
theorem dX5_init_9 : decode cX5_init 9 = .ok (.bipush 80, 2) := by decide +kernel
theorem dX5_init_11 : decode cX5_init 11 = .ok (.invokespecial 11, 3) := by decide +kernel
theorem dX5_init_14 : decode cX5_init 14 = .ok (.putfield 14, 3) := by decide +kernel
theorem dX5_init_17 : decode cX5_init 17 = .ok (.aload_n 0, 1) := by decide +kernel
theorem dX5_init_18 : decode cX5_init 18 = .ok (.new 18, 3) := by decide +kernel
theorem dX5_init_21 : decode cX5_init 21 = .ok (.dup, 1) := by decide +kernel
theorem dX5_init_22 : decode cX5_init 22 = .ok (.invokespecial 20, 3) := by decide +kernel
theorem dX5_init_25 : decode cX5_init 25 = .ok (.putfield 21, 3) := by decide +kernel
theorem dX5_init_28 : decode cX5_init 28 = .ok (.aload_n 0, 1) := by decide +kernel
theorem dX5_init_29 : decode cX5_init 29 = .ok (.new 25, 3) := by decide +kernel
theorem dX5_init_32 : decode cX5_init 32 = .ok (.dup, 1) := by decide +kernel
theorem dX5_init_33 : decode cX5_init 33 = .ok (.invokespecial 27, 3) := by decide +kernel
theorem dX5_init_36 : decode cX5_init 36 = .ok (.putfield 28, 3) := by decide +kernel
theorem dX5_init_39 : decode cX5_init 39 = .ok (.aload_n 0, 1) := by decide +kernel
theorem dX5_init_40 : decode cX5_init 40 = .ok (.bipush 6, 2) := by decide +kernel
theorem dX5_init_42 : decode cX5_init 42 = .ok (.anewarray 32, 3) := by decide +kernel
theorem dX5_init_45 : decode cX5_init 45 = .ok (.putfield 34, 3) := by decide +kernel
theorem dX5_init_48 : decode cX5_init 48 = .ok (.aload_n 0, 1) := by decide +kernel
theorem dX5_init_49 : decode cX5_init 49 = .ok (.new 38, 3) := by decide +kernel
theorem dX5_init_52 : decode cX5_init 52 = .ok (.dup, 1) := by decide +kernel
theorem dX5_init_53 : decode cX5_init 53 = .ok (.bipush 40, 2) := by decide +kernel
theorem dX5_init_55 : decode cX5_init 55 = .ok (.sipush 160, 3) := by decide +kernel
theorem dX5_init_58 : decode cX5_init 58 = .ok (.invokespecial 40, 3) := by decide +kernel
theorem dX5_init_61 : decode cX5_init 61 = .ok (.putfield 43, 3) := by decide +kernel
theorem dX5_init_64 : decode cX5_init 64 = .ok (.aload_n 0, 1) := by decide +kernel
theorem dX5_init_65 : decode cX5_init 65 = .ok (.iconst 0, 1) := by decide +kernel
theorem dX5_init_66 : decode cX5_init 66 = .ok (.putfield 47, 3) := by decide +kernel
theorem dX5_init_69 : decode cX5_init 69 = .ok (.aload_n 0, 1) := by decide +kernel
theorem dX5_init_70 : decode cX5_init 70 = .ok (.bipush 20, 2) := by decide +kernel
theorem dX5_init_72 : decode cX5_init 72 = .ok (.putfield 51, 3) := by decide +kernel
theorem dX5_init_75 : decode cX5_init 75 = .ok (.return_, 1) := by decide +kernel
theorem dX5_type_0 : decode cX5_type 0 = .ok (.iload_n 1, 1) := by decide +kernel
theorem dX5_type_1 : decode cX5_type 1 = .ok (.bipush 32, 2) := by decide +kernel
theorem dX5_type_3 : decode cX5_type 3 = .ok (.if_icmp .eq 25, 3) := by decide +kernel
theorem dX5_type_6 : decode cX5_type 6 = .ok (.iload_n 1, 1) := by decide +kernel
theorem dX5_type_7 : decode cX5_type 7 = .ok (.bipush 97, 2) := by decide +kernel
theorem dX5_type_9 : decode cX5_type 9 = .ok (.if_icmp .lt 9, 3) := by decide +kernel
theorem dX5_type_12 : decode cX5_type 12 = .ok (.iload_n 1, 1) := by decide +kernel
theorem dX5_type_13 : decode cX5_type 13 = .ok (.bipush 122, 2) := by decide +kernel
theorem dX5_type_15 : decode cX5_type 15 = .ok (.if_icmp .le 13, 3) := by decide +kernel
theorem dX5_type_18 : decode cX5_type 18 = .ok (.new 54, 3) := by decide +kernel
theorem dX5_type_21 : decode cX5_type 21 = .ok (.dup, 1) := by decide +kernel
theorem dX5_type_22 : decode cX5_type 22 = .ok (.ldc 56, 2) := by decide +kernel
theorem dX5_type_24 : decode cX5_type 24 = .ok (.invokespecial 58, 3) := by decide +kernel
theorem dX5_type_27 : decode cX5_type 27 = .ok (.athrow, 1) := by decide +kernel
theorem dX5_type_28 : decode cX5_type 28 = .ok (.aload_n 0, 1) := by decide +kernel
theorem dX5_type_29 : decode cX5_type 29 = .ok (.getfield 14, 3) := by decide +kernel
theorem dX5_type_32 : decode cX5_type 32 = .ok (.invokevirtual 61, 3) := by decide +kernel
theorem dX5_type_35 : decode cX5_type 35 = .ok (.ifCond .eq 13, 3) := by decide +kernel
theorem dX5_type_38 : decode cX5_type 38 = .ok (.new 65, 3) := by decide +kernel
theorem dX5_type_41 : decode cX5_type 41 = .ok (.dup, 1) := by decide +kernel
theorem dX5_type_42 : decode cX5_type 42 = .ok (.ldc 67, 2) := by decide +kernel
theorem dX5_type_44 : decode cX5_type 44 = .ok (.invokespecial 69, 3) := by decide +kernel
theorem dX5_type_47 : decode cX5_type 47 = .ok (.athrow, 1) := by decide +kernel
theorem dX5_type_48 : decode cX5_type 48 = .ok (.aload_n 0, 1) := by decide +kernel
theorem dX5_type_49 : decode cX5_type 49 = .ok (.getfield 14, 3) := by decide +kernel
theorem dX5_type_52 : decode cX5_type 52 = .ok (.iload_n 1, 1) := by decide +kernel
theorem dX5_type_53 : decode cX5_type 53 = .ok (.invokevirtual 70, 3) := by decide +kernel
theorem dX5_type_56 : decode cX5_type 56 = .ok (.aload_n 0, 1) := by decide +kernel
theorem dX5_type_57 : decode cX5_type 57 = .ok (.getfield 14, 3) := by decide +kernel
theorem dX5_type_60 : decode cX5_type 60 = .ok (.invokevirtual 73, 3) := by decide +kernel
theorem dX5_type_63 : decode cX5_type 63 = .ok (.ireturn, 1) := by decide +kernel
theorem dX5_clear_0 : decode cX5_clear 0 = .ok (.aload_n 0, 1) := by decide +kernel
theorem dX5_clear_1 : decode cX5_clear 1 = .ok (.getfield 14, 3) := by decide +kernel
theorem dX5_clear_4 : decode cX5_clear 4 = .ok (.invokevirtual 73, 3) := by decide +kernel
theorem dX5_clear_7 : decode cX5_clear 7 = .ok (.istore_n 1, 1) := by decide +kernel
theorem dX5_clear_8 : decode cX5_clear 8 = .ok (.aload_n 0, 1) := by decide +kernel
theorem dX5_clear_9 : decode cX5_clear 9 = .ok (.getfield 14, 3) := by decide +kernel
theorem dX5_clear_12 : decode cX5_clear 12 = .ok (.invokevirtual 77, 3) := by decide +kernel
theorem dX5_clear_15 : decode cX5_clear 15 = .ok (.iload_n 1, 1) := by decide +kernel
theorem dX5_clear_16 : decode cX5_clear 16 = .ok (.ireturn, 1) := by decide +kernel
theorem dX5_addRule_0 : decode cX5_addRule 0 = .ok (.aload_n 0, 1) := by decide +kernel
theorem dX5_addRule_1 : decode cX5_addRule 1 = .ok (.invokevirtual 80, 3) := by decide +kernel
theorem dX5_addRule_4 : decode cX5_addRule 4 = .ok (.istore 4, 2) := by decide +kernel
theorem dX5_addRule_6 : decode cX5_addRule 6 = .ok (.iload_n 1, 1) := by decide +kernel
theorem dX5_addRule_7 : decode cX5_addRule 7 = .ok (.iload_n 2, 1) := by decide +kernel
theorem dX5_addRule_8 : decode cX5_addRule 8 = .ok (.iload_n 3, 1) := by decide +kernel
theorem dX5_addRule_9 : decode cX5_addRule 9 = .ok (.invokestatic 83, 3) := by decide +kernel
theorem dX5_addRule_12 : decode cX5_addRule 12 = .ok (.ifCond .eq 8, 3) := by decide +kernel
theorem dX5_addRule_15 : decode cX5_addRule 15 = .ok (.iload 4, 2) := by decide +kernel
theorem dX5_addRule_17 : decode cX5_addRule 17 = .ok (.ifCond .ne 13, 3) := by decide +kernel
theorem dX5_addRule_20 : decode cX5_addRule 20 = .ok (.new 54, 3) := by decide +kernel
theorem dX5_addRule_23 : decode cX5_addRule 23 = .ok (.dup, 1) := by decide +kernel
theorem dX5_addRule_24 : decode cX5_addRule 24 = .ok (.ldc 87, 2) := by decide +kernel
theorem dX5_addRule_26 : decode cX5_addRule 26 = .ok (.invokespecial 58, 3) := by decide +kernel
theorem dX5_addRule_29 : decode cX5_addRule 29 = .ok (.athrow, 1) := by decide +kernel
theorem dX5_addRule_30 : decode cX5_addRule 30 = .ok (.aload_n 0, 1) := by decide +kernel
theorem dX5_addRule_31 : decode cX5_addRule 31 = .ok (.getfield 21, 3) := by decide +kernel
theorem dX5_addRule_34 : decode cX5_addRule 34 = .ok (.invokevirtual 89, 3) := by decide +kernel
theorem dX5_addRule_37 : decode cX5_addRule 37 = .ok (.ifCond .eq 13, 3) := by decide +kernel
theorem dX5_addRule_40 : decode cX5_addRule 40 = .ok (.new 65, 3) := by decide +kernel
theorem dX5_addRule_43 : decode cX5_addRule 43 = .ok (.dup, 1) := by decide +kernel
theorem dX5_addRule_44 : decode cX5_addRule 44 = .ok (.ldc 90, 2) := by decide +kernel
theorem dX5_addRule_46 : decode cX5_addRule 46 = .ok (.invokespecial 69, 3) := by decide +kernel
theorem dX5_addRule_49 : decode cX5_addRule 49 = .ok (.athrow, 1) := by decide +kernel
theorem dX5_addRule_50 : decode cX5_addRule 50 = .ok (.aload_n 0, 1) := by decide +kernel
theorem dX5_addRule_51 : decode cX5_addRule 51 = .ok (.getfield 21, 3) := by decide +kernel
theorem dX5_addRule_54 : decode cX5_addRule 54 = .ok (.iload 4, 2) := by decide +kernel
theorem dX5_addRule_56 : decode cX5_addRule 56 = .ok (.invokevirtual 92, 3) := by decide +kernel
theorem dX5_addRule_59 : decode cX5_addRule 59 = .ok (.iconst (-1), 1) := by decide +kernel
theorem dX5_addRule_60 : decode cX5_addRule 60 = .ok (.if_icmp .eq 13, 3) := by decide +kernel
theorem dX5_addRule_63 : decode cX5_addRule 63 = .ok (.new 96, 3) := by decide +kernel
theorem dX5_addRule_66 : decode cX5_addRule 66 = .ok (.dup, 1) := by decide +kernel
theorem dX5_addRule_67 : decode cX5_addRule 67 = .ok (.ldc 98, 2) := by decide +kernel
theorem dX5_addRule_69 : decode cX5_addRule 69 = .ok (.invokespecial 100, 3) := by decide +kernel
theorem dX5_addRule_72 : decode cX5_addRule 72 = .ok (.athrow, 1) := by decide +kernel
theorem dX5_addRule_73 : decode cX5_addRule 73 = .ok (.aload_n 0, 1) := by decide +kernel
theorem dX5_addRule_74 : decode cX5_addRule 74 = .ok (.getfield 21, 3) := by decide +kernel
theorem dX5_addRule_77 : decode cX5_addRule 77 = .ok (.iload 4, 2) := by decide +kernel
theorem dX5_addRule_79 : decode cX5_addRule 79 = .ok (.iload_n 1, 1) := by decide +kernel
theorem dX5_addRule_80 : decode cX5_addRule 80 = .ok (.iload_n 2, 1) := by decide +kernel
theorem dX5_addRule_81 : decode cX5_addRule 81 = .ok (.iload_n 3, 1) := by decide +kernel
theorem dX5_addRule_82 : decode cX5_addRule 82 = .ok (.invokevirtual 101, 3) := by decide +kernel
theorem dX5_addRule_85 : decode cX5_addRule 85 = .ok (.istore 5, 2) := by decide +kernel
theorem dX5_addRule_87 : decode cX5_addRule 87 = .ok (.aload_n 0, 1) := by decide +kernel
theorem dX5_addRule_88 : decode cX5_addRule 88 = .ok (.getfield 14, 3) := by decide +kernel
theorem dX5_addRule_91 : decode cX5_addRule 91 = .ok (.invokevirtual 77, 3) := by decide +kernel
theorem dX5_addRule_94 : decode cX5_addRule 94 = .ok (.aload_n 0, 1) := by decide +kernel
theorem dX5_addRule_95 : decode cX5_addRule 95 = .ok (.invokevirtual 105, 3) := by decide +kernel
theorem dX5_addRule_98 : decode cX5_addRule 98 = .ok (.pop, 1) := by decide +kernel
theorem dX5_addRule_99 : decode cX5_addRule 99 = .ok (.iload 5, 2) := by decide +kernel
theorem dX5_addRule_101 : decode cX5_addRule 101 = .ok (.ireturn, 1) := by decide +kernel
theorem dX5_mend_0 : decode cX5_mend 0 = .ok (.iload_n 1, 1) := by decide +kernel
theorem dX5_mend_1 : decode cX5_mend 1 = .ok (.iload_n 2, 1) := by decide +kernel
theorem dX5_mend_2 : decode cX5_mend 2 = .ok (.iload_n 3, 1) := by decide +kernel
theorem dX5_mend_3 : decode cX5_mend 3 = .ok (.invokestatic 83, 3) := by decide +kernel
theorem dX5_mend_6 : decode cX5_mend 6 = .ok (.ifCond .ne 13, 3) := by decide +kernel
theorem dX5_mend_9 : decode cX5_mend 9 = .ok (.new 54, 3) := by decide +kernel
theorem dX5_mend_12 : decode cX5_mend 12 = .ok (.dup, 1) := by decide +kernel
theorem dX5_mend_13 : decode cX5_mend 13 = .ok (.ldc 108, 2) := by decide +kernel
theorem dX5_mend_15 : decode cX5_mend 15 = .ok (.invokespecial 58, 3) := by decide +kernel
theorem dX5_mend_18 : decode cX5_mend 18 = .ok (.athrow, 1) := by decide +kernel
theorem dX5_mend_19 : decode cX5_mend 19 = .ok (.aload_n 0, 1) := by decide +kernel
theorem dX5_mend_20 : decode cX5_mend 20 = .ok (.getfield 21, 3) := by decide +kernel
theorem dX5_mend_23 : decode cX5_mend 23 = .ok (.aload_n 0, 1) := by decide +kernel
theorem dX5_mend_24 : decode cX5_mend 24 = .ok (.invokevirtual 80, 3) := by decide +kernel
theorem dX5_mend_27 : decode cX5_mend 27 = .ok (.invokevirtual 92, 3) := by decide +kernel
theorem dX5_mend_30 : decode cX5_mend 30 = .ok (.istore 4, 2) := by decide +kernel
theorem dX5_mend_32 : decode cX5_mend 32 = .ok (.iload 4, 2) := by decide +kernel
theorem dX5_mend_34 : decode cX5_mend 34 = .ok (.iconst (-1), 1) := by decide +kernel
theorem dX5_mend_35 : decode cX5_mend 35 = .ok (.if_icmp .ne 13, 3) := by decide +kernel
theorem dX5_mend_38 : decode cX5_mend 38 = .ok (.new 110, 3) := by decide +kernel
theorem dX5_mend_41 : decode cX5_mend 41 = .ok (.dup, 1) := by decide +kernel
theorem dX5_mend_42 : decode cX5_mend 42 = .ok (.ldc 112, 2) := by decide +kernel
theorem dX5_mend_44 : decode cX5_mend 44 = .ok (.invokespecial 114, 3) := by decide +kernel
theorem dX5_mend_47 : decode cX5_mend 47 = .ok (.athrow, 1) := by decide +kernel
theorem dX5_mend_48 : decode cX5_mend 48 = .ok (.aload_n 0, 1) := by decide +kernel
theorem dX5_mend_49 : decode cX5_mend 49 = .ok (.getfield 21, 3) := by decide +kernel
theorem dX5_mend_52 : decode cX5_mend 52 = .ok (.iload 4, 2) := by decide +kernel
theorem dX5_mend_54 : decode cX5_mend 54 = .ok (.iload_n 1, 1) := by decide +kernel
theorem dX5_mend_55 : decode cX5_mend 55 = .ok (.iload_n 2, 1) := by decide +kernel
theorem dX5_mend_56 : decode cX5_mend 56 = .ok (.iload_n 3, 1) := by decide +kernel
theorem dX5_mend_57 : decode cX5_mend 57 = .ok (.invokevirtual 115, 3) := by decide +kernel
theorem dX5_mend_60 : decode cX5_mend 60 = .ok (.aload_n 0, 1) := by decide +kernel
theorem dX5_mend_61 : decode cX5_mend 61 = .ok (.getfield 14, 3) := by decide +kernel
theorem dX5_mend_64 : decode cX5_mend 64 = .ok (.invokevirtual 77, 3) := by decide +kernel
theorem dX5_mend_67 : decode cX5_mend 67 = .ok (.aload_n 0, 1) := by decide +kernel
theorem dX5_mend_68 : decode cX5_mend 68 = .ok (.invokevirtual 105, 3) := by decide +kernel
theorem dX5_mend_71 : decode cX5_mend 71 = .ok (.ireturn, 1) := by decide +kernel
theorem dX5_turnException_0 : decode cX5_turnException 0 = .ok (.aload_n 0, 1) := by decide +kernel
theorem dX5_turnException_1 : decode cX5_turnException 1 = .ok (.getfield 14, 3) := by decide +kernel
theorem dX5_turnException_4 : decode cX5_turnException 4 = .ok (.invokevirtual 73, 3) := by decide +kernel
theorem dX5_turnException_7 : decode cX5_turnException 7 = .ok (.ifCond .eq 16, 3) := by decide +kernel
theorem dX5_turnException_10 : decode cX5_turnException 10 = .ok (.aload_n 0, 1) := by decide +kernel
theorem dX5_turnException_11 : decode cX5_turnException 11 = .ok (.getfield 14, 3) := by decide +kernel
theorem dX5_turnException_14 : decode cX5_turnException 14 = .ok (.bipush 32, 2) := by decide +kernel
theorem dX5_turnException_16 : decode cX5_turnException 16 = .ok (.invokevirtual 138, 3) := by decide +kernel
theorem dX5_turnException_19 : decode cX5_turnException 19 = .ok (.iconst (-1), 1) := by decide +kernel
theorem dX5_turnException_20 : decode cX5_turnException 20 = .ok (.if_icmp .eq 13, 3) := by decide +kernel
theorem dX5_turnException_23 : decode cX5_turnException 23 = .ok (.new 54, 3) := by decide +kernel
theorem dX5_turnException_26 : decode cX5_turnException 26 = .ok (.dup, 1) := by decide +kernel
theorem dX5_turnException_27 : decode cX5_turnException 27 = .ok (.ldc 139, 2) := by decide +kernel
theorem dX5_turnException_29 : decode cX5_turnException 29 = .ok (.invokespecial 58, 3) := by decide +kernel
theorem dX5_turnException_32 : decode cX5_turnException 32 = .ok (.athrow, 1) := by decide +kernel
theorem dX5_turnException_33 : decode cX5_turnException 33 = .ok (.aload_n 0, 1) := by decide +kernel
theorem dX5_turnException_34 : decode cX5_turnException 34 = .ok (.getfield 21, 3) := by decide +kernel
theorem dX5_turnException_37 : decode cX5_turnException 37 = .ok (.aload_n 0, 1) := by decide +kernel
theorem dX5_turnException_38 : decode cX5_turnException 38 = .ok (.getfield 14, 3) := by decide +kernel
theorem dX5_turnException_41 : decode cX5_turnException 41 = .ok (.iconst 0, 1) := by decide +kernel
theorem dX5_turnException_42 : decode cX5_turnException 42 = .ok (.aload_n 0, 1) := by decide +kernel
theorem dX5_turnException_43 : decode cX5_turnException 43 = .ok (.getfield 14, 3) := by decide +kernel
theorem dX5_turnException_46 : decode cX5_turnException 46 = .ok (.invokevirtual 73, 3) := by decide +kernel
theorem dX5_turnException_49 : decode cX5_turnException 49 = .ok (.invokevirtual 141, 3) := by decide +kernel
theorem dX5_turnException_52 : decode cX5_turnException 52 = .ok (.istore_n 1, 1) := by decide +kernel
theorem dX5_turnException_53 : decode cX5_turnException 53 = .ok (.iload_n 1, 1) := by decide +kernel
theorem dX5_turnException_54 : decode cX5_turnException 54 = .ok (.iconst (-1), 1) := by decide +kernel
theorem dX5_turnException_55 : decode cX5_turnException 55 = .ok (.if_icmp .ne 23, 3) := by decide +kernel
theorem dX5_turnException_58 : decode cX5_turnException 58 = .ok (.aload_n 0, 1) := by decide +kernel
theorem dX5_turnException_59 : decode cX5_turnException 59 = .ok (.getfield 21, 3) := by decide +kernel
theorem dX5_turnException_62 : decode cX5_turnException 62 = .ok (.invokevirtual 145, 3) := by decide +kernel
theorem dX5_turnException_65 : decode cX5_turnException 65 = .ok (.ifCond .eq 13, 3) := by decide +kernel
theorem dX5_turnException_68 : decode cX5_turnException 68 = .ok (.new 65, 3) := by decide +kernel
theorem dX5_turnException_71 : decode cX5_turnException 71 = .ok (.dup, 1) := by decide +kernel
theorem dX5_turnException_72 : decode cX5_turnException 72 = .ok (.ldc 148, 2) := by decide +kernel
theorem dX5_turnException_74 : decode cX5_turnException 74 = .ok (.invokespecial 69, 3) := by decide +kernel
theorem dX5_turnException_77 : decode cX5_turnException 77 = .ok (.athrow, 1) := by decide +kernel
theorem dX5_turnException_78 : decode cX5_turnException 78 = .ok (.iload_n 1, 1) := by decide +kernel
theorem dX5_turnException_79 : decode cX5_turnException 79 = .ok (.iconst (-1), 1) := by decide +kernel
theorem dX5_turnException_80 : decode cX5_turnException 80 = .ok (.if_icmp .ne 17, 3) := by decide +kernel
theorem dX5_turnException_83 : decode cX5_turnException 83 = .ok (.aload_n 0, 1) := by decide +kernel
theorem dX5_turnException_84 : decode cX5_turnException 84 = .ok (.getfield 21, 3) := by decide +kernel
theorem dX5_turnException_87 : decode cX5_turnException 87 = .ok (.aload_n 0, 1) := by decide +kernel
theorem dX5_turnException_88 : decode cX5_turnException 88 = .ok (.getfield 14, 3) := by decide +kernel
theorem dX5_turnException_91 : decode cX5_turnException 91 = .ok (.invokevirtual 150, 3) := by decide +kernel
theorem dX5_turnException_94 : decode cX5_turnException 94 = .ok (.goto 11, 3) := by decide +kernel
theorem dX5_turnException_97 : decode cX5_turnException 97 = .ok (.aload_n 0, 1) := by decide +kernel
theorem dX5_turnException_98 : decode cX5_turnException 98 = .ok (.getfield 21, 3) := by decide +kernel
theorem dX5_turnException_101 : decode cX5_turnException 101 = .ok (.iload_n 1, 1) := by decide +kernel
theorem dX5_turnException_102 : decode cX5_turnException 102 = .ok (.invokevirtual 154, 3) := by decide +kernel
theorem dX5_turnException_105 : decode cX5_turnException 105 = .ok (.aload_n 0, 1) := by decide +kernel
theorem dX5_turnException_106 : decode cX5_turnException 106 = .ok (.getfield 14, 3) := by decide +kernel
theorem dX5_turnException_109 : decode cX5_turnException 109 = .ok (.invokevirtual 77, 3) := by decide +kernel
theorem dX5_turnException_112 : decode cX5_turnException 112 = .ok (.aload_n 0, 1) := by decide +kernel
theorem dX5_turnException_113 : decode cX5_turnException 113 = .ok (.invokevirtual 105, 3) := by decide +kernel
theorem dX5_turnException_116 : decode cX5_turnException 116 = .ok (.pop, 1) := by decide +kernel
theorem dX5_turnException_117 : decode cX5_turnException 117 = .ok (.iload_n 1, 1) := by decide +kernel
theorem dX5_turnException_118 : decode cX5_turnException 118 = .ok (.iconst (-1), 1) := by decide +kernel
theorem dX5_turnException_119 : decode cX5_turnException 119 = .ok (.if_icmp .ne 7, 3) := by decide +kernel
theorem dX5_turnException_122 : decode cX5_turnException 122 = .ok (.iconst 1, 1) := by decide +kernel
theorem dX5_turnException_123 : decode cX5_turnException 123 = .ok (.goto 4, 3) := by decide +kernel
theorem dX5_turnException_126 : decode cX5_turnException 126 = .ok (.iconst 0, 1) := by decide +kernel
theorem dX5_turnException_127 : decode cX5_turnException 127 = .ok (.ireturn, 1) := by decide +kernel
theorem dX5_setText_0 : decode cX5_setText 0 = .ok (.iload_n 1, 1) := by decide +kernel
theorem dX5_setText_1 : decode cX5_setText 1 = .ok (.ifCond .lt 20, 3) := by decide +kernel
theorem dX5_setText_4 : decode cX5_setText 4 = .ok (.iload_n 1, 1) := by decide +kernel
theorem dX5_setText_5 : decode cX5_setText 5 = .ok (.aload_n 0, 1) := by decide +kernel
theorem dX5_setText_6 : decode cX5_setText 6 = .ok (.getfield 47, 3) := by decide +kernel
theorem dX5_setText_9 : decode cX5_setText 9 = .ok (.if_icmp .gt 12, 3) := by decide +kernel
theorem dX5_setText_12 : decode cX5_setText 12 = .ok (.iload_n 1, 1) := by decide +kernel
theorem dX5_setText_13 : decode cX5_setText 13 = .ok (.aload_n 0, 1) := by decide +kernel
theorem dX5_setText_14 : decode cX5_setText 14 = .ok (.getfield 34, 3) := by decide +kernel
theorem dX5_setText_17 : decode cX5_setText 17 = .ok (.arraylength, 1) := by decide +kernel
theorem dX5_setText_18 : decode cX5_setText 18 = .ok (.if_icmp .lt 13, 3) := by decide +kernel
theorem dX5_setText_21 : decode cX5_setText 21 = .ok (.new 123, 3) := by decide +kernel
theorem dX5_setText_24 : decode cX5_setText 24 = .ok (.dup, 1) := by decide +kernel
theorem dX5_setText_25 : decode cX5_setText 25 = .ok (.ldc 157, 2) := by decide +kernel
theorem dX5_setText_27 : decode cX5_setText 27 = .ok (.invokespecial 127, 3) := by decide +kernel
theorem dX5_setText_30 : decode cX5_setText 30 = .ok (.athrow, 1) := by decide +kernel
theorem dX5_setText_31 : decode cX5_setText 31 = .ok (.iload_n 2, 1) := by decide +kernel
theorem dX5_setText_32 : decode cX5_setText 32 = .ok (.invokestatic 159, 3) := by decide +kernel
theorem dX5_setText_35 : decode cX5_setText 35 = .ok (.ifCond .ne 13, 3) := by decide +kernel
theorem dX5_setText_38 : decode cX5_setText 38 = .ok (.new 54, 3) := by decide +kernel
theorem dX5_setText_41 : decode cX5_setText 41 = .ok (.dup, 1) := by decide +kernel
theorem dX5_setText_42 : decode cX5_setText 42 = .ok (.ldc 162, 2) := by decide +kernel
theorem dX5_setText_44 : decode cX5_setText 44 = .ok (.invokespecial 58, 3) := by decide +kernel
theorem dX5_setText_47 : decode cX5_setText 47 = .ok (.athrow, 1) := by decide +kernel
theorem dX5_setText_48 : decode cX5_setText 48 = .ok (.aload_n 0, 1) := by decide +kernel
theorem dX5_setText_49 : decode cX5_setText 49 = .ok (.getfield 34, 3) := by decide +kernel
theorem dX5_setText_52 : decode cX5_setText 52 = .ok (.iload_n 1, 1) := by decide +kernel
theorem dX5_setText_53 : decode cX5_setText 53 = .ok (.aaload, 1) := by decide +kernel
theorem dX5_setText_54 : decode cX5_setText 54 = .ok (.astore_n 3, 1) := by decide +kernel
theorem dX5_setText_55 : decode cX5_setText 55 = .ok (.aload_n 3, 1) := by decide +kernel
theorem dX5_setText_56 : decode cX5_setText 56 = .ok (.ifnonnull 28, 3) := by decide +kernel
theorem dX5_setText_59 : decode cX5_setText 59 = .ok (.new 32, 3) := by decide +kernel
theorem dX5_setText_62 : decode cX5_setText 62 = .ok (.dup, 1) := by decide +kernel
theorem dX5_setText_63 : decode cX5_setText 63 = .ok (.invokespecial 164, 3) := by decide +kernel
theorem dX5_setText_66 : decode cX5_setText 66 = .ok (.astore_n 3, 1) := by decide +kernel
theorem dX5_setText_67 : decode cX5_setText 67 = .ok (.aload_n 0, 1) := by decide +kernel
theorem dX5_setText_68 : decode cX5_setText 68 = .ok (.getfield 34, 3) := by decide +kernel
theorem dX5_setText_71 : decode cX5_setText 71 = .ok (.iload_n 1, 1) := by decide +kernel
theorem dX5_setText_72 : decode cX5_setText 72 = .ok (.aload_n 3, 1) := by decide +kernel
theorem dX5_setText_73 : decode cX5_setText 73 = .ok (.aastore, 1) := by decide +kernel
theorem dX5_setText_74 : decode cX5_setText 74 = .ok (.aload_n 0, 1) := by decide +kernel
theorem dX5_setText_75 : decode cX5_setText 75 = .ok (.dup, 1) := by decide +kernel
theorem dX5_setText_76 : decode cX5_setText 76 = .ok (.getfield 47, 3) := by decide +kernel
theorem dX5_setText_79 : decode cX5_setText 79 = .ok (.iconst 1, 1) := by decide +kernel
theorem dX5_setText_80 : decode cX5_setText 80 = .ok (.iadd, 1) := by decide +kernel
theorem dX5_setText_81 : decode cX5_setText 81 = .ok (.putfield 47, 3) := by decide +kernel
theorem dX5_setText_84 : decode cX5_setText 84 = .ok (.aload_n 3, 1) := by decide +kernel
theorem dX5_setText_85 : decode cX5_setText 85 = .ok (.aload_n 0, 1) := by decide +kernel
theorem dX5_setText_86 : decode cX5_setText 86 = .ok (.getfield 14, 3) := by decide +kernel
theorem dX5_setText_89 : decode cX5_setText 89 = .ok (.iload_n 2, 1) := by decide +kernel
theorem dX5_setText_90 : decode cX5_setText 90 = .ok (.invokevirtual 165, 3) := by decide +kernel
theorem dX5_setText_93 : decode cX5_setText 93 = .ok (.aload_n 3, 1) := by decide +kernel
theorem dX5_setText_94 : decode cX5_setText 94 = .ok (.aload_n 0, 1) := by decide +kernel
theorem dX5_setText_95 : decode cX5_setText 95 = .ok (.getfield 21, 3) := by decide +kernel
theorem dX5_setText_98 : decode cX5_setText 98 = .ok (.aload_n 0, 1) := by decide +kernel
theorem dX5_setText_99 : decode cX5_setText 99 = .ok (.getfield 43, 3) := by decide +kernel
theorem dX5_setText_102 : decode cX5_setText 102 = .ok (.invokevirtual 169, 3) := by decide +kernel
theorem dX5_setText_105 : decode cX5_setText 105 = .ok (.pop, 1) := by decide +kernel
theorem dX5_setText_106 : decode cX5_setText 106 = .ok (.aload_n 3, 1) := by decide +kernel
theorem dX5_setText_107 : decode cX5_setText 107 = .ok (.aload_n 0, 1) := by decide +kernel
theorem dX5_setText_108 : decode cX5_setText 108 = .ok (.getfield 51, 3) := by decide +kernel
theorem dX5_setText_111 : decode cX5_setText 111 = .ok (.invokevirtual 173, 3) := by decide +kernel
theorem dX5_setText_114 : decode cX5_setText 114 = .ok (.aload_n 0, 1) := by decide +kernel
theorem dX5_setText_115 : decode cX5_setText 115 = .ok (.getfield 14, 3) := by decide +kernel
theorem dX5_setText_118 : decode cX5_setText 118 = .ok (.invokevirtual 77, 3) := by decide +kernel
theorem dX5_setText_121 : decode cX5_setText 121 = .ok (.aload_n 3, 1) := by decide +kernel
theorem dX5_setText_122 : decode cX5_setText 122 = .ok (.invokevirtual 176, 3) := by decide +kernel
theorem dX5_setText_125 : decode cX5_setText 125 = .ok (.ireturn, 1) := by decide +kernel
theorem dX5_setWidth_0 : decode cX5_setWidth 0 = .ok (.iload_n 1, 1) := by decide +kernel
theorem dX5_setWidth_1 : decode cX5_setWidth 1 = .ok (.bipush 8, 2) := by decide +kernel
theorem dX5_setWidth_3 : decode cX5_setWidth 3 = .ok (.if_icmp .lt 9, 3) := by decide +kernel
theorem dX5_setWidth_6 : decode cX5_setWidth 6 = .ok (.iload_n 1, 1) := by decide +kernel
theorem dX5_setWidth_7 : decode cX5_setWidth 7 = .ok (.bipush 40, 2) := by decide +kernel
theorem dX5_setWidth_9 : decode cX5_setWidth 9 = .ok (.if_icmp .le 13, 3) := by decide +kernel
theorem dX5_setWidth_12 : decode cX5_setWidth 12 = .ok (.new 54, 3) := by decide +kernel
theorem dX5_setWidth_15 : decode cX5_setWidth 15 = .ok (.dup, 1) := by decide +kernel
theorem dX5_setWidth_16 : decode cX5_setWidth 16 = .ok (.ldc 179, 2) := by decide +kernel
theorem dX5_setWidth_18 : decode cX5_setWidth 18 = .ok (.invokespecial 58, 3) := by decide +kernel
theorem dX5_setWidth_21 : decode cX5_setWidth 21 = .ok (.athrow, 1) := by decide +kernel
theorem dX5_setWidth_22 : decode cX5_setWidth 22 = .ok (.aload_n 0, 1) := by decide +kernel
theorem dX5_setWidth_23 : decode cX5_setWidth 23 = .ok (.getfield 51, 3) := by decide +kernel
theorem dX5_setWidth_26 : decode cX5_setWidth 26 = .ok (.istore_n 2, 1) := by decide +kernel
theorem dX5_setWidth_27 : decode cX5_setWidth 27 = .ok (.aload_n 0, 1) := by decide +kernel
theorem dX5_setWidth_28 : decode cX5_setWidth 28 = .ok (.iload_n 1, 1) := by decide +kernel
theorem dX5_setWidth_29 : decode cX5_setWidth 29 = .ok (.putfield 51, 3) := by decide +kernel
theorem dX5_setWidth_32 : decode cX5_setWidth 32 = .ok (.aload_n 0, 1) := by decide +kernel
theorem dX5_setWidth_33 : decode cX5_setWidth 33 = .ok (.getfield 34, 3) := by decide +kernel
theorem dX5_setWidth_36 : decode cX5_setWidth 36 = .ok (.astore_n 3, 1) := by decide +kernel
theorem dX5_setWidth_37 : decode cX5_setWidth 37 = .ok (.aload_n 3, 1) := by decide +kernel
theorem dX5_setWidth_38 : decode cX5_setWidth 38 = .ok (.arraylength, 1) := by decide +kernel
theorem dX5_setWidth_39 : decode cX5_setWidth 39 = .ok (.istore 4, 2) := by decide +kernel
theorem dX5_setWidth_41 : decode cX5_setWidth 41 = .ok (.iconst 0, 1) := by decide +kernel
theorem dX5_setWidth_42 : decode cX5_setWidth 42 = .ok (.istore 5, 2) := by decide +kernel
theorem dX5_setWidth_44 : decode cX5_setWidth 44 = .ok (.iload 5, 2) := by decide +kernel
theorem dX5_setWidth_46 : decode cX5_setWidth 46 = .ok (.iload 4, 2) := by decide +kernel
theorem dX5_setWidth_48 : decode cX5_setWidth 48 = .ok (.if_icmp .ge 26, 3) := by decide +kernel
theorem dX5_setWidth_51 : decode cX5_setWidth 51 = .ok (.aload_n 3, 1) := by decide +kernel
theorem dX5_setWidth_52 : decode cX5_setWidth 52 = .ok (.iload 5, 2) := by decide +kernel
theorem dX5_setWidth_54 : decode cX5_setWidth 54 = .ok (.aaload, 1) := by decide +kernel
theorem dX5_setWidth_55 : decode cX5_setWidth 55 = .ok (.astore 6, 2) := by decide +kernel
theorem dX5_setWidth_57 : decode cX5_setWidth 57 = .ok (.aload 6, 2) := by decide +kernel
theorem dX5_setWidth_59 : decode cX5_setWidth 59 = .ok (.ifnull 9, 3) := by decide +kernel
theorem dX5_setWidth_62 : decode cX5_setWidth 62 = .ok (.aload 6, 2) := by decide +kernel
theorem dX5_setWidth_64 : decode cX5_setWidth 64 = .ok (.iload_n 1, 1) := by decide +kernel
theorem dX5_setWidth_65 : decode cX5_setWidth 65 = .ok (.invokevirtual 173, 3) := by decide +kernel
theorem dX5_setWidth_68 : decode cX5_setWidth 68 = .ok (.iinc 5 1, 3) := by decide +kernel
theorem dX5_setWidth_71 : decode cX5_setWidth 71 = .ok (.goto (-27), 3) := by decide +kernel
theorem dX5_setWidth_74 : decode cX5_setWidth 74 = .ok (.iload_n 2, 1) := by decide +kernel
theorem dX5_setWidth_75 : decode cX5_setWidth 75 = .ok (.ireturn, 1) := by decide +kernel
theorem dX5_words_0 : decode cX5_words 0 = .ok (.aload_n 0, 1) := by decide +kernel
theorem dX5_words_1 : decode cX5_words 1 = .ok (.iload_n 1, 1) := by decide +kernel
theorem dX5_words_2 : decode cX5_words 2 = .ok (.invokevirtual 181, 3) := by decide +kernel
theorem dX5_words_5 : decode cX5_words 5 = .ok (.invokevirtual 176, 3) := by decide +kernel
theorem dX5_words_8 : decode cX5_words 8 = .ok (.ireturn, 1) := by decide +kernel
theorem dX5_length_0 : decode cX5_length 0 = .ok (.aload_n 0, 1) := by decide +kernel
theorem dX5_length_1 : decode cX5_length 1 = .ok (.iload_n 1, 1) := by decide +kernel
theorem dX5_length_2 : decode cX5_length 2 = .ok (.iload_n 2, 1) := by decide +kernel
theorem dX5_length_3 : decode cX5_length 3 = .ok (.invokevirtual 185, 3) := by decide +kernel
theorem dX5_length_6 : decode cX5_length 6 = .ok (.iload_n 2, 1) := by decide +kernel
theorem dX5_length_7 : decode cX5_length 7 = .ok (.invokevirtual 189, 3) := by decide +kernel
theorem dX5_length_10 : decode cX5_length 10 = .ok (.ireturn, 1) := by decide +kernel
theorem dX5_cellOf_0 : decode cX5_cellOf 0 = .ok (.aload_n 0, 1) := by decide +kernel
theorem dX5_cellOf_1 : decode cX5_cellOf 1 = .ok (.iload_n 1, 1) := by decide +kernel
theorem dX5_cellOf_2 : decode cX5_cellOf 2 = .ok (.iload_n 2, 1) := by decide +kernel
theorem dX5_cellOf_3 : decode cX5_cellOf 3 = .ok (.invokevirtual 185, 3) := by decide +kernel
theorem dX5_cellOf_6 : decode cX5_cellOf 6 = .ok (.astore 4, 2) := by decide +kernel
theorem dX5_cellOf_8 : decode cX5_cellOf 8 = .ok (.iload_n 3, 1) := by decide +kernel
theorem dX5_cellOf_9 : decode cX5_cellOf 9 = .ok (.ifCond .lt 13, 3) := by decide +kernel
theorem dX5_cellOf_12 : decode cX5_cellOf 12 = .ok (.iload_n 3, 1) := by decide +kernel
theorem dX5_cellOf_13 : decode cX5_cellOf 13 = .ok (.aload 4, 2) := by decide +kernel
theorem dX5_cellOf_15 : decode cX5_cellOf 15 = .ok (.iload_n 2, 1) := by decide +kernel
theorem dX5_cellOf_16 : decode cX5_cellOf 16 = .ok (.invokevirtual 189, 3) := by decide +kernel
theorem dX5_cellOf_19 : decode cX5_cellOf 19 = .ok (.if_icmp .lt 13, 3) := by decide +kernel
theorem dX5_cellOf_22 : decode cX5_cellOf 22 = .ok (.new 110, 3) := by decide +kernel
theorem dX5_cellOf_25 : decode cX5_cellOf 25 = .ok (.dup, 1) := by decide +kernel
theorem dX5_cellOf_26 : decode cX5_cellOf 26 = .ok (.ldc 192, 2) := by decide +kernel
theorem dX5_cellOf_28 : decode cX5_cellOf 28 = .ok (.invokespecial 114, 3) := by decide +kernel
theorem dX5_cellOf_31 : decode cX5_cellOf 31 = .ok (.athrow, 1) := by decide +kernel
theorem dX5_cellOf_32 : decode cX5_cellOf 32 = .ok (.aload 4, 2) := by decide +kernel
theorem dX5_cellOf_34 : decode cX5_cellOf 34 = .ok (.iload_n 2, 1) := by decide +kernel
theorem dX5_cellOf_35 : decode cX5_cellOf 35 = .ok (.iload_n 3, 1) := by decide +kernel
theorem dX5_cellOf_36 : decode cX5_cellOf 36 = .ok (.invokevirtual 194, 3) := by decide +kernel
theorem dX5_cellOf_39 : decode cX5_cellOf 39 = .ok (.ireturn, 1) := by decide +kernel
theorem dX5_lines_0 : decode cX5_lines 0 = .ok (.aload_n 0, 1) := by decide +kernel
theorem dX5_lines_1 : decode cX5_lines 1 = .ok (.iload_n 1, 1) := by decide +kernel
theorem dX5_lines_2 : decode cX5_lines 2 = .ok (.invokevirtual 181, 3) := by decide +kernel
theorem dX5_lines_5 : decode cX5_lines 5 = .ok (.invokevirtual 197, 3) := by decide +kernel
theorem dX5_lines_8 : decode cX5_lines 8 = .ok (.ireturn, 1) := by decide +kernel
theorem dX5_lineAt_0 : decode cX5_lineAt 0 = .ok (.aload_n 0, 1) := by decide +kernel
theorem dX5_lineAt_1 : decode cX5_lineAt 1 = .ok (.iload_n 1, 1) := by decide +kernel
theorem dX5_lineAt_2 : decode cX5_lineAt 2 = .ok (.invokevirtual 181, 3) := by decide +kernel
theorem dX5_lineAt_5 : decode cX5_lineAt 5 = .ok (.astore 4, 2) := by decide +kernel
theorem dX5_lineAt_7 : decode cX5_lineAt 7 = .ok (.iload_n 2, 1) := by decide +kernel
theorem dX5_lineAt_8 : decode cX5_lineAt 8 = .ok (.ifCond .lt 12, 3) := by decide +kernel
theorem dX5_lineAt_11 : decode cX5_lineAt 11 = .ok (.iload_n 2, 1) := by decide +kernel
theorem dX5_lineAt_12 : decode cX5_lineAt 12 = .ok (.aload 4, 2) := by decide +kernel
theorem dX5_lineAt_14 : decode cX5_lineAt 14 = .ok (.invokevirtual 197, 3) := by decide +kernel
theorem dX5_lineAt_17 : decode cX5_lineAt 17 = .ok (.if_icmp .lt 13, 3) := by decide +kernel
theorem dX5_lineAt_20 : decode cX5_lineAt 20 = .ok (.new 123, 3) := by decide +kernel
theorem dX5_lineAt_23 : decode cX5_lineAt 23 = .ok (.dup, 1) := by decide +kernel
theorem dX5_lineAt_24 : decode cX5_lineAt 24 = .ok (.ldc 200, 2) := by decide +kernel
theorem dX5_lineAt_26 : decode cX5_lineAt 26 = .ok (.invokespecial 127, 3) := by decide +kernel
theorem dX5_lineAt_29 : decode cX5_lineAt 29 = .ok (.athrow, 1) := by decide +kernel
theorem dX5_lineAt_30 : decode cX5_lineAt 30 = .ok (.iload_n 3, 1) := by decide +kernel
theorem dX5_lineAt_31 : decode cX5_lineAt 31 = .ok (.ifCond .lt 13, 3) := by decide +kernel
theorem dX5_lineAt_34 : decode cX5_lineAt 34 = .ok (.iload_n 3, 1) := by decide +kernel
theorem dX5_lineAt_35 : decode cX5_lineAt 35 = .ok (.aload 4, 2) := by decide +kernel
theorem dX5_lineAt_37 : decode cX5_lineAt 37 = .ok (.iload_n 2, 1) := by decide +kernel
theorem dX5_lineAt_38 : decode cX5_lineAt 38 = .ok (.invokevirtual 202, 3) := by decide +kernel
theorem dX5_lineAt_41 : decode cX5_lineAt 41 = .ok (.if_icmp .lt 13, 3) := by decide +kernel
theorem dX5_lineAt_44 : decode cX5_lineAt 44 = .ok (.new 110, 3) := by decide +kernel
theorem dX5_lineAt_47 : decode cX5_lineAt 47 = .ok (.dup, 1) := by decide +kernel
theorem dX5_lineAt_48 : decode cX5_lineAt 48 = .ok (.ldc 205, 2) := by decide +kernel
theorem dX5_lineAt_50 : decode cX5_lineAt 50 = .ok (.invokespecial 114, 3) := by decide +kernel
theorem dX5_lineAt_53 : decode cX5_lineAt 53 = .ok (.athrow, 1) := by decide +kernel
theorem dX5_lineAt_54 : decode cX5_lineAt 54 = .ok (.aload 4, 2) := by decide +kernel
theorem dX5_lineAt_56 : decode cX5_lineAt 56 = .ok (.iload_n 2, 1) := by decide +kernel
theorem dX5_lineAt_57 : decode cX5_lineAt 57 = .ok (.iload_n 3, 1) := by decide +kernel
theorem dX5_lineAt_58 : decode cX5_lineAt 58 = .ok (.invokevirtual 207, 3) := by decide +kernel
theorem dX5_lineAt_61 : decode cX5_lineAt 61 = .ok (.ireturn, 1) := by decide +kernel
theorem dX5_lineOf_0 : decode cX5_lineOf 0 = .ok (.aload_n 0, 1) := by decide +kernel
theorem dX5_lineOf_1 : decode cX5_lineOf 1 = .ok (.iload_n 1, 1) := by decide +kernel
theorem dX5_lineOf_2 : decode cX5_lineOf 2 = .ok (.iload_n 2, 1) := by decide +kernel
theorem dX5_lineOf_3 : decode cX5_lineOf 3 = .ok (.invokevirtual 185, 3) := by decide +kernel
theorem dX5_lineOf_6 : decode cX5_lineOf 6 = .ok (.iload_n 2, 1) := by decide +kernel
theorem dX5_lineOf_7 : decode cX5_lineOf 7 = .ok (.invokevirtual 210, 3) := by decide +kernel
theorem dX5_lineOf_10 : decode cX5_lineOf 10 = .ok (.ireturn, 1) := by decide +kernel
theorem dX5_emboss_0 : decode cX5_emboss 0 = .ok (.aload_n 0, 1) := by decide +kernel
theorem dX5_emboss_1 : decode cX5_emboss 1 = .ok (.iload_n 1, 1) := by decide +kernel
theorem dX5_emboss_2 : decode cX5_emboss 2 = .ok (.invokevirtual 181, 3) := by decide +kernel
theorem dX5_emboss_5 : decode cX5_emboss 5 = .ok (.astore_n 2, 1) := by decide +kernel
theorem dX5_emboss_6 : decode cX5_emboss 6 = .ok (.aload_n 0, 1) := by decide +kernel
theorem dX5_emboss_7 : decode cX5_emboss 7 = .ok (.getfield 28, 3) := by decide +kernel
theorem dX5_emboss_10 : decode cX5_emboss 10 = .ok (.invokevirtual 213, 3) := by decide +kernel
theorem dX5_emboss_13 : decode cX5_emboss 13 = .ok (.iconst 0, 1) := by decide +kernel
theorem dX5_emboss_14 : decode cX5_emboss 14 = .ok (.istore_n 3, 1) := by decide +kernel
theorem dX5_emboss_15 : decode cX5_emboss 15 = .ok (.iconst 0, 1) := by decide +kernel
theorem dX5_emboss_16 : decode cX5_emboss 16 = .ok (.istore 4, 2) := by decide +kernel
theorem dX5_emboss_18 : decode cX5_emboss 18 = .ok (.iconst (-1), 1) := by decide +kernel
theorem dX5_emboss_19 : decode cX5_emboss 19 = .ok (.istore 5, 2) := by decide +kernel
theorem dX5_emboss_21 : decode cX5_emboss 21 = .ok (.iconst 0, 1) := by decide +kernel
theorem dX5_emboss_22 : decode cX5_emboss 22 = .ok (.istore 6, 2) := by decide +kernel
theorem dX5_emboss_24 : decode cX5_emboss 24 = .ok (.iload 6, 2) := by decide +kernel
theorem dX5_emboss_26 : decode cX5_emboss 26 = .ok (.aload_n 2, 1) := by decide +kernel
theorem dX5_emboss_27 : decode cX5_emboss 27 = .ok (.invokevirtual 197, 3) := by decide +kernel
theorem dX5_emboss_30 : decode cX5_emboss 30 = .ok (.if_icmp .ge 53, 3) := by decide +kernel
theorem dX5_emboss_33 : decode cX5_emboss 33 = .ok (.aload_n 2, 1) := by decide +kernel
theorem dX5_emboss_34 : decode cX5_emboss 34 = .ok (.iload 6, 2) := by decide +kernel
theorem dX5_emboss_36 : decode cX5_emboss 36 = .ok (.invokevirtual 216, 3) := by decide +kernel
theorem dX5_emboss_39 : decode cX5_emboss 39 = .ok (.ifCond .eq 38, 3) := by decide +kernel
theorem dX5_emboss_42 : decode cX5_emboss 42 = .ok (.aload_n 0, 1) := by decide +kernel
theorem dX5_emboss_43 : decode cX5_emboss 43 = .ok (.aload_n 2, 1) := by decide +kernel
theorem dX5_emboss_44 : decode cX5_emboss 44 = .ok (.iload 6, 2) := by decide +kernel
theorem dX5_emboss_46 : decode cX5_emboss 46 = .ok (.invokevirtual 219, 3) := by decide +kernel
theorem dX5_emboss_49 : decode cX5_emboss 49 = .ok (.iinc 4 1, 3) := by decide +kernel
theorem dX5_emboss_52 : decode cX5_emboss 52 = .ok (.iload 6, 2) := by decide +kernel
theorem dX5_emboss_54 : decode cX5_emboss 54 = .ok (.iconst 4, 1) := by decide +kernel
theorem dX5_emboss_55 : decode cX5_emboss 55 = .ok (.idiv, 1) := by decide +kernel
theorem dX5_emboss_56 : decode cX5_emboss 56 = .ok (.istore 7, 2) := by decide +kernel
theorem dX5_emboss_58 : decode cX5_emboss 58 = .ok (.iload_n 3, 1) := by decide +kernel
theorem dX5_emboss_59 : decode cX5_emboss 59 = .ok (.iload 7, 2) := by decide +kernel
theorem dX5_emboss_61 : decode cX5_emboss 61 = .ok (.iload 5, 2) := by decide +kernel
theorem dX5_emboss_63 : decode cX5_emboss 63 = .ok (.if_icmp .ne 7, 3) := by decide +kernel
theorem dX5_emboss_66 : decode cX5_emboss 66 = .ok (.iconst 0, 1) := by decide +kernel
theorem dX5_emboss_67 : decode cX5_emboss 67 = .ok (.goto 4, 3) := by decide +kernel
theorem dX5_emboss_70 : decode cX5_emboss 70 = .ok (.iconst 1, 1) := by decide +kernel
theorem dX5_emboss_71 : decode cX5_emboss 71 = .ok (.iadd, 1) := by decide +kernel
theorem dX5_emboss_72 : decode cX5_emboss 72 = .ok (.istore_n 3, 1) := by decide +kernel
theorem dX5_emboss_73 : decode cX5_emboss 73 = .ok (.iload 7, 2) := by decide +kernel
theorem dX5_emboss_75 : decode cX5_emboss 75 = .ok (.istore 5, 2) := by decide +kernel
theorem dX5_emboss_77 : decode cX5_emboss 77 = .ok (.iinc 6 1, 3) := by decide +kernel
theorem dX5_emboss_80 : decode cX5_emboss 80 = .ok (.goto (-56), 3) := by decide +kernel
theorem dX5_emboss_83 : decode cX5_emboss 83 = .ok (.aload_n 0, 1) := by decide +kernel
theorem dX5_emboss_84 : decode cX5_emboss 84 = .ok (.getfield 28, 3) := by decide +kernel
theorem dX5_emboss_87 : decode cX5_emboss 87 = .ok (.invokevirtual 223, 3) := by decide +kernel
theorem dX5_emboss_90 : decode cX5_emboss 90 = .ok (.ifCond .ne 13, 3) := by decide +kernel
theorem dX5_emboss_93 : decode cX5_emboss 93 = .ok (.new 65, 3) := by decide +kernel
theorem dX5_emboss_96 : decode cX5_emboss 96 = .ok (.dup, 1) := by decide +kernel
theorem dX5_emboss_97 : decode cX5_emboss 97 = .ok (.ldc 226, 2) := by decide +kernel
theorem dX5_emboss_99 : decode cX5_emboss 99 = .ok (.invokespecial 69, 3) := by decide +kernel
theorem dX5_emboss_102 : decode cX5_emboss 102 = .ok (.athrow, 1) := by decide +kernel
theorem dX5_emboss_103 : decode cX5_emboss 103 = .ok (.aload_n 0, 1) := by decide +kernel
theorem dX5_emboss_104 : decode cX5_emboss 104 = .ok (.getfield 28, 3) := by decide +kernel
theorem dX5_emboss_107 : decode cX5_emboss 107 = .ok (.invokevirtual 228, 3) := by decide +kernel
theorem dX5_emboss_110 : decode cX5_emboss 110 = .ok (.aload_n 2, 1) := by decide +kernel
theorem dX5_emboss_111 : decode cX5_emboss 111 = .ok (.invokevirtual 231, 3) := by decide +kernel
theorem dX5_emboss_114 : decode cX5_emboss 114 = .ok (.bipush 100, 2) := by decide +kernel
theorem dX5_emboss_116 : decode cX5_emboss 116 = .ok (.iload_n 3, 1) := by decide +kernel
theorem dX5_emboss_117 : decode cX5_emboss 117 = .ok (.imul, 1) := by decide +kernel
theorem dX5_emboss_118 : decode cX5_emboss 118 = .ok (.iload 4, 2) := by decide +kernel
theorem dX5_emboss_120 : decode cX5_emboss 120 = .ok (.iadd, 1) := by decide +kernel
theorem dX5_emboss_121 : decode cX5_emboss 121 = .ok (.ireturn, 1) := by decide +kernel
theorem dX5_changed_0 : decode cX5_changed 0 = .ok (.aload_n 0, 1) := by decide +kernel
theorem dX5_changed_1 : decode cX5_changed 1 = .ok (.iload_n 1, 1) := by decide +kernel
theorem dX5_changed_2 : decode cX5_changed 2 = .ok (.invokevirtual 181, 3) := by decide +kernel
theorem dX5_changed_5 : decode cX5_changed 5 = .ok (.invokevirtual 234, 3) := by decide +kernel
theorem dX5_changed_8 : decode cX5_changed 8 = .ok (.ireturn, 1) := by decide +kernel
theorem dX5_setBearing_0 : decode cX5_setBearing 0 = .ok (.iload_n 1, 1) := by decide +kernel
theorem dX5_setBearing_1 : decode cX5_setBearing 1 = .ok (.bipush 10, 2) := by decide +kernel
theorem dX5_setBearing_3 : decode cX5_setBearing 3 = .ok (.if_icmp .lt 10, 3) := by decide +kernel
theorem dX5_setBearing_6 : decode cX5_setBearing 6 = .ok (.iload_n 1, 1) := by decide +kernel
theorem dX5_setBearing_7 : decode cX5_setBearing 7 = .ok (.sipush 9999, 3) := by decide +kernel
theorem dX5_setBearing_10 : decode cX5_setBearing 10 = .ok (.if_icmp .le 13, 3) := by decide +kernel
theorem dX5_setBearing_13 : decode cX5_setBearing 13 = .ok (.new 54, 3) := by decide +kernel
theorem dX5_setBearing_16 : decode cX5_setBearing 16 = .ok (.dup, 1) := by decide +kernel
theorem dX5_setBearing_17 : decode cX5_setBearing 17 = .ok (.ldc 237, 2) := by decide +kernel
theorem dX5_setBearing_19 : decode cX5_setBearing 19 = .ok (.invokespecial 58, 3) := by decide +kernel
theorem dX5_setBearing_22 : decode cX5_setBearing 22 = .ok (.athrow, 1) := by decide +kernel
theorem dX5_setBearing_23 : decode cX5_setBearing 23 = .ok (.aload_n 0, 1) := by decide +kernel
theorem dX5_setBearing_24 : decode cX5_setBearing 24 = .ok (.getfield 28, 3) := by decide +kernel
theorem dX5_setBearing_27 : decode cX5_setBearing 27 = .ok (.iload_n 1, 1) := by decide +kernel
theorem dX5_setBearing_28 : decode cX5_setBearing 28 = .ok (.invokevirtual 239, 3) := by decide +kernel
theorem dX5_setBearing_31 : decode cX5_setBearing 31 = .ok (.ireturn, 1) := by decide +kernel
theorem dX5_replace_0 : decode cX5_replace 0 = .ok (.iload_n 1, 1) := by decide +kernel
theorem dX5_replace_1 : decode cX5_replace 1 = .ok (.iconst 1, 1) := by decide +kernel
theorem dX5_replace_2 : decode cX5_replace 2 = .ok (.if_icmp .lt 9, 3) := by decide +kernel
theorem dX5_replace_5 : decode cX5_replace 5 = .ok (.iload_n 1, 1) := by decide +kernel
theorem dX5_replace_6 : decode cX5_replace 6 = .ok (.bipush 6, 2) := by decide +kernel
theorem dX5_replace_8 : decode cX5_replace 8 = .ok (.if_icmp .le 13, 3) := by decide +kernel
theorem dX5_replace_11 : decode cX5_replace 11 = .ok (.new 123, 3) := by decide +kernel
theorem dX5_replace_14 : decode cX5_replace 14 = .ok (.dup, 1) := by decide +kernel
theorem dX5_replace_15 : decode cX5_replace 15 = .ok (.ldc 242, 2) := by decide +kernel
theorem dX5_replace_17 : decode cX5_replace 17 = .ok (.invokespecial 127, 3) := by decide +kernel
theorem dX5_replace_20 : decode cX5_replace 20 = .ok (.athrow, 1) := by decide +kernel
theorem dX5_replace_21 : decode cX5_replace 21 = .ok (.aload_n 0, 1) := by decide +kernel
theorem dX5_replace_22 : decode cX5_replace 22 = .ok (.getfield 28, 3) := by decide +kernel
theorem dX5_replace_25 : decode cX5_replace 25 = .ok (.iload_n 1, 1) := by decide +kernel
theorem dX5_replace_26 : decode cX5_replace 26 = .ok (.invokevirtual 244, 3) := by decide +kernel
theorem dX5_replace_29 : decode cX5_replace 29 = .ok (.ireturn, 1) := by decide +kernel
theorem dX5_strikes_0 : decode cX5_strikes 0 = .ok (.iload_n 1, 1) := by decide +kernel
theorem dX5_strikes_1 : decode cX5_strikes 1 = .ok (.iconst 1, 1) := by decide +kernel
theorem dX5_strikes_2 : decode cX5_strikes 2 = .ok (.if_icmp .lt 9, 3) := by decide +kernel
theorem dX5_strikes_5 : decode cX5_strikes 5 = .ok (.iload_n 1, 1) := by decide +kernel
theorem dX5_strikes_6 : decode cX5_strikes 6 = .ok (.bipush 6, 2) := by decide +kernel
theorem dX5_strikes_8 : decode cX5_strikes 8 = .ok (.if_icmp .le 13, 3) := by decide +kernel
theorem dX5_strikes_11 : decode cX5_strikes 11 = .ok (.new 123, 3) := by decide +kernel
theorem dX5_strikes_14 : decode cX5_strikes 14 = .ok (.dup, 1) := by decide +kernel
theorem dX5_strikes_15 : decode cX5_strikes 15 = .ok (.ldc 242, 2) := by decide +kernel
theorem dX5_strikes_17 : decode cX5_strikes 17 = .ok (.invokespecial 127, 3) := by decide +kernel
theorem dX5_strikes_20 : decode cX5_strikes 20 = .ok (.athrow, 1) := by decide +kernel
theorem dX5_strikes_21 : decode cX5_strikes 21 = .ok (.aload_n 0, 1) := by decide +kernel
theorem dX5_strikes_22 : decode cX5_strikes 22 = .ok (.getfield 28, 3) := by decide +kernel
theorem dX5_strikes_25 : decode cX5_strikes 25 = .ok (.iload_n 1, 1) := by decide +kernel
theorem dX5_strikes_26 : decode cX5_strikes 26 = .ok (.invokevirtual 247, 3) := by decide +kernel
theorem dX5_strikes_29 : decode cX5_strikes 29 = .ok (.ireturn, 1) := by decide +kernel
theorem dX5_mark_0 : decode cX5_mark 0 = .ok (.iload_n 1, 1) := by decide +kernel
theorem dX5_mark_1 : decode cX5_mark 1 = .ok (.invokestatic 250, 3) := by decide +kernel
theorem dX5_mark_4 : decode cX5_mark 4 = .ok (.ifCond .ne 13, 3) := by decide +kernel
theorem dX5_mark_7 : decode cX5_mark 7 = .ok (.new 123, 3) := by decide +kernel
theorem dX5_mark_10 : decode cX5_mark 10 = .ok (.dup, 1) := by decide +kernel
theorem dX5_mark_11 : decode cX5_mark 11 = .ok (.ldc 253, 2) := by decide +kernel
theorem dX5_mark_13 : decode cX5_mark 13 = .ok (.invokespecial 127, 3) := by decide +kernel
theorem dX5_mark_16 : decode cX5_mark 16 = .ok (.athrow, 1) := by decide +kernel
theorem dX5_mark_17 : decode cX5_mark 17 = .ok (.aload_n 0, 1) := by decide +kernel
theorem dX5_mark_18 : decode cX5_mark 18 = .ok (.iload_n 2, 1) := by decide +kernel
theorem dX5_mark_19 : decode cX5_mark 19 = .ok (.iload_n 3, 1) := by decide +kernel
theorem dX5_mark_20 : decode cX5_mark 20 = .ok (.invokevirtual 185, 3) := by decide +kernel
theorem dX5_mark_23 : decode cX5_mark 23 = .ok (.astore 5, 2) := by decide +kernel
theorem dX5_mark_25 : decode cX5_mark 25 = .ok (.iload 4, 2) := by decide +kernel
theorem dX5_mark_27 : decode cX5_mark 27 = .ok (.ifCond .eq 8, 3) := by decide +kernel
theorem dX5_mark_30 : decode cX5_mark 30 = .ok (.bipush 114, 2) := by decide +kernel
theorem dX5_mark_32 : decode cX5_mark 32 = .ok (.goto 5, 3) := by decide +kernel
theorem dX5_mark_35 : decode cX5_mark 35 = .ok (.bipush 119, 2) := by decide +kernel
theorem dX5_mark_37 : decode cX5_mark 37 = .ok (.istore 6, 2) := by decide +kernel
theorem dX5_mark_39 : decode cX5_mark 39 = .ok (.aload 5, 2) := by decide +kernel
theorem dX5_mark_41 : decode cX5_mark 41 = .ok (.iload_n 1, 1) := by decide +kernel
theorem dX5_mark_42 : decode cX5_mark 42 = .ok (.iload_n 3, 1) := by decide +kernel
theorem dX5_mark_43 : decode cX5_mark 43 = .ok (.iload 6, 2) := by decide +kernel
theorem dX5_mark_45 : decode cX5_mark 45 = .ok (.invokevirtual 255, 3) := by decide +kernel
theorem dX5_mark_48 : decode cX5_mark 48 = .ok (.aload 5, 2) := by decide +kernel
theorem dX5_mark_50 : decode cX5_mark 50 = .ok (.iconst 1, 1) := by decide +kernel
theorem dX5_mark_51 : decode cX5_mark 51 = .ok (.iload_n 1, 1) := by decide +kernel
theorem dX5_mark_52 : decode cX5_mark 52 = .ok (.isub, 1) := by decide +kernel
theorem dX5_mark_53 : decode cX5_mark 53 = .ok (.iload_n 3, 1) := by decide +kernel
theorem dX5_mark_54 : decode cX5_mark 54 = .ok (.invokevirtual 259, 3) := by decide +kernel
theorem dX5_mark_57 : decode cX5_mark 57 = .ok (.iload 6, 2) := by decide +kernel
theorem dX5_mark_59 : decode cX5_mark 59 = .ok (.if_icmp .ne 7, 3) := by decide +kernel
theorem dX5_mark_62 : decode cX5_mark 62 = .ok (.iconst 1, 1) := by decide +kernel
theorem dX5_mark_63 : decode cX5_mark 63 = .ok (.goto 4, 3) := by decide +kernel
theorem dX5_mark_66 : decode cX5_mark 66 = .ok (.iconst 0, 1) := by decide +kernel
theorem dX5_mark_67 : decode cX5_mark 67 = .ok (.ireturn, 1) := by decide +kernel
theorem dX5_markOf_0 : decode cX5_markOf 0 = .ok (.iload_n 1, 1) := by decide +kernel
theorem dX5_markOf_1 : decode cX5_markOf 1 = .ok (.invokestatic 250, 3) := by decide +kernel
theorem dX5_markOf_4 : decode cX5_markOf 4 = .ok (.ifCond .ne 13, 3) := by decide +kernel
theorem dX5_markOf_7 : decode cX5_markOf 7 = .ok (.new 123, 3) := by decide +kernel
theorem dX5_markOf_10 : decode cX5_markOf 10 = .ok (.dup, 1) := by decide +kernel
theorem dX5_markOf_11 : decode cX5_markOf 11 = .ok (.ldc 253, 2) := by decide +kernel
theorem dX5_markOf_13 : decode cX5_markOf 13 = .ok (.invokespecial 127, 3) := by decide +kernel
theorem dX5_markOf_16 : decode cX5_markOf 16 = .ok (.athrow, 1) := by decide +kernel
theorem dX5_markOf_17 : decode cX5_markOf 17 = .ok (.aload_n 0, 1) := by decide +kernel
theorem dX5_markOf_18 : decode cX5_markOf 18 = .ok (.iload_n 2, 1) := by decide +kernel
theorem dX5_markOf_19 : decode cX5_markOf 19 = .ok (.iload_n 3, 1) := by decide +kernel
theorem dX5_markOf_20 : decode cX5_markOf 20 = .ok (.invokevirtual 185, 3) := by decide +kernel
theorem dX5_markOf_23 : decode cX5_markOf 23 = .ok (.iload_n 1, 1) := by decide +kernel
theorem dX5_markOf_24 : decode cX5_markOf 24 = .ok (.iload_n 3, 1) := by decide +kernel
theorem dX5_markOf_25 : decode cX5_markOf 25 = .ok (.invokevirtual 259, 3) := by decide +kernel
theorem dX5_markOf_28 : decode cX5_markOf 28 = .ok (.ireturn, 1) := by decide +kernel
theorem dX5_isSound_0 : decode cX5_isSound 0 = .ok (.aload_n 0, 1) := by decide +kernel
theorem dX5_isSound_1 : decode cX5_isSound 1 = .ok (.getfield 34, 3) := by decide +kernel
theorem dX5_isSound_4 : decode cX5_isSound 4 = .ok (.astore_n 1, 1) := by decide +kernel
theorem dX5_isSound_5 : decode cX5_isSound 5 = .ok (.aload_n 1, 1) := by decide +kernel
theorem dX5_isSound_6 : decode cX5_isSound 6 = .ok (.arraylength, 1) := by decide +kernel
theorem dX5_isSound_7 : decode cX5_isSound 7 = .ok (.istore_n 2, 1) := by decide +kernel
theorem dX5_isSound_8 : decode cX5_isSound 8 = .ok (.iconst 0, 1) := by decide +kernel
theorem dX5_isSound_9 : decode cX5_isSound 9 = .ok (.istore_n 3, 1) := by decide +kernel
theorem dX5_isSound_10 : decode cX5_isSound 10 = .ok (.iload_n 3, 1) := by decide +kernel
theorem dX5_isSound_11 : decode cX5_isSound 11 = .ok (.iload_n 2, 1) := by decide +kernel
theorem dX5_isSound_12 : decode cX5_isSound 12 = .ok (.if_icmp .ge 33, 3) := by decide +kernel
theorem dX5_isSound_15 : decode cX5_isSound 15 = .ok (.aload_n 1, 1) := by decide +kernel
theorem dX5_isSound_16 : decode cX5_isSound 16 = .ok (.iload_n 3, 1) := by decide +kernel
theorem dX5_isSound_17 : decode cX5_isSound 17 = .ok (.aaload, 1) := by decide +kernel
theorem dX5_isSound_18 : decode cX5_isSound 18 = .ok (.astore 4, 2) := by decide +kernel
theorem dX5_isSound_20 : decode cX5_isSound 20 = .ok (.aload 4, 2) := by decide +kernel
theorem dX5_isSound_22 : decode cX5_isSound 22 = .ok (.ifnull 17, 3) := by decide +kernel
theorem dX5_isSound_25 : decode cX5_isSound 25 = .ok (.aload 4, 2) := by decide +kernel
theorem dX5_isSound_27 : decode cX5_isSound 27 = .ok (.aload_n 0, 1) := by decide +kernel
theorem dX5_isSound_28 : decode cX5_isSound 28 = .ok (.getfield 51, 3) := by decide +kernel
theorem dX5_isSound_31 : decode cX5_isSound 31 = .ok (.invokevirtual 280, 3) := by decide +kernel
theorem dX5_isSound_34 : decode cX5_isSound 34 = .ok (.ifCond .ne 5, 3) := by decide +kernel
theorem dX5_isSound_37 : decode cX5_isSound 37 = .ok (.iconst 0, 1) := by decide +kernel
theorem dX5_isSound_38 : decode cX5_isSound 38 = .ok (.ireturn, 1) := by decide +kernel
theorem dX5_isSound_39 : decode cX5_isSound 39 = .ok (.iinc 3 1, 3) := by decide +kernel
theorem dX5_isSound_42 : decode cX5_isSound 42 = .ok (.goto (-32), 3) := by decide +kernel
theorem dX5_isSound_45 : decode cX5_isSound 45 = .ok (.aload_n 0, 1) := by decide +kernel
theorem dX5_isSound_46 : decode cX5_isSound 46 = .ok (.getfield 21, 3) := by decide +kernel
theorem dX5_isSound_49 : decode cX5_isSound 49 = .ok (.invokevirtual 283, 3) := by decide +kernel
theorem dX5_isSound_52 : decode cX5_isSound 52 = .ok (.ireturn, 1) := by decide +kernel
theorem dX5_isGrade_0 : decode cX5_isGrade 0 = .ok (.iload_n 0, 1) := by decide +kernel
theorem dX5_isGrade_1 : decode cX5_isGrade 1 = .ok (.iconst 1, 1) := by decide +kernel
theorem dX5_isGrade_2 : decode cX5_isGrade 2 = .ok (.if_icmp .lt 12, 3) := by decide +kernel
theorem dX5_isGrade_5 : decode cX5_isGrade 5 = .ok (.iload_n 0, 1) := by decide +kernel
theorem dX5_isGrade_6 : decode cX5_isGrade 6 = .ok (.iconst 2, 1) := by decide +kernel
theorem dX5_isGrade_7 : decode cX5_isGrade 7 = .ok (.if_icmp .gt 7, 3) := by decide +kernel
theorem dX5_isGrade_10 : decode cX5_isGrade 10 = .ok (.iconst 1, 1) := by decide +kernel
theorem dX5_isGrade_11 : decode cX5_isGrade 11 = .ok (.goto 4, 3) := by decide +kernel
theorem dX5_isGrade_14 : decode cX5_isGrade 14 = .ok (.iconst 0, 1) := by decide +kernel
theorem dX5_isGrade_15 : decode cX5_isGrade 15 = .ok (.ireturn, 1) := by decide +kernel
theorem dX5_isRule_0 : decode cX5_isRule 0 = .ok (.iload_n 0, 1) := by decide +kernel
theorem dX5_isRule_1 : decode cX5_isRule 1 = .ok (.invokestatic 159, 3) := by decide +kernel
theorem dX5_isRule_4 : decode cX5_isRule 4 = .ok (.ifCond .eq 28, 3) := by decide +kernel
theorem dX5_isRule_7 : decode cX5_isRule 7 = .ok (.iload_n 1, 1) := by decide +kernel
theorem dX5_isRule_8 : decode cX5_isRule 8 = .ok (.iconst 1, 1) := by decide +kernel
theorem dX5_isRule_9 : decode cX5_isRule 9 = .ok (.if_icmp .lt 23, 3) := by decide +kernel
theorem dX5_isRule_12 : decode cX5_isRule 12 = .ok (.iload_n 1, 1) := by decide +kernel
theorem dX5_isRule_13 : decode cX5_isRule 13 = .ok (.bipush 63, 2) := by decide +kernel
theorem dX5_isRule_15 : decode cX5_isRule 15 = .ok (.if_icmp .gt 17, 3) := by decide +kernel
theorem dX5_isRule_18 : decode cX5_isRule 18 = .ok (.iload_n 2, 1) := by decide +kernel
theorem dX5_isRule_19 : decode cX5_isRule 19 = .ok (.ifCond .lt 13, 3) := by decide +kernel
theorem dX5_isRule_22 : decode cX5_isRule 22 = .ok (.iload_n 2, 1) := by decide +kernel
theorem dX5_isRule_23 : decode cX5_isRule 23 = .ok (.bipush 63, 2) := by decide +kernel
theorem dX5_isRule_25 : decode cX5_isRule 25 = .ok (.if_icmp .gt 7, 3) := by decide +kernel
theorem dX5_isRule_28 : decode cX5_isRule 28 = .ok (.iconst 1, 1) := by decide +kernel
theorem dX5_isRule_29 : decode cX5_isRule 29 = .ok (.goto 4, 3) := by decide +kernel
theorem dX5_isRule_32 : decode cX5_isRule 32 = .ok (.iconst 0, 1) := by decide +kernel
theorem dX5_isRule_33 : decode cX5_isRule 33 = .ok (.ireturn, 1) := by decide +kernel
theorem dX5_isReader_0 : decode cX5_isReader 0 = .ok (.iload_n 0, 1) := by decide +kernel
theorem dX5_isReader_1 : decode cX5_isReader 1 = .ok (.ifCond .lt 12, 3) := by decide +kernel
theorem dX5_isReader_4 : decode cX5_isReader 4 = .ok (.iload_n 0, 1) := by decide +kernel
theorem dX5_isReader_5 : decode cX5_isReader 5 = .ok (.iconst 2, 1) := by decide +kernel
theorem dX5_isReader_6 : decode cX5_isReader 6 = .ok (.if_icmp .ge 7, 3) := by decide +kernel
theorem dX5_isReader_9 : decode cX5_isReader 9 = .ok (.iconst 1, 1) := by decide +kernel
theorem dX5_isReader_10 : decode cX5_isReader 10 = .ok (.goto 4, 3) := by decide +kernel
theorem dX5_isReader_13 : decode cX5_isReader 13 = .ok (.iconst 0, 1) := by decide +kernel
theorem dX5_isReader_14 : decode cX5_isReader 14 = .ok (.ireturn, 1) := by decide +kernel
theorem dX5_typedKey_0 : decode cX5_typedKey 0 = .ok (.aload_n 0, 1) := by decide +kernel
theorem dX5_typedKey_1 : decode cX5_typedKey 1 = .ok (.getfield 14, 3) := by decide +kernel
theorem dX5_typedKey_4 : decode cX5_typedKey 4 = .ok (.bipush 32, 2) := by decide +kernel
theorem dX5_typedKey_6 : decode cX5_typedKey 6 = .ok (.invokevirtual 138, 3) := by decide +kernel
theorem dX5_typedKey_9 : decode cX5_typedKey 9 = .ok (.iconst (-1), 1) := by decide +kernel
theorem dX5_typedKey_10 : decode cX5_typedKey 10 = .ok (.if_icmp .eq 5, 3) := by decide +kernel
theorem dX5_typedKey_13 : decode cX5_typedKey 13 = .ok (.iconst 0, 1) := by decide +kernel
theorem dX5_typedKey_14 : decode cX5_typedKey 14 = .ok (.ireturn, 1) := by decide +kernel
theorem dX5_typedKey_15 : decode cX5_typedKey 15 = .ok (.aload_n 0, 1) := by decide +kernel
theorem dX5_typedKey_16 : decode cX5_typedKey 16 = .ok (.getfield 14, 3) := by decide +kernel
theorem dX5_typedKey_19 : decode cX5_typedKey 19 = .ok (.iconst 0, 1) := by decide +kernel
theorem dX5_typedKey_20 : decode cX5_typedKey 20 = .ok (.aload_n 0, 1) := by decide +kernel
theorem dX5_typedKey_21 : decode cX5_typedKey 21 = .ok (.getfield 14, 3) := by decide +kernel
theorem dX5_typedKey_24 : decode cX5_typedKey 24 = .ok (.invokevirtual 73, 3) := by decide +kernel
theorem dX5_typedKey_27 : decode cX5_typedKey 27 = .ok (.invokestatic 286, 3) := by decide +kernel
theorem dX5_typedKey_30 : decode cX5_typedKey 30 = .ok (.ireturn, 1) := by decide +kernel
theorem dX5_textNumbered_0 : decode cX5_textNumbered 0 = .ok (.iload_n 1, 1) := by decide +kernel
theorem dX5_textNumbered_1 : decode cX5_textNumbered 1 = .ok (.ifCond .lt 12, 3) := by decide +kernel
theorem dX5_textNumbered_4 : decode cX5_textNumbered 4 = .ok (.iload_n 1, 1) := by decide +kernel
theorem dX5_textNumbered_5 : decode cX5_textNumbered 5 = .ok (.aload_n 0, 1) := by decide +kernel
theorem dX5_textNumbered_6 : decode cX5_textNumbered 6 = .ok (.getfield 34, 3) := by decide +kernel
theorem dX5_textNumbered_9 : decode cX5_textNumbered 9 = .ok (.arraylength, 1) := by decide +kernel
theorem dX5_textNumbered_10 : decode cX5_textNumbered 10 = .ok (.if_icmp .lt 7, 3) := by decide +kernel
theorem dX5_textNumbered_13 : decode cX5_textNumbered 13 = .ok (.aconst_null, 1) := by decide +kernel
theorem dX5_textNumbered_14 : decode cX5_textNumbered 14 = .ok (.goto 9, 3) := by decide +kernel
theorem dX5_textNumbered_17 : decode cX5_textNumbered 17 = .ok (.aload_n 0, 1) := by decide +kernel
theorem dX5_textNumbered_18 : decode cX5_textNumbered 18 = .ok (.getfield 34, 3) := by decide +kernel
theorem dX5_textNumbered_21 : decode cX5_textNumbered 21 = .ok (.iload_n 1, 1) := by decide +kernel
theorem dX5_textNumbered_22 : decode cX5_textNumbered 22 = .ok (.aaload, 1) := by decide +kernel
theorem dX5_textNumbered_23 : decode cX5_textNumbered 23 = .ok (.astore_n 2, 1) := by decide +kernel
theorem dX5_textNumbered_24 : decode cX5_textNumbered 24 = .ok (.aload_n 2, 1) := by decide +kernel
theorem dX5_textNumbered_25 : decode cX5_textNumbered 25 = .ok (.ifnonnull 14, 3) := by decide +kernel
theorem dX5_textNumbered_28 : decode cX5_textNumbered 28 = .ok (.new 123, 3) := by decide +kernel
theorem dX5_textNumbered_31 : decode cX5_textNumbered 31 = .ok (.dup, 1) := by decide +kernel
theorem dX5_textNumbered_32 : decode cX5_textNumbered 32 = .ok (.ldc_w 289, 3) := by decide +kernel
theorem dX5_textNumbered_35 : decode cX5_textNumbered 35 = .ok (.invokespecial 127, 3) := by decide +kernel
theorem dX5_textNumbered_38 : decode cX5_textNumbered 38 = .ok (.athrow, 1) := by decide +kernel
theorem dX5_textNumbered_39 : decode cX5_textNumbered 39 = .ok (.aload_n 2, 1) := by decide +kernel
theorem dX5_textNumbered_40 : decode cX5_textNumbered 40 = .ok (.areturn, 1) := by decide +kernel
theorem dX5_textWithWord_0 : decode cX5_textWithWord 0 = .ok (.aload_n 0, 1) := by decide +kernel
theorem dX5_textWithWord_1 : decode cX5_textWithWord 1 = .ok (.iload_n 1, 1) := by decide +kernel
theorem dX5_textWithWord_2 : decode cX5_textWithWord 2 = .ok (.invokevirtual 181, 3) := by decide +kernel
theorem dX5_textWithWord_5 : decode cX5_textWithWord 5 = .ok (.astore_n 3, 1) := by decide +kernel
theorem dX5_textWithWord_6 : decode cX5_textWithWord 6 = .ok (.iload_n 2, 1) := by decide +kernel
theorem dX5_textWithWord_7 : decode cX5_textWithWord 7 = .ok (.ifCond .lt 11, 3) := by decide +kernel
theorem dX5_textWithWord_10 : decode cX5_textWithWord 10 = .ok (.iload_n 2, 1) := by decide +kernel
theorem dX5_textWithWord_11 : decode cX5_textWithWord 11 = .ok (.aload_n 3, 1) := by decide +kernel
theorem dX5_textWithWord_12 : decode cX5_textWithWord 12 = .ok (.invokevirtual 176, 3) := by decide +kernel
theorem dX5_textWithWord_15 : decode cX5_textWithWord 15 = .ok (.if_icmp .lt 14, 3) := by decide +kernel
theorem dX5_textWithWord_18 : decode cX5_textWithWord 18 = .ok (.new 123, 3) := by decide +kernel
theorem dX5_textWithWord_21 : decode cX5_textWithWord 21 = .ok (.dup, 1) := by decide +kernel
theorem dX5_textWithWord_22 : decode cX5_textWithWord 22 = .ok (.ldc_w 291, 3) := by decide +kernel
theorem dX5_textWithWord_25 : decode cX5_textWithWord 25 = .ok (.invokespecial 127, 3) := by decide +kernel
theorem dX5_textWithWord_28 : decode cX5_textWithWord 28 = .ok (.athrow, 1) := by decide +kernel
theorem dX5_textWithWord_29 : decode cX5_textWithWord 29 = .ok (.aload_n 3, 1) := by decide +kernel
theorem dX5_textWithWord_30 : decode cX5_textWithWord 30 = .ok (.areturn, 1) := by decide +kernel
theorem dX5_translateTexts_0 : decode cX5_translateTexts 0 = .ok (.iconst 0, 1) := by decide +kernel
theorem dX5_translateTexts_1 : decode cX5_translateTexts 1 = .ok (.istore_n 1, 1) := by decide +kernel
theorem dX5_translateTexts_2 : decode cX5_translateTexts 2 = .ok (.aload_n 0, 1) := by decide +kernel
theorem dX5_translateTexts_3 : decode cX5_translateTexts 3 = .ok (.getfield 34, 3) := by decide +kernel
theorem dX5_translateTexts_6 : decode cX5_translateTexts 6 = .ok (.astore_n 2, 1) := by decide +kernel
theorem dX5_translateTexts_7 : decode cX5_translateTexts 7 = .ok (.aload_n 2, 1) := by decide +kernel
theorem dX5_translateTexts_8 : decode cX5_translateTexts 8 = .ok (.arraylength, 1) := by decide +kernel
theorem dX5_translateTexts_9 : decode cX5_translateTexts 9 = .ok (.istore_n 3, 1) := by decide +kernel
theorem dX5_translateTexts_10 : decode cX5_translateTexts 10 = .ok (.iconst 0, 1) := by decide +kernel
theorem dX5_translateTexts_11 : decode cX5_translateTexts 11 = .ok (.istore 4, 2) := by decide +kernel
theorem dX5_translateTexts_13 : decode cX5_translateTexts 13 = .ok (.iload 4, 2) := by decide +kernel
theorem dX5_translateTexts_15 : decode cX5_translateTexts 15 = .ok (.iload_n 3, 1) := by decide +kernel
theorem dX5_translateTexts_16 : decode cX5_translateTexts 16 = .ok (.if_icmp .ge 48, 3) := by decide +kernel
theorem dX5_translateTexts_19 : decode cX5_translateTexts 19 = .ok (.aload_n 2, 1) := by decide +kernel
theorem dX5_translateTexts_20 : decode cX5_translateTexts 20 = .ok (.iload 4, 2) := by decide +kernel
theorem dX5_translateTexts_22 : decode cX5_translateTexts 22 = .ok (.aaload, 1) := by decide +kernel
theorem dX5_translateTexts_23 : decode cX5_translateTexts 23 = .ok (.astore 5, 2) := by decide +kernel
theorem dX5_translateTexts_25 : decode cX5_translateTexts 25 = .ok (.aload 5, 2) := by decide +kernel
theorem dX5_translateTexts_27 : decode cX5_translateTexts 27 = .ok (.ifnull 31, 3) := by decide +kernel
theorem dX5_translateTexts_30 : decode cX5_translateTexts 30 = .ok (.aload 5, 2) := by decide +kernel
theorem dX5_translateTexts_32 : decode cX5_translateTexts 32 = .ok (.aload_n 0, 1) := by decide +kernel
theorem dX5_translateTexts_33 : decode cX5_translateTexts 33 = .ok (.getfield 21, 3) := by decide +kernel
theorem dX5_translateTexts_36 : decode cX5_translateTexts 36 = .ok (.aload_n 0, 1) := by decide +kernel
theorem dX5_translateTexts_37 : decode cX5_translateTexts 37 = .ok (.getfield 43, 3) := by decide +kernel
theorem dX5_translateTexts_40 : decode cX5_translateTexts 40 = .ok (.invokevirtual 169, 3) := by decide +kernel
theorem dX5_translateTexts_43 : decode cX5_translateTexts 43 = .ok (.ifCond .eq 15, 3) := by decide +kernel
theorem dX5_translateTexts_46 : decode cX5_translateTexts 46 = .ok (.aload 5, 2) := by decide +kernel
theorem dX5_translateTexts_48 : decode cX5_translateTexts 48 = .ok (.aload_n 0, 1) := by decide +kernel
theorem dX5_translateTexts_49 : decode cX5_translateTexts 49 = .ok (.getfield 51, 3) := by decide +kernel
theorem dX5_translateTexts_52 : decode cX5_translateTexts 52 = .ok (.invokevirtual 173, 3) := by decide +kernel
theorem dX5_translateTexts_55 : decode cX5_translateTexts 55 = .ok (.iinc 1 1, 3) := by decide +kernel
theorem dX5_translateTexts_58 : decode cX5_translateTexts 58 = .ok (.iinc 4 1, 3) := by decide +kernel
theorem dX5_translateTexts_61 : decode cX5_translateTexts 61 = .ok (.goto (-48), 3) := by decide +kernel
theorem dX5_translateTexts_64 : decode cX5_translateTexts 64 = .ok (.iload_n 1, 1) := by decide +kernel
theorem dX5_translateTexts_65 : decode cX5_translateTexts 65 = .ok (.ireturn, 1) := by decide +kernel
theorem dX5_planLine_0 : decode cX5_planLine 0 = .ok (.iconst 0, 1) := by decide +kernel
theorem dX5_planLine_1 : decode cX5_planLine 1 = .ok (.istore_n 3, 1) := by decide +kernel
theorem dX5_planLine_2 : decode cX5_planLine 2 = .ok (.iload_n 3, 1) := by decide +kernel
theorem dX5_planLine_3 : decode cX5_planLine 3 = .ok (.aload_n 1, 1) := by decide +kernel
theorem dX5_planLine_4 : decode cX5_planLine 4 = .ok (.iload_n 2, 1) := by decide +kernel
theorem dX5_planLine_5 : decode cX5_planLine 5 = .ok (.invokevirtual 202, 3) := by decide +kernel
theorem dX5_planLine_8 : decode cX5_planLine 8 = .ok (.if_icmp .ge 22, 3) := by decide +kernel
theorem dX5_planLine_11 : decode cX5_planLine 11 = .ok (.aload_n 0, 1) := by decide +kernel
theorem dX5_planLine_12 : decode cX5_planLine 12 = .ok (.getfield 28, 3) := by decide +kernel
theorem dX5_planLine_15 : decode cX5_planLine 15 = .ok (.aload_n 1, 1) := by decide +kernel
theorem dX5_planLine_16 : decode cX5_planLine 16 = .ok (.iload_n 2, 1) := by decide +kernel
theorem dX5_planLine_17 : decode cX5_planLine 17 = .ok (.iload_n 3, 1) := by decide +kernel
theorem dX5_planLine_18 : decode cX5_planLine 18 = .ok (.invokevirtual 207, 3) := by decide +kernel
theorem dX5_planLine_21 : decode cX5_planLine 21 = .ok (.invokevirtual 293, 3) := by decide +kernel
theorem dX5_planLine_24 : decode cX5_planLine 24 = .ok (.iinc 3 1, 3) := by decide +kernel
theorem dX5_planLine_27 : decode cX5_planLine 27 = .ok (.goto (-25), 3) := by decide +kernel
theorem dX5_planLine_30 : decode cX5_planLine 30 = .ok (.return_, 1) := by decide +kernel
end
section
theorem dJ5_init_d00df_0 : decode cJ5_init_d00df 0 = .ok (.aload_n 0, 1) := by decide +kernel
theorem dJ5_init_d00df_1 : decode cJ5_init_d00df 1 = .ok (.invokespecial 3, 3) := by decide +kernel
theorem dJ5_init_d00df_4 : decode cJ5_init_d00df 4 = .ok (.getstatic 18, 3) := by decide +kernel
theorem dJ5_init_d00df_7 : decode cJ5_init_d00df 7 = .ok (.ifCond .eq 18, 3) := by decide +kernel
theorem dJ5_init_d00df_10 : decode cJ5_init_d00df 10 = .ok (.aload_n 0, 1) := by decide +kernel
theorem dJ5_init_d00df_11 : decode cJ5_init_d00df 11 = .ok (.iload_n 1, 1) := by decide +kernel
theorem dJ5_init_d00df_12 : decode cJ5_init_d00df 12 = .ok (.newarray .byte, 2) := by decide +kernel
theorem dJ5_init_d00df_14 : decode cJ5_init_d00df 14 = .ok (.putfield 15, 3) := by decide +kernel
theorem dJ5_init_d00df_17 : decode cJ5_init_d00df 17 = .ok (.aload_n 0, 1) := by decide +kernel
theorem dJ5_init_d00df_18 : decode cJ5_init_d00df 18 = .ok (.iconst 0, 1) := by decide +kernel
theorem dJ5_init_d00df_19 : decode cJ5_init_d00df 19 = .ok (.putfield 22, 3) := by decide +kernel
theorem dJ5_init_d00df_22 : decode cJ5_init_d00df 22 = .ok (.goto 16, 3) := by decide +kernel
theorem dJ5_init_d00df_25 : decode cJ5_init_d00df 25 = .ok (.aload_n 0, 1) := by decide +kernel
theorem dJ5_init_d00df_26 : decode cJ5_init_d00df 26 = .ok (.iload_n 1, 1) := by decide +kernel
theorem dJ5_init_d00df_27 : decode cJ5_init_d00df 27 = .ok (.invokestatic 26, 3) := by decide +kernel
theorem dJ5_init_d00df_30 : decode cJ5_init_d00df 30 = .ok (.putfield 15, 3) := by decide +kernel
theorem dJ5_init_d00df_33 : decode cJ5_init_d00df 33 = .ok (.aload_n 0, 1) := by decide +kernel
theorem dJ5_init_d00df_34 : decode cJ5_init_d00df 34 = .ok (.iconst 1, 1) := by decide +kernel
theorem dJ5_init_d00df_35 : decode cJ5_init_d00df 35 = .ok (.putfield 22, 3) := by decide +kernel
theorem dJ5_init_d00df_38 : decode cJ5_init_d00df 38 = .ok (.return_, 1) := by decide +kernel
theorem dJ5_length_8abf5_0 : decode cJ5_length_8abf5 0 = .ok (.aload_n 0, 1) := by decide +kernel
theorem dJ5_length_8abf5_1 : decode cJ5_length_8abf5 1 = .ok (.getfield 79, 3) := by decide +kernel
theorem dJ5_length_8abf5_4 : decode cJ5_length_8abf5 4 = .ok (.ireturn, 1) := by decide +kernel
theorem dJ5_ensureCapacityInternal_d00df_0 : decode cJ5_ensureCapacityInternal_d00df 0 = .ok (.aload_n 0, 1) := by decide +kernel
theorem dJ5_ensureCapacityInternal_d00df_1 : decode cJ5_ensureCapacityInternal_d00df 1 = .ok (.getfield 15, 3) := by decide +kernel
theorem dJ5_ensureCapacityInternal_d00df_4 : decode cJ5_ensureCapacityInternal_d00df 4 = .ok (.arraylength, 1) := by decide +kernel
theorem dJ5_ensureCapacityInternal_d00df_5 : decode cJ5_ensureCapacityInternal_d00df 5 = .ok (.aload_n 0, 1) := by decide +kernel
theorem dJ5_ensureCapacityInternal_d00df_6 : decode cJ5_ensureCapacityInternal_d00df 6 = .ok (.getfield 22, 3) := by decide +kernel
theorem dJ5_ensureCapacityInternal_d00df_9 : decode cJ5_ensureCapacityInternal_d00df 9 = .ok (.ishr, 1) := by decide +kernel
theorem dJ5_ensureCapacityInternal_d00df_10 : decode cJ5_ensureCapacityInternal_d00df 10 = .ok (.istore_n 2, 1) := by decide +kernel
theorem dJ5_ensureCapacityInternal_d00df_11 : decode cJ5_ensureCapacityInternal_d00df 11 = .ok (.iload_n 1, 1) := by decide +kernel
theorem dJ5_ensureCapacityInternal_d00df_12 : decode cJ5_ensureCapacityInternal_d00df 12 = .ok (.iload_n 2, 1) := by decide +kernel
theorem dJ5_ensureCapacityInternal_d00df_13 : decode cJ5_ensureCapacityInternal_d00df 13 = .ok (.isub, 1) := by decide +kernel
theorem dJ5_ensureCapacityInternal_d00df_14 : decode cJ5_ensureCapacityInternal_d00df 14 = .ok (.ifCond .le 24, 3) := by decide +kernel
theorem dJ5_ensureCapacityInternal_d00df_17 : decode cJ5_ensureCapacityInternal_d00df 17 = .ok (.aload_n 0, 1) := by decide +kernel
theorem dJ5_ensureCapacityInternal_d00df_18 : decode cJ5_ensureCapacityInternal_d00df 18 = .ok (.aload_n 0, 1) := by decide +kernel
theorem dJ5_ensureCapacityInternal_d00df_19 : decode cJ5_ensureCapacityInternal_d00df 19 = .ok (.getfield 15, 3) := by decide +kernel
theorem dJ5_ensureCapacityInternal_d00df_22 : decode cJ5_ensureCapacityInternal_d00df 22 = .ok (.aload_n 0, 1) := by decide +kernel
theorem dJ5_ensureCapacityInternal_d00df_23 : decode cJ5_ensureCapacityInternal_d00df 23 = .ok (.iload_n 1, 1) := by decide +kernel
theorem dJ5_ensureCapacityInternal_d00df_24 : decode cJ5_ensureCapacityInternal_d00df 24 = .ok (.invokevirtual 104, 3) := by decide +kernel
theorem dJ5_ensureCapacityInternal_d00df_27 : decode cJ5_ensureCapacityInternal_d00df 27 = .ok (.aload_n 0, 1) := by decide +kernel
theorem dJ5_ensureCapacityInternal_d00df_28 : decode cJ5_ensureCapacityInternal_d00df 28 = .ok (.getfield 22, 3) := by decide +kernel
theorem dJ5_ensureCapacityInternal_d00df_31 : decode cJ5_ensureCapacityInternal_d00df 31 = .ok (.ishl, 1) := by decide +kernel
theorem dJ5_ensureCapacityInternal_d00df_32 : decode cJ5_ensureCapacityInternal_d00df 32 = .ok (.invokestatic 108, 3) := by decide +kernel
theorem dJ5_ensureCapacityInternal_d00df_35 : decode cJ5_ensureCapacityInternal_d00df 35 = .ok (.putfield 15, 3) := by decide +kernel
theorem dJ5_ensureCapacityInternal_d00df_38 : decode cJ5_ensureCapacityInternal_d00df 38 = .ok (.return_, 1) := by decide +kernel
theorem dJ5_newCapacity_0f7a4_0 : decode cJ5_newCapacity_0f7a4 0 = .ok (.aload_n 0, 1) := by decide +kernel
theorem dJ5_newCapacity_0f7a4_1 : decode cJ5_newCapacity_0f7a4 1 = .ok (.getfield 15, 3) := by decide +kernel
theorem dJ5_newCapacity_0f7a4_4 : decode cJ5_newCapacity_0f7a4 4 = .ok (.arraylength, 1) := by decide +kernel
theorem dJ5_newCapacity_0f7a4_5 : decode cJ5_newCapacity_0f7a4 5 = .ok (.istore_n 2, 1) := by decide +kernel
theorem dJ5_newCapacity_0f7a4_6 : decode cJ5_newCapacity_0f7a4 6 = .ok (.iload_n 1, 1) := by decide +kernel
theorem dJ5_newCapacity_0f7a4_7 : decode cJ5_newCapacity_0f7a4 7 = .ok (.aload_n 0, 1) := by decide +kernel
theorem dJ5_newCapacity_0f7a4_8 : decode cJ5_newCapacity_0f7a4 8 = .ok (.getfield 22, 3) := by decide +kernel
theorem dJ5_newCapacity_0f7a4_11 : decode cJ5_newCapacity_0f7a4 11 = .ok (.ishl, 1) := by decide +kernel
theorem dJ5_newCapacity_0f7a4_12 : decode cJ5_newCapacity_0f7a4 12 = .ok (.istore_n 3, 1) := by decide +kernel
theorem dJ5_newCapacity_0f7a4_13 : decode cJ5_newCapacity_0f7a4 13 = .ok (.iload_n 3, 1) := by decide +kernel
theorem dJ5_newCapacity_0f7a4_14 : decode cJ5_newCapacity_0f7a4 14 = .ok (.iload_n 2, 1) := by decide +kernel
theorem dJ5_newCapacity_0f7a4_15 : decode cJ5_newCapacity_0f7a4 15 = .ok (.isub, 1) := by decide +kernel
theorem dJ5_newCapacity_0f7a4_16 : decode cJ5_newCapacity_0f7a4 16 = .ok (.istore 4, 2) := by decide +kernel
theorem dJ5_newCapacity_0f7a4_18 : decode cJ5_newCapacity_0f7a4 18 = .ok (.iload_n 2, 1) := by decide +kernel
theorem dJ5_newCapacity_0f7a4_19 : decode cJ5_newCapacity_0f7a4 19 = .ok (.iload 4, 2) := by decide +kernel
theorem dJ5_newCapacity_0f7a4_21 : decode cJ5_newCapacity_0f7a4 21 = .ok (.iload_n 2, 1) := by decide +kernel
theorem dJ5_newCapacity_0f7a4_22 : decode cJ5_newCapacity_0f7a4 22 = .ok (.iconst 2, 1) := by decide +kernel
theorem dJ5_newCapacity_0f7a4_23 : decode cJ5_newCapacity_0f7a4 23 = .ok (.aload_n 0, 1) := by decide +kernel
theorem dJ5_newCapacity_0f7a4_24 : decode cJ5_newCapacity_0f7a4 24 = .ok (.getfield 22, 3) := by decide +kernel
theorem dJ5_newCapacity_0f7a4_27 : decode cJ5_newCapacity_0f7a4 27 = .ok (.ishl, 1) := by decide +kernel
theorem dJ5_newCapacity_0f7a4_28 : decode cJ5_newCapacity_0f7a4 28 = .ok (.iadd, 1) := by decide +kernel
theorem dJ5_newCapacity_0f7a4_29 : decode cJ5_newCapacity_0f7a4 29 = .ok (.invokestatic 114, 3) := by decide +kernel
theorem dJ5_newCapacity_0f7a4_32 : decode cJ5_newCapacity_0f7a4 32 = .ok (.istore 5, 2) := by decide +kernel
theorem dJ5_newCapacity_0f7a4_34 : decode cJ5_newCapacity_0f7a4 34 = .ok (.iload 5, 2) := by decide +kernel
theorem dJ5_newCapacity_0f7a4_36 : decode cJ5_newCapacity_0f7a4 36 = .ok (.ldc 39, 2) := by decide +kernel
theorem dJ5_newCapacity_0f7a4_38 : decode cJ5_newCapacity_0f7a4 38 = .ok (.if_icmp .ne 13, 3) := by decide +kernel
theorem dJ5_newCapacity_0f7a4_41 : decode cJ5_newCapacity_0f7a4 41 = .ok (.new 120, 3) := by decide +kernel
theorem dJ5_newCapacity_0f7a4_44 : decode cJ5_newCapacity_0f7a4 44 = .ok (.dup, 1) := by decide +kernel
theorem dJ5_newCapacity_0f7a4_45 : decode cJ5_newCapacity_0f7a4 45 = .ok (.ldc 122, 2) := by decide +kernel
theorem dJ5_newCapacity_0f7a4_47 : decode cJ5_newCapacity_0f7a4 47 = .ok (.invokespecial 124, 3) := by decide +kernel
theorem dJ5_newCapacity_0f7a4_50 : decode cJ5_newCapacity_0f7a4 50 = .ok (.athrow, 1) := by decide +kernel
theorem dJ5_newCapacity_0f7a4_51 : decode cJ5_newCapacity_0f7a4 51 = .ok (.iload 5, 2) := by decide +kernel
theorem dJ5_newCapacity_0f7a4_53 : decode cJ5_newCapacity_0f7a4 53 = .ok (.aload_n 0, 1) := by decide +kernel
theorem dJ5_newCapacity_0f7a4_54 : decode cJ5_newCapacity_0f7a4 54 = .ok (.getfield 22, 3) := by decide +kernel
theorem dJ5_newCapacity_0f7a4_57 : decode cJ5_newCapacity_0f7a4 57 = .ok (.ishr, 1) := by decide +kernel
theorem dJ5_newCapacity_0f7a4_58 : decode cJ5_newCapacity_0f7a4 58 = .ok (.ireturn, 1) := by decide +kernel
theorem dJ5_append_cf1ce_0 : decode cJ5_append_cf1ce 0 = .ok (.aload_n 1, 1) := by decide +kernel
theorem dJ5_append_cf1ce_1 : decode cJ5_append_cf1ce 1 = .ok (.ifnonnull 8, 3) := by decide +kernel
theorem dJ5_append_cf1ce_4 : decode cJ5_append_cf1ce 4 = .ok (.aload_n 0, 1) := by decide +kernel
theorem dJ5_append_cf1ce_5 : decode cJ5_append_cf1ce 5 = .ok (.invokevirtual 204, 3) := by decide +kernel
theorem dJ5_append_cf1ce_8 : decode cJ5_append_cf1ce 8 = .ok (.areturn, 1) := by decide +kernel
theorem dJ5_append_cf1ce_9 : decode cJ5_append_cf1ce 9 = .ok (.aload_n 1, 1) := by decide +kernel
theorem dJ5_append_cf1ce_10 : decode cJ5_append_cf1ce 10 = .ok (.invokevirtual 32, 3) := by decide +kernel
theorem dJ5_append_cf1ce_13 : decode cJ5_append_cf1ce 13 = .ok (.istore_n 2, 1) := by decide +kernel
theorem dJ5_append_cf1ce_14 : decode cJ5_append_cf1ce 14 = .ok (.aload_n 0, 1) := by decide +kernel
theorem dJ5_append_cf1ce_15 : decode cJ5_append_cf1ce 15 = .ok (.aload_n 0, 1) := by decide +kernel
theorem dJ5_append_cf1ce_16 : decode cJ5_append_cf1ce 16 = .ok (.getfield 79, 3) := by decide +kernel
theorem dJ5_append_cf1ce_19 : decode cJ5_append_cf1ce 19 = .ok (.iload_n 2, 1) := by decide +kernel
theorem dJ5_append_cf1ce_20 : decode cJ5_append_cf1ce 20 = .ok (.iadd, 1) := by decide +kernel
theorem dJ5_append_cf1ce_21 : decode cJ5_append_cf1ce 21 = .ok (.invokevirtual 100, 3) := by decide +kernel
theorem dJ5_append_cf1ce_24 : decode cJ5_append_cf1ce 24 = .ok (.aload_n 0, 1) := by decide +kernel
theorem dJ5_append_cf1ce_25 : decode cJ5_append_cf1ce 25 = .ok (.aload_n 0, 1) := by decide +kernel
theorem dJ5_append_cf1ce_26 : decode cJ5_append_cf1ce 26 = .ok (.getfield 79, 3) := by decide +kernel
theorem dJ5_append_cf1ce_29 : decode cJ5_append_cf1ce 29 = .ok (.aload_n 1, 1) := by decide +kernel
theorem dJ5_append_cf1ce_30 : decode cJ5_append_cf1ce 30 = .ok (.invokevirtual 208, 3) := by decide +kernel
theorem dJ5_append_cf1ce_33 : decode cJ5_append_cf1ce 33 = .ok (.aload_n 0, 1) := by decide +kernel
theorem dJ5_append_cf1ce_34 : decode cJ5_append_cf1ce 34 = .ok (.dup, 1) := by decide +kernel
theorem dJ5_append_cf1ce_35 : decode cJ5_append_cf1ce 35 = .ok (.getfield 79, 3) := by decide +kernel
theorem dJ5_append_cf1ce_38 : decode cJ5_append_cf1ce 38 = .ok (.iload_n 2, 1) := by decide +kernel
theorem dJ5_append_cf1ce_39 : decode cJ5_append_cf1ce 39 = .ok (.iadd, 1) := by decide +kernel
theorem dJ5_append_cf1ce_40 : decode cJ5_append_cf1ce 40 = .ok (.putfield 79, 3) := by decide +kernel
theorem dJ5_append_cf1ce_43 : decode cJ5_append_cf1ce 43 = .ok (.aload_n 0, 1) := by decide +kernel
theorem dJ5_append_cf1ce_44 : decode cJ5_append_cf1ce 44 = .ok (.areturn, 1) := by decide +kernel
theorem dJ5_append_3fe6f_0 : decode cJ5_append_3fe6f 0 = .ok (.aload_n 0, 1) := by decide +kernel
theorem dJ5_append_3fe6f_1 : decode cJ5_append_3fe6f 1 = .ok (.aload_n 0, 1) := by decide +kernel
theorem dJ5_append_3fe6f_2 : decode cJ5_append_3fe6f 2 = .ok (.getfield 79, 3) := by decide +kernel
theorem dJ5_append_3fe6f_5 : decode cJ5_append_3fe6f 5 = .ok (.iconst 1, 1) := by decide +kernel
theorem dJ5_append_3fe6f_6 : decode cJ5_append_3fe6f 6 = .ok (.iadd, 1) := by decide +kernel
theorem dJ5_append_3fe6f_7 : decode cJ5_append_3fe6f 7 = .ok (.invokevirtual 100, 3) := by decide +kernel
theorem dJ5_append_3fe6f_10 : decode cJ5_append_3fe6f 10 = .ok (.aload_n 0, 1) := by decide +kernel
theorem dJ5_append_3fe6f_11 : decode cJ5_append_3fe6f 11 = .ok (.invokevirtual 83, 3) := by decide +kernel
theorem dJ5_append_3fe6f_14 : decode cJ5_append_3fe6f 14 = .ok (.ifCond .eq 31, 3) := by decide +kernel
theorem dJ5_append_3fe6f_17 : decode cJ5_append_3fe6f 17 = .ok (.iload_n 1, 1) := by decide +kernel
theorem dJ5_append_3fe6f_18 : decode cJ5_append_3fe6f 18 = .ok (.invokestatic 191, 3) := by decide +kernel
theorem dJ5_append_3fe6f_21 : decode cJ5_append_3fe6f 21 = .ok (.ifCond .eq 24, 3) := by decide +kernel
theorem dJ5_append_3fe6f_24 : decode cJ5_append_3fe6f 24 = .ok (.aload_n 0, 1) := by decide +kernel
theorem dJ5_append_3fe6f_25 : decode cJ5_append_3fe6f 25 = .ok (.getfield 15, 3) := by decide +kernel
theorem dJ5_append_3fe6f_28 : decode cJ5_append_3fe6f 28 = .ok (.aload_n 0, 1) := by decide +kernel
theorem dJ5_append_3fe6f_29 : decode cJ5_append_3fe6f 29 = .ok (.dup, 1) := by decide +kernel
theorem dJ5_append_3fe6f_30 : decode cJ5_append_3fe6f 30 = .ok (.getfield 79, 3) := by decide +kernel
theorem dJ5_append_3fe6f_33 : decode cJ5_append_3fe6f 33 = .ok (.dup_x1, 1) := by decide +kernel
theorem dJ5_append_3fe6f_34 : decode cJ5_append_3fe6f 34 = .ok (.iconst 1, 1) := by decide +kernel
theorem dJ5_append_3fe6f_35 : decode cJ5_append_3fe6f 35 = .ok (.iadd, 1) := by decide +kernel
theorem dJ5_append_3fe6f_36 : decode cJ5_append_3fe6f 36 = .ok (.putfield 79, 3) := by decide +kernel
theorem dJ5_append_3fe6f_39 : decode cJ5_append_3fe6f 39 = .ok (.iload_n 1, 1) := by decide +kernel
theorem dJ5_append_3fe6f_40 : decode cJ5_append_3fe6f 40 = .ok (.i2b, 1) := by decide +kernel
theorem dJ5_append_3fe6f_41 : decode cJ5_append_3fe6f 41 = .ok (.bastore, 1) := by decide +kernel
theorem dJ5_append_3fe6f_42 : decode cJ5_append_3fe6f 42 = .ok (.goto 33, 3) := by decide +kernel
theorem dJ5_append_3fe6f_45 : decode cJ5_append_3fe6f 45 = .ok (.aload_n 0, 1) := by decide +kernel
theorem dJ5_append_3fe6f_46 : decode cJ5_append_3fe6f 46 = .ok (.invokevirtual 83, 3) := by decide +kernel
theorem dJ5_append_3fe6f_49 : decode cJ5_append_3fe6f 49 = .ok (.ifCond .eq 7, 3) := by decide +kernel
theorem dJ5_append_3fe6f_52 : decode cJ5_append_3fe6f 52 = .ok (.aload_n 0, 1) := by decide +kernel
theorem dJ5_append_3fe6f_53 : decode cJ5_append_3fe6f 53 = .ok (.invokevirtual 195, 3) := by decide +kernel
theorem dJ5_append_3fe6f_56 : decode cJ5_append_3fe6f 56 = .ok (.aload_n 0, 1) := by decide +kernel
theorem dJ5_append_3fe6f_57 : decode cJ5_append_3fe6f 57 = .ok (.getfield 15, 3) := by decide +kernel
theorem dJ5_append_3fe6f_60 : decode cJ5_append_3fe6f 60 = .ok (.aload_n 0, 1) := by decide +kernel
theorem dJ5_append_3fe6f_61 : decode cJ5_append_3fe6f 61 = .ok (.dup, 1) := by decide +kernel
theorem dJ5_append_3fe6f_62 : decode cJ5_append_3fe6f 62 = .ok (.getfield 79, 3) := by decide +kernel
theorem dJ5_append_3fe6f_65 : decode cJ5_append_3fe6f 65 = .ok (.dup_x1, 1) := by decide +kernel
theorem dJ5_append_3fe6f_66 : decode cJ5_append_3fe6f 66 = .ok (.iconst 1, 1) := by decide +kernel
theorem dJ5_append_3fe6f_67 : decode cJ5_append_3fe6f 67 = .ok (.iadd, 1) := by decide +kernel
theorem dJ5_append_3fe6f_68 : decode cJ5_append_3fe6f 68 = .ok (.putfield 79, 3) := by decide +kernel
theorem dJ5_append_3fe6f_71 : decode cJ5_append_3fe6f 71 = .ok (.iload_n 1, 1) := by decide +kernel
theorem dJ5_append_3fe6f_72 : decode cJ5_append_3fe6f 72 = .ok (.invokestatic 197, 3) := by decide +kernel
theorem dJ5_append_3fe6f_75 : decode cJ5_append_3fe6f 75 = .ok (.aload_n 0, 1) := by decide +kernel
theorem dJ5_append_3fe6f_76 : decode cJ5_append_3fe6f 76 = .ok (.areturn, 1) := by decide +kernel
theorem dJ5_getValue_6d5f1_0 : decode cJ5_getValue_6d5f1 0 = .ok (.aload_n 0, 1) := by decide +kernel
theorem dJ5_getValue_6d5f1_1 : decode cJ5_getValue_6d5f1 1 = .ok (.getfield 15, 3) := by decide +kernel
theorem dJ5_getValue_6d5f1_4 : decode cJ5_getValue_6d5f1 4 = .ok (.areturn, 1) := by decide +kernel
theorem dJ5_isLatin1_aae02_0 : decode cJ5_isLatin1_aae02 0 = .ok (.getstatic 18, 3) := by decide +kernel
theorem dJ5_isLatin1_aae02_3 : decode cJ5_isLatin1_aae02 3 = .ok (.ifCond .eq 14, 3) := by decide +kernel
theorem dJ5_isLatin1_aae02_6 : decode cJ5_isLatin1_aae02 6 = .ok (.aload_n 0, 1) := by decide +kernel
theorem dJ5_isLatin1_aae02_7 : decode cJ5_isLatin1_aae02 7 = .ok (.getfield 22, 3) := by decide +kernel
theorem dJ5_isLatin1_aae02_10 : decode cJ5_isLatin1_aae02 10 = .ok (.ifCond .ne 7, 3) := by decide +kernel
theorem dJ5_isLatin1_aae02_13 : decode cJ5_isLatin1_aae02 13 = .ok (.iconst 1, 1) := by decide +kernel
theorem dJ5_isLatin1_aae02_14 : decode cJ5_isLatin1_aae02 14 = .ok (.goto 4, 3) := by decide +kernel
theorem dJ5_isLatin1_aae02_17 : decode cJ5_isLatin1_aae02 17 = .ok (.iconst 0, 1) := by decide +kernel
theorem dJ5_isLatin1_aae02_18 : decode cJ5_isLatin1_aae02 18 = .ok (.ireturn, 1) := by decide +kernel
theorem dJ5_inflateIfNeededFor_a7421_0 : decode cJ5_inflateIfNeededFor_a7421 0 = .ok (.getstatic 18, 3) := by decide +kernel
theorem dJ5_inflateIfNeededFor_a7421_3 : decode cJ5_inflateIfNeededFor_a7421 3 = .ok (.ifCond .eq 18, 3) := by decide +kernel
theorem dJ5_inflateIfNeededFor_a7421_6 : decode cJ5_inflateIfNeededFor_a7421 6 = .ok (.aload_n 0, 1) := by decide +kernel
theorem dJ5_inflateIfNeededFor_a7421_7 : decode cJ5_inflateIfNeededFor_a7421 7 = .ok (.getfield 22, 3) := by decide +kernel
theorem dJ5_inflateIfNeededFor_a7421_10 : decode cJ5_inflateIfNeededFor_a7421 10 = .ok (.aload_n 1, 1) := by decide +kernel
theorem dJ5_inflateIfNeededFor_a7421_11 : decode cJ5_inflateIfNeededFor_a7421 11 = .ok (.invokevirtual 40, 3) := by decide +kernel
theorem dJ5_inflateIfNeededFor_a7421_14 : decode cJ5_inflateIfNeededFor_a7421 14 = .ok (.if_icmp .eq 7, 3) := by decide +kernel
theorem dJ5_inflateIfNeededFor_a7421_17 : decode cJ5_inflateIfNeededFor_a7421 17 = .ok (.aload_n 0, 1) := by decide +kernel
theorem dJ5_inflateIfNeededFor_a7421_18 : decode cJ5_inflateIfNeededFor_a7421 18 = .ok (.invokevirtual 195, 3) := by decide +kernel
theorem dJ5_inflateIfNeededFor_a7421_21 : decode cJ5_inflateIfNeededFor_a7421 21 = .ok (.return_, 1) := by decide +kernel
theorem dJ5_putStringAt_47b60_0 : decode cJ5_putStringAt_47b60 0 = .ok (.aload_n 0, 1) := by decide +kernel
theorem dJ5_putStringAt_47b60_1 : decode cJ5_putStringAt_47b60 1 = .ok (.aload_n 2, 1) := by decide +kernel
theorem dJ5_putStringAt_47b60_2 : decode cJ5_putStringAt_47b60 2 = .ok (.invokevirtual 397, 3) := by decide +kernel
theorem dJ5_putStringAt_47b60_5 : decode cJ5_putStringAt_47b60 5 = .ok (.aload_n 2, 1) := by decide +kernel
theorem dJ5_putStringAt_47b60_6 : decode cJ5_putStringAt_47b60 6 = .ok (.aload_n 0, 1) := by decide +kernel
theorem dJ5_putStringAt_47b60_7 : decode cJ5_putStringAt_47b60 7 = .ok (.getfield 15, 3) := by decide +kernel
theorem dJ5_putStringAt_47b60_10 : decode cJ5_putStringAt_47b60 10 = .ok (.iload_n 1, 1) := by decide +kernel
theorem dJ5_putStringAt_47b60_11 : decode cJ5_putStringAt_47b60 11 = .ok (.aload_n 0, 1) := by decide +kernel
theorem dJ5_putStringAt_47b60_12 : decode cJ5_putStringAt_47b60 12 = .ok (.getfield 22, 3) := by decide +kernel
theorem dJ5_putStringAt_47b60_15 : decode cJ5_putStringAt_47b60 15 = .ok (.invokevirtual 399, 3) := by decide +kernel
theorem dJ5_putStringAt_47b60_18 : decode cJ5_putStringAt_47b60 18 = .ok (.return_, 1) := by decide +kernel
theorem dJ0_init_81219_0 : decode cJ0_init_81219 0 = .ok (.aload_n 0, 1) := by decide +kernel
theorem dJ0_init_81219_1 : decode cJ0_init_81219 1 = .ok (.aload_n 1, 1) := by decide +kernel
theorem dJ0_init_81219_2 : decode cJ0_init_81219 2 = .ok (.aconst_null, 1) := by decide +kernel
theorem dJ0_init_81219_3 : decode cJ0_init_81219 3 = .ok (.invokespecial 489, 3) := by decide +kernel
theorem dJ0_init_81219_6 : decode cJ0_init_81219 6 = .ok (.return_, 1) := by decide +kernel
theorem dJ0_length_8abf5_0 : decode cJ0_length_8abf5 0 = .ok (.aload_n 0, 1) := by decide +kernel
theorem dJ0_length_8abf5_1 : decode cJ0_length_8abf5 1 = .ok (.getfield 9, 3) := by decide +kernel
theorem dJ0_length_8abf5_4 : decode cJ0_length_8abf5 4 = .ok (.arraylength, 1) := by decide +kernel
theorem dJ0_length_8abf5_5 : decode cJ0_length_8abf5 5 = .ok (.aload_n 0, 1) := by decide +kernel
theorem dJ0_length_8abf5_6 : decode cJ0_length_8abf5 6 = .ok (.invokevirtual 335, 3) := by decide +kernel
theorem dJ0_length_8abf5_9 : decode cJ0_length_8abf5 9 = .ok (.ishr, 1) := by decide +kernel
theorem dJ0_length_8abf5_10 : decode cJ0_length_8abf5 10 = .ok (.ireturn, 1) := by decide +kernel
theorem dJ0_charAt_5068e_0 : decode cJ0_charAt_5068e 0 = .ok (.aload_n 0, 1) := by decide +kernel
theorem dJ0_charAt_5068e_1 : decode cJ0_charAt_5068e 1 = .ok (.invokevirtual 492, 3) := by decide +kernel
theorem dJ0_charAt_5068e_4 : decode cJ0_charAt_5068e 4 = .ok (.ifCond .eq 12, 3) := by decide +kernel
theorem dJ0_charAt_5068e_7 : decode cJ0_charAt_5068e 7 = .ok (.aload_n 0, 1) := by decide +kernel
theorem dJ0_charAt_5068e_8 : decode cJ0_charAt_5068e 8 = .ok (.getfield 9, 3) := by decide +kernel
theorem dJ0_charAt_5068e_11 : decode cJ0_charAt_5068e 11 = .ok (.iload_n 1, 1) := by decide +kernel
theorem dJ0_charAt_5068e_12 : decode cJ0_charAt_5068e 12 = .ok (.invokestatic 495, 3) := by decide +kernel
theorem dJ0_charAt_5068e_15 : decode cJ0_charAt_5068e 15 = .ok (.ireturn, 1) := by decide +kernel
theorem dJ0_charAt_5068e_16 : decode cJ0_charAt_5068e 16 = .ok (.aload_n 0, 1) := by decide +kernel
theorem dJ0_charAt_5068e_17 : decode cJ0_charAt_5068e 17 = .ok (.getfield 9, 3) := by decide +kernel
theorem dJ0_charAt_5068e_20 : decode cJ0_charAt_5068e 20 = .ok (.iload_n 1, 1) := by decide +kernel
theorem dJ0_charAt_5068e_21 : decode cJ0_charAt_5068e 21 = .ok (.invokestatic 498, 3) := by decide +kernel
theorem dJ0_charAt_5068e_24 : decode cJ0_charAt_5068e 24 = .ok (.ireturn, 1) := by decide +kernel
theorem dJ0_getBytes_840e7_0 : decode cJ0_getBytes_840e7 0 = .ok (.aload_n 0, 1) := by decide +kernel
theorem dJ0_getBytes_840e7_1 : decode cJ0_getBytes_840e7 1 = .ok (.invokevirtual 335, 3) := by decide +kernel
theorem dJ0_getBytes_840e7_4 : decode cJ0_getBytes_840e7 4 = .ok (.iload_n 3, 1) := by decide +kernel
theorem dJ0_getBytes_840e7_5 : decode cJ0_getBytes_840e7 5 = .ok (.if_icmp .ne 23, 3) := by decide +kernel
theorem dJ0_getBytes_840e7_8 : decode cJ0_getBytes_840e7 8 = .ok (.aload_n 0, 1) := by decide +kernel
theorem dJ0_getBytes_840e7_9 : decode cJ0_getBytes_840e7 9 = .ok (.getfield 9, 3) := by decide +kernel
theorem dJ0_getBytes_840e7_12 : decode cJ0_getBytes_840e7 12 = .ok (.iconst 0, 1) := by decide +kernel
theorem dJ0_getBytes_840e7_13 : decode cJ0_getBytes_840e7 13 = .ok (.aload_n 1, 1) := by decide +kernel
theorem dJ0_getBytes_840e7_14 : decode cJ0_getBytes_840e7 14 = .ok (.iload_n 2, 1) := by decide +kernel
theorem dJ0_getBytes_840e7_15 : decode cJ0_getBytes_840e7 15 = .ok (.iload_n 3, 1) := by decide +kernel
theorem dJ0_getBytes_840e7_16 : decode cJ0_getBytes_840e7 16 = .ok (.ishl, 1) := by decide +kernel
theorem dJ0_getBytes_840e7_17 : decode cJ0_getBytes_840e7 17 = .ok (.aload_n 0, 1) := by decide +kernel
theorem dJ0_getBytes_840e7_18 : decode cJ0_getBytes_840e7 18 = .ok (.getfield 9, 3) := by decide +kernel
theorem dJ0_getBytes_840e7_21 : decode cJ0_getBytes_840e7 21 = .ok (.arraylength, 1) := by decide +kernel
theorem dJ0_getBytes_840e7_22 : decode cJ0_getBytes_840e7 22 = .ok (.invokestatic 212, 3) := by decide +kernel
theorem dJ0_getBytes_840e7_25 : decode cJ0_getBytes_840e7 25 = .ok (.goto 18, 3) := by decide +kernel
theorem dJ0_getBytes_840e7_28 : decode cJ0_getBytes_840e7 28 = .ok (.aload_n 0, 1) := by decide +kernel
theorem dJ0_getBytes_840e7_29 : decode cJ0_getBytes_840e7 29 = .ok (.getfield 9, 3) := by decide +kernel
theorem dJ0_getBytes_840e7_32 : decode cJ0_getBytes_840e7 32 = .ok (.iconst 0, 1) := by decide +kernel
theorem dJ0_getBytes_840e7_33 : decode cJ0_getBytes_840e7 33 = .ok (.aload_n 1, 1) := by decide +kernel
theorem dJ0_getBytes_840e7_34 : decode cJ0_getBytes_840e7 34 = .ok (.iload_n 2, 1) := by decide +kernel
theorem dJ0_getBytes_840e7_35 : decode cJ0_getBytes_840e7 35 = .ok (.aload_n 0, 1) := by decide +kernel
theorem dJ0_getBytes_840e7_36 : decode cJ0_getBytes_840e7 36 = .ok (.getfield 9, 3) := by decide +kernel
theorem dJ0_getBytes_840e7_39 : decode cJ0_getBytes_840e7 39 = .ok (.arraylength, 1) := by decide +kernel
theorem dJ0_getBytes_840e7_40 : decode cJ0_getBytes_840e7 40 = .ok (.invokestatic 106, 3) := by decide +kernel
theorem dJ0_getBytes_840e7_43 : decode cJ0_getBytes_840e7 43 = .ok (.return_, 1) := by decide +kernel
theorem dJ0_init_db425_0 : decode cJ0_init_db425 0 = .ok (.aload_n 0, 1) := by decide +kernel
theorem dJ0_init_db425_1 : decode cJ0_init_db425 1 = .ok (.invokespecial 1, 3) := by decide +kernel
theorem dJ0_init_db425_4 : decode cJ0_init_db425 4 = .ok (.aload_n 1, 1) := by decide +kernel
theorem dJ0_init_db425_5 : decode cJ0_init_db425 5 = .ok (.invokevirtual 552, 3) := by decide +kernel
theorem dJ0_init_db425_8 : decode cJ0_init_db425 8 = .ok (.astore_n 3, 1) := by decide +kernel
theorem dJ0_init_db425_9 : decode cJ0_init_db425 9 = .ok (.aload_n 1, 1) := by decide +kernel
theorem dJ0_init_db425_10 : decode cJ0_init_db425 10 = .ok (.invokevirtual 549, 3) := by decide +kernel
theorem dJ0_init_db425_13 : decode cJ0_init_db425 13 = .ok (.istore 4, 2) := by decide +kernel
theorem dJ0_init_db425_15 : decode cJ0_init_db425 15 = .ok (.aload_n 1, 1) := by decide +kernel
theorem dJ0_init_db425_16 : decode cJ0_init_db425 16 = .ok (.invokevirtual 1047, 3) := by decide +kernel
theorem dJ0_init_db425_19 : decode cJ0_init_db425 19 = .ok (.ifCond .eq 22, 3) := by decide +kernel
theorem dJ0_init_db425_22 : decode cJ0_init_db425 22 = .ok (.aload_n 0, 1) := by decide +kernel
theorem dJ0_init_db425_23 : decode cJ0_init_db425 23 = .ok (.iconst 0, 1) := by decide +kernel
theorem dJ0_init_db425_24 : decode cJ0_init_db425 24 = .ok (.putfield 15, 3) := by decide +kernel
theorem dJ0_init_db425_27 : decode cJ0_init_db425 27 = .ok (.aload_n 0, 1) := by decide +kernel
theorem dJ0_init_db425_28 : decode cJ0_init_db425 28 = .ok (.aload_n 3, 1) := by decide +kernel
theorem dJ0_init_db425_29 : decode cJ0_init_db425 29 = .ok (.iconst 0, 1) := by decide +kernel
theorem dJ0_init_db425_30 : decode cJ0_init_db425 30 = .ok (.iload 4, 2) := by decide +kernel
theorem dJ0_init_db425_32 : decode cJ0_init_db425 32 = .ok (.invokestatic 54, 3) := by decide +kernel
theorem dJ0_init_db425_35 : decode cJ0_init_db425 35 = .ok (.putfield 9, 3) := by decide +kernel
theorem dJ0_init_db425_38 : decode cJ0_init_db425 38 = .ok (.goto 59, 3) := by decide +kernel
theorem dJ0_init_db425_41 : decode cJ0_init_db425 41 = .ok (.getstatic 38, 3) := by decide +kernel
theorem dJ0_init_db425_44 : decode cJ0_init_db425 44 = .ok (.ifCond .eq 35, 3) := by decide +kernel
theorem dJ0_init_db425_47 : decode cJ0_init_db425 47 = .ok (.aload_n 1, 1) := by decide +kernel
theorem dJ0_init_db425_48 : decode cJ0_init_db425 48 = .ok (.getfield 1048, 3) := by decide +kernel
theorem dJ0_init_db425_51 : decode cJ0_init_db425 51 = .ok (.ifCond .eq 28, 3) := by decide +kernel
theorem dJ0_init_db425_54 : decode cJ0_init_db425 54 = .ok (.aload_n 0, 1) := by decide +kernel
theorem dJ0_init_db425_55 : decode cJ0_init_db425 55 = .ok (.aload_n 3, 1) := by decide +kernel
theorem dJ0_init_db425_56 : decode cJ0_init_db425 56 = .ok (.iconst 0, 1) := by decide +kernel
theorem dJ0_init_db425_57 : decode cJ0_init_db425 57 = .ok (.iload 4, 2) := by decide +kernel
theorem dJ0_init_db425_59 : decode cJ0_init_db425 59 = .ok (.invokestatic 1051, 3) := by decide +kernel
theorem dJ0_init_db425_62 : decode cJ0_init_db425 62 = .ok (.putfield 9, 3) := by decide +kernel
theorem dJ0_init_db425_65 : decode cJ0_init_db425 65 = .ok (.aload_n 0, 1) := by decide +kernel
theorem dJ0_init_db425_66 : decode cJ0_init_db425 66 = .ok (.aload_n 0, 1) := by decide +kernel
theorem dJ0_init_db425_67 : decode cJ0_init_db425 67 = .ok (.getfield 9, 3) := by decide +kernel
theorem dJ0_init_db425_70 : decode cJ0_init_db425 70 = .ok (.iload 4, 2) := by decide +kernel
theorem dJ0_init_db425_72 : decode cJ0_init_db425 72 = .ok (.invokestatic 47, 3) := by decide +kernel
theorem dJ0_init_db425_75 : decode cJ0_init_db425 75 = .ok (.putfield 15, 3) := by decide +kernel
theorem dJ0_init_db425_78 : decode cJ0_init_db425 78 = .ok (.return_, 1) := by decide +kernel
theorem dJ0_init_db425_79 : decode cJ0_init_db425 79 = .ok (.aload_n 0, 1) := by decide +kernel
theorem dJ0_init_db425_80 : decode cJ0_init_db425 80 = .ok (.iconst 1, 1) := by decide +kernel
theorem dJ0_init_db425_81 : decode cJ0_init_db425 81 = .ok (.putfield 15, 3) := by decide +kernel
theorem dJ0_init_db425_84 : decode cJ0_init_db425 84 = .ok (.aload_n 0, 1) := by decide +kernel
theorem dJ0_init_db425_85 : decode cJ0_init_db425 85 = .ok (.aload_n 3, 1) := by decide +kernel
theorem dJ0_init_db425_86 : decode cJ0_init_db425 86 = .ok (.iconst 0, 1) := by decide +kernel
theorem dJ0_init_db425_87 : decode cJ0_init_db425 87 = .ok (.iload 4, 2) := by decide +kernel
theorem dJ0_init_db425_89 : decode cJ0_init_db425 89 = .ok (.iconst 1, 1) := by decide +kernel
theorem dJ0_init_db425_90 : decode cJ0_init_db425 90 = .ok (.ishl, 1) := by decide +kernel
theorem dJ0_init_db425_91 : decode cJ0_init_db425 91 = .ok (.invokestatic 54, 3) := by decide +kernel
theorem dJ0_init_db425_94 : decode cJ0_init_db425 94 = .ok (.putfield 9, 3) := by decide +kernel
theorem dJ0_init_db425_97 : decode cJ0_init_db425 97 = .ok (.return_, 1) := by decide +kernel
theorem dJ0_coder_7d493_0 : decode cJ0_coder_7d493 0 = .ok (.getstatic 38, 3) := by decide +kernel
theorem dJ0_coder_7d493_3 : decode cJ0_coder_7d493 3 = .ok (.ifCond .eq 10, 3) := by decide +kernel
theorem dJ0_coder_7d493_6 : decode cJ0_coder_7d493 6 = .ok (.aload_n 0, 1) := by decide +kernel
theorem dJ0_coder_7d493_7 : decode cJ0_coder_7d493 7 = .ok (.getfield 15, 3) := by decide +kernel
theorem dJ0_coder_7d493_10 : decode cJ0_coder_7d493 10 = .ok (.goto 4, 3) := by decide +kernel
theorem dJ0_coder_7d493_13 : decode cJ0_coder_7d493 13 = .ok (.iconst 1, 1) := by decide +kernel
theorem dJ0_coder_7d493_14 : decode cJ0_coder_7d493 14 = .ok (.ireturn, 1) := by decide +kernel
theorem dJ0_isLatin1_aae02_0 : decode cJ0_isLatin1_aae02 0 = .ok (.getstatic 38, 3) := by decide +kernel
theorem dJ0_isLatin1_aae02_3 : decode cJ0_isLatin1_aae02 3 = .ok (.ifCond .eq 14, 3) := by decide +kernel
theorem dJ0_isLatin1_aae02_6 : decode cJ0_isLatin1_aae02 6 = .ok (.aload_n 0, 1) := by decide +kernel
theorem dJ0_isLatin1_aae02_7 : decode cJ0_isLatin1_aae02 7 = .ok (.getfield 15, 3) := by decide +kernel
theorem dJ0_isLatin1_aae02_10 : decode cJ0_isLatin1_aae02 10 = .ok (.ifCond .ne 7, 3) := by decide +kernel
theorem dJ0_isLatin1_aae02_13 : decode cJ0_isLatin1_aae02 13 = .ok (.iconst 1, 1) := by decide +kernel
theorem dJ0_isLatin1_aae02_14 : decode cJ0_isLatin1_aae02 14 = .ok (.goto 4, 3) := by decide +kernel
theorem dJ0_isLatin1_aae02_17 : decode cJ0_isLatin1_aae02 17 = .ok (.iconst 0, 1) := by decide +kernel
theorem dJ0_isLatin1_aae02_18 : decode cJ0_isLatin1_aae02 18 = .ok (.ireturn, 1) := by decide +kernel
theorem dJ0_checkIndex_df160_0 : decode cJ0_checkIndex_df160 0 = .ok (.iload_n 0, 1) := by decide +kernel
theorem dJ0_checkIndex_df160_1 : decode cJ0_checkIndex_df160 1 = .ok (.iload_n 1, 1) := by decide +kernel
theorem dJ0_checkIndex_df160_2 : decode cJ0_checkIndex_df160 2 = .ok (.getstatic 1053, 3) := by decide +kernel
theorem dJ0_checkIndex_df160_5 : decode cJ0_checkIndex_df160 5 = .ok (.invokestatic 1059, 3) := by decide +kernel
theorem dJ0_checkIndex_df160_8 : decode cJ0_checkIndex_df160 8 = .ok (.pop, 1) := by decide +kernel
theorem dJ0_checkIndex_df160_9 : decode cJ0_checkIndex_df160 9 = .ok (.return_, 1) := by decide +kernel
theorem dJ4_init_da8c8_0 : decode cJ4_init_da8c8 0 = .ok (.aload_n 0, 1) := by decide +kernel
theorem dJ4_init_da8c8_1 : decode cJ4_init_da8c8 1 = .ok (.bipush 16, 2) := by decide +kernel
theorem dJ4_init_da8c8_3 : decode cJ4_init_da8c8 3 = .ok (.invokespecial 1, 3) := by decide +kernel
theorem dJ4_init_da8c8_6 : decode cJ4_init_da8c8 6 = .ok (.return_, 1) := by decide +kernel
theorem dJ4_append_15ec4_0 : decode cJ4_append_15ec4 0 = .ok (.aload_n 0, 1) := by decide +kernel
theorem dJ4_append_15ec4_1 : decode cJ4_append_15ec4 1 = .ok (.aload_n 1, 1) := by decide +kernel
theorem dJ4_append_15ec4_2 : decode cJ4_append_15ec4 2 = .ok (.invokespecial 29, 3) := by decide +kernel
theorem dJ4_append_15ec4_5 : decode cJ4_append_15ec4 5 = .ok (.pop, 1) := by decide +kernel
theorem dJ4_append_15ec4_6 : decode cJ4_append_15ec4 6 = .ok (.aload_n 0, 1) := by decide +kernel
theorem dJ4_append_15ec4_7 : decode cJ4_append_15ec4 7 = .ok (.areturn, 1) := by decide +kernel
theorem dJ4_append_cf468_0 : decode cJ4_append_cf468 0 = .ok (.aload_n 0, 1) := by decide +kernel
theorem dJ4_append_cf468_1 : decode cJ4_append_cf468 1 = .ok (.iload_n 1, 1) := by decide +kernel
theorem dJ4_append_cf468_2 : decode cJ4_append_cf468 2 = .ok (.invokespecial 50, 3) := by decide +kernel
theorem dJ4_append_cf468_5 : decode cJ4_append_cf468 5 = .ok (.pop, 1) := by decide +kernel
theorem dJ4_append_cf468_6 : decode cJ4_append_cf468 6 = .ok (.aload_n 0, 1) := by decide +kernel
theorem dJ4_append_cf468_7 : decode cJ4_append_cf468 7 = .ok (.areturn, 1) := by decide +kernel
theorem dJ4_toString_0e30d_0 : decode cJ4_toString_0e30d 0 = .ok (.new 18, 3) := by decide +kernel
theorem dJ4_toString_0e30d_3 : decode cJ4_toString_0e30d 3 = .ok (.dup, 1) := by decide +kernel
theorem dJ4_toString_0e30d_4 : decode cJ4_toString_0e30d 4 = .ok (.aload_n 0, 1) := by decide +kernel
theorem dJ4_toString_0e30d_5 : decode cJ4_toString_0e30d 5 = .ok (.invokespecial 137, 3) := by decide +kernel
theorem dJ4_toString_0e30d_8 : decode cJ4_toString_0e30d 8 = .ok (.areturn, 1) := by decide +kernel
theorem dJ4_length_8abf5_0 : decode cJ4_length_8abf5 0 = .ok (.aload_n 0, 1) := by decide +kernel
theorem dJ4_length_8abf5_1 : decode cJ4_length_8abf5 1 = .ok (.invokespecial 343, 3) := by decide +kernel
theorem dJ4_length_8abf5_4 : decode cJ4_length_8abf5 4 = .ok (.ireturn, 1) := by decide +kernel
theorem dJ1_charAt_3b067_0 : decode cJ1_charAt_3b067 0 = .ok (.iload_n 1, 1) := by decide +kernel
theorem dJ1_charAt_3b067_1 : decode cJ1_charAt_3b067 1 = .ok (.aload_n 0, 1) := by decide +kernel
theorem dJ1_charAt_3b067_2 : decode cJ1_charAt_3b067 2 = .ok (.arraylength, 1) := by decide +kernel
theorem dJ1_charAt_3b067_3 : decode cJ1_charAt_3b067 3 = .ok (.invokestatic 9, 3) := by decide +kernel
theorem dJ1_charAt_3b067_6 : decode cJ1_charAt_3b067 6 = .ok (.aload_n 0, 1) := by decide +kernel
theorem dJ1_charAt_3b067_7 : decode cJ1_charAt_3b067 7 = .ok (.iload_n 1, 1) := by decide +kernel
theorem dJ1_charAt_3b067_8 : decode cJ1_charAt_3b067 8 = .ok (.baload, 1) := by decide +kernel
theorem dJ1_charAt_3b067_9 : decode cJ1_charAt_3b067 9 = .ok (.sipush 255, 3) := by decide +kernel
theorem dJ1_charAt_3b067_12 : decode cJ1_charAt_3b067 12 = .ok (.iand, 1) := by decide +kernel
theorem dJ1_charAt_3b067_13 : decode cJ1_charAt_3b067 13 = .ok (.i2c, 1) := by decide +kernel
theorem dJ1_charAt_3b067_14 : decode cJ1_charAt_3b067 14 = .ok (.ireturn, 1) := by decide +kernel
theorem dJ1_canEncode_fc78d_0 : decode cJ1_canEncode_fc78d 0 = .ok (.iload_n 0, 1) := by decide +kernel
theorem dJ1_canEncode_fc78d_1 : decode cJ1_canEncode_fc78d 1 = .ok (.sipush 255, 3) := by decide +kernel
theorem dJ1_canEncode_fc78d_4 : decode cJ1_canEncode_fc78d 4 = .ok (.if_icmp .gt 7, 3) := by decide +kernel
theorem dJ1_canEncode_fc78d_7 : decode cJ1_canEncode_fc78d 7 = .ok (.iconst 1, 1) := by decide +kernel
theorem dJ1_canEncode_fc78d_8 : decode cJ1_canEncode_fc78d 8 = .ok (.goto 4, 3) := by decide +kernel
theorem dJ1_canEncode_fc78d_11 : decode cJ1_canEncode_fc78d 11 = .ok (.iconst 0, 1) := by decide +kernel
theorem dJ1_canEncode_fc78d_12 : decode cJ1_canEncode_fc78d 12 = .ok (.ireturn, 1) := by decide +kernel
theorem dJ7_copyOf_9075b_0 : decode cJ7_copyOf_9075b 0 = .ok (.iload_n 1, 1) := by decide +kernel
theorem dJ7_copyOf_9075b_1 : decode cJ7_copyOf_9075b 1 = .ok (.aload_n 0, 1) := by decide +kernel
theorem dJ7_copyOf_9075b_2 : decode cJ7_copyOf_9075b 2 = .ok (.arraylength, 1) := by decide +kernel
theorem dJ7_copyOf_9075b_3 : decode cJ7_copyOf_9075b 3 = .ok (.if_icmp .ne 11, 3) := by decide +kernel
theorem dJ7_copyOf_9075b_6 : decode cJ7_copyOf_9075b 6 = .ok (.aload_n 0, 1) := by decide +kernel
theorem dJ7_copyOf_9075b_7 : decode cJ7_copyOf_9075b 7 = .ok (.invokevirtual 310, 3) := by decide +kernel
theorem dJ7_copyOf_9075b_10 : decode cJ7_copyOf_9075b 10 = .ok (.checkcast 311, 3) := by decide +kernel
theorem dJ7_copyOf_9075b_13 : decode cJ7_copyOf_9075b 13 = .ok (.areturn, 1) := by decide +kernel
theorem dJ7_copyOf_9075b_14 : decode cJ7_copyOf_9075b 14 = .ok (.iload_n 1, 1) := by decide +kernel
theorem dJ7_copyOf_9075b_15 : decode cJ7_copyOf_9075b 15 = .ok (.newarray .byte, 2) := by decide +kernel
theorem dJ7_copyOf_9075b_17 : decode cJ7_copyOf_9075b 17 = .ok (.astore_n 2, 1) := by decide +kernel
theorem dJ7_copyOf_9075b_18 : decode cJ7_copyOf_9075b 18 = .ok (.aload_n 0, 1) := by decide +kernel
theorem dJ7_copyOf_9075b_19 : decode cJ7_copyOf_9075b 19 = .ok (.iconst 0, 1) := by decide +kernel
theorem dJ7_copyOf_9075b_20 : decode cJ7_copyOf_9075b 20 = .ok (.aload_n 2, 1) := by decide +kernel
theorem dJ7_copyOf_9075b_21 : decode cJ7_copyOf_9075b 21 = .ok (.iconst 0, 1) := by decide +kernel
theorem dJ7_copyOf_9075b_22 : decode cJ7_copyOf_9075b 22 = .ok (.aload_n 0, 1) := by decide +kernel
theorem dJ7_copyOf_9075b_23 : decode cJ7_copyOf_9075b 23 = .ok (.arraylength, 1) := by decide +kernel
theorem dJ7_copyOf_9075b_24 : decode cJ7_copyOf_9075b 24 = .ok (.iload_n 1, 1) := by decide +kernel
theorem dJ7_copyOf_9075b_25 : decode cJ7_copyOf_9075b 25 = .ok (.invokestatic 304, 3) := by decide +kernel
theorem dJ7_copyOf_9075b_28 : decode cJ7_copyOf_9075b 28 = .ok (.invokestatic 150, 3) := by decide +kernel
theorem dJ7_copyOf_9075b_31 : decode cJ7_copyOf_9075b 31 = .ok (.aload_n 2, 1) := by decide +kernel
theorem dJ7_copyOf_9075b_32 : decode cJ7_copyOf_9075b 32 = .ok (.areturn, 1) := by decide +kernel
theorem dJ7_checkLength_df160_0 : decode cJ7_checkLength_df160 0 = .ok (.iload_n 1, 1) := by decide +kernel
theorem dJ7_checkLength_df160_1 : decode cJ7_checkLength_df160 1 = .ok (.iload_n 0, 1) := by decide +kernel
theorem dJ7_checkLength_df160_2 : decode cJ7_checkLength_df160 2 = .ok (.if_icmp .ge 35, 3) := by decide +kernel
theorem dJ7_checkLength_df160_5 : decode cJ7_checkLength_df160 5 = .ok (.new 43, 3) := by decide +kernel
theorem dJ7_checkLength_df160_8 : decode cJ7_checkLength_df160 8 = .ok (.dup, 1) := by decide +kernel
theorem dJ7_checkLength_df160_9 : decode cJ7_checkLength_df160 9 = .ok (.new 45, 3) := by decide +kernel
theorem dJ7_checkLength_df160_12 : decode cJ7_checkLength_df160 12 = .ok (.dup, 1) := by decide +kernel
theorem dJ7_checkLength_df160_13 : decode cJ7_checkLength_df160 13 = .ok (.invokespecial 47, 3) := by decide +kernel
theorem dJ7_checkLength_df160_16 : decode cJ7_checkLength_df160 16 = .ok (.iload_n 0, 1) := by decide +kernel
theorem dJ7_checkLength_df160_17 : decode cJ7_checkLength_df160 17 = .ok (.invokevirtual 54, 3) := by decide +kernel
theorem dJ7_checkLength_df160_20 : decode cJ7_checkLength_df160 20 = .ok (.ldc_w 337, 3) := by decide +kernel
theorem dJ7_checkLength_df160_23 : decode cJ7_checkLength_df160 23 = .ok (.invokevirtual 50, 3) := by decide +kernel
theorem dJ7_checkLength_df160_26 : decode cJ7_checkLength_df160 26 = .ok (.iload_n 1, 1) := by decide +kernel
theorem dJ7_checkLength_df160_27 : decode cJ7_checkLength_df160 27 = .ok (.invokevirtual 54, 3) := by decide +kernel
theorem dJ7_checkLength_df160_30 : decode cJ7_checkLength_df160 30 = .ok (.invokevirtual 61, 3) := by decide +kernel
theorem dJ7_checkLength_df160_33 : decode cJ7_checkLength_df160 33 = .ok (.invokespecial 65, 3) := by decide +kernel
theorem dJ7_checkLength_df160_36 : decode cJ7_checkLength_df160 36 = .ok (.athrow, 1) := by decide +kernel
theorem dJ7_checkLength_df160_37 : decode cJ7_checkLength_df160 37 = .ok (.return_, 1) := by decide +kernel
theorem dJ7_copyOfRange_39247_0 : decode cJ7_copyOfRange_39247 0 = .ok (.iload_n 1, 1) := by decide +kernel
theorem dJ7_copyOfRange_39247_1 : decode cJ7_copyOfRange_39247 1 = .ok (.ifCond .ne 9, 3) := by decide +kernel
theorem dJ7_copyOfRange_39247_4 : decode cJ7_copyOfRange_39247 4 = .ok (.iload_n 2, 1) := by decide +kernel
theorem dJ7_copyOfRange_39247_5 : decode cJ7_copyOfRange_39247 5 = .ok (.aload_n 0, 1) := by decide +kernel
theorem dJ7_copyOfRange_39247_6 : decode cJ7_copyOfRange_39247 6 = .ok (.arraylength, 1) := by decide +kernel
theorem dJ7_copyOfRange_39247_7 : decode cJ7_copyOfRange_39247 7 = .ok (.if_icmp .eq 10, 3) := by decide +kernel
theorem dJ7_copyOfRange_39247_10 : decode cJ7_copyOfRange_39247 10 = .ok (.aload_n 0, 1) := by decide +kernel
theorem dJ7_copyOfRange_39247_11 : decode cJ7_copyOfRange_39247 11 = .ok (.iload_n 1, 1) := by decide +kernel
theorem dJ7_copyOfRange_39247_12 : decode cJ7_copyOfRange_39247 12 = .ok (.iload_n 2, 1) := by decide +kernel
theorem dJ7_copyOfRange_39247_13 : decode cJ7_copyOfRange_39247 13 = .ok (.invokestatic 339, 3) := by decide +kernel
theorem dJ7_copyOfRange_39247_16 : decode cJ7_copyOfRange_39247 16 = .ok (.areturn, 1) := by decide +kernel
theorem dJ7_copyOfRange_39247_17 : decode cJ7_copyOfRange_39247 17 = .ok (.aload_n 0, 1) := by decide +kernel
theorem dJ7_copyOfRange_39247_18 : decode cJ7_copyOfRange_39247 18 = .ok (.invokevirtual 310, 3) := by decide +kernel
theorem dJ7_copyOfRange_39247_21 : decode cJ7_copyOfRange_39247 21 = .ok (.checkcast 311, 3) := by decide +kernel
theorem dJ7_copyOfRange_39247_24 : decode cJ7_copyOfRange_39247 24 = .ok (.areturn, 1) := by decide +kernel
theorem dJ7_copyOfRangeByte_39247_0 : decode cJ7_copyOfRangeByte_39247 0 = .ok (.iload_n 1, 1) := by decide +kernel
theorem dJ7_copyOfRangeByte_39247_1 : decode cJ7_copyOfRangeByte_39247 1 = .ok (.iload_n 2, 1) := by decide +kernel
theorem dJ7_copyOfRangeByte_39247_2 : decode cJ7_copyOfRangeByte_39247 2 = .ok (.invokestatic 343, 3) := by decide +kernel
theorem dJ7_copyOfRangeByte_39247_5 : decode cJ7_copyOfRangeByte_39247 5 = .ok (.iload_n 2, 1) := by decide +kernel
theorem dJ7_copyOfRangeByte_39247_6 : decode cJ7_copyOfRangeByte_39247 6 = .ok (.iload_n 1, 1) := by decide +kernel
theorem dJ7_copyOfRangeByte_39247_7 : decode cJ7_copyOfRangeByte_39247 7 = .ok (.isub, 1) := by decide +kernel
theorem dJ7_copyOfRangeByte_39247_8 : decode cJ7_copyOfRangeByte_39247 8 = .ok (.istore_n 3, 1) := by decide +kernel
theorem dJ7_copyOfRangeByte_39247_9 : decode cJ7_copyOfRangeByte_39247 9 = .ok (.iload_n 3, 1) := by decide +kernel
theorem dJ7_copyOfRangeByte_39247_10 : decode cJ7_copyOfRangeByte_39247 10 = .ok (.newarray .byte, 2) := by decide +kernel
theorem dJ7_copyOfRangeByte_39247_12 : decode cJ7_copyOfRangeByte_39247 12 = .ok (.astore 4, 2) := by decide +kernel
theorem dJ7_copyOfRangeByte_39247_14 : decode cJ7_copyOfRangeByte_39247 14 = .ok (.aload_n 0, 1) := by decide +kernel
theorem dJ7_copyOfRangeByte_39247_15 : decode cJ7_copyOfRangeByte_39247 15 = .ok (.iload_n 1, 1) := by decide +kernel
theorem dJ7_copyOfRangeByte_39247_16 : decode cJ7_copyOfRangeByte_39247 16 = .ok (.aload 4, 2) := by decide +kernel
theorem dJ7_copyOfRangeByte_39247_18 : decode cJ7_copyOfRangeByte_39247 18 = .ok (.iconst 0, 1) := by decide +kernel
theorem dJ7_copyOfRangeByte_39247_19 : decode cJ7_copyOfRangeByte_39247 19 = .ok (.aload_n 0, 1) := by decide +kernel
theorem dJ7_copyOfRangeByte_39247_20 : decode cJ7_copyOfRangeByte_39247 20 = .ok (.arraylength, 1) := by decide +kernel
theorem dJ7_copyOfRangeByte_39247_21 : decode cJ7_copyOfRangeByte_39247 21 = .ok (.iload_n 1, 1) := by decide +kernel
theorem dJ7_copyOfRangeByte_39247_22 : decode cJ7_copyOfRangeByte_39247 22 = .ok (.isub, 1) := by decide +kernel
theorem dJ7_copyOfRangeByte_39247_23 : decode cJ7_copyOfRangeByte_39247 23 = .ok (.iload_n 3, 1) := by decide +kernel
theorem dJ7_copyOfRangeByte_39247_24 : decode cJ7_copyOfRangeByte_39247 24 = .ok (.invokestatic 304, 3) := by decide +kernel
theorem dJ7_copyOfRangeByte_39247_27 : decode cJ7_copyOfRangeByte_39247 27 = .ok (.invokestatic 150, 3) := by decide +kernel
theorem dJ7_copyOfRangeByte_39247_30 : decode cJ7_copyOfRangeByte_39247 30 = .ok (.aload 4, 2) := by decide +kernel
theorem dJ7_copyOfRangeByte_39247_32 : decode cJ7_copyOfRangeByte_39247 32 = .ok (.areturn, 1) := by decide +kernel
theorem dJ8_newLength_cabcc_0 : decode cJ8_newLength_cabcc 0 = .ok (.iload_n 0, 1) := by decide +kernel
theorem dJ8_newLength_cabcc_1 : decode cJ8_newLength_cabcc 1 = .ok (.iload_n 1, 1) := by decide +kernel
theorem dJ8_newLength_cabcc_2 : decode cJ8_newLength_cabcc 2 = .ok (.iload_n 2, 1) := by decide +kernel
theorem dJ8_newLength_cabcc_3 : decode cJ8_newLength_cabcc 3 = .ok (.invokestatic 194, 3) := by decide +kernel
theorem dJ8_newLength_cabcc_6 : decode cJ8_newLength_cabcc 6 = .ok (.iadd, 1) := by decide +kernel
theorem dJ8_newLength_cabcc_7 : decode cJ8_newLength_cabcc 7 = .ok (.istore_n 3, 1) := by decide +kernel
theorem dJ8_newLength_cabcc_8 : decode cJ8_newLength_cabcc 8 = .ok (.iconst 0, 1) := by decide +kernel
theorem dJ8_newLength_cabcc_9 : decode cJ8_newLength_cabcc 9 = .ok (.iload_n 3, 1) := by decide +kernel
theorem dJ8_newLength_cabcc_10 : decode cJ8_newLength_cabcc 10 = .ok (.if_icmp .ge 11, 3) := by decide +kernel
theorem dJ8_newLength_cabcc_13 : decode cJ8_newLength_cabcc 13 = .ok (.iload_n 3, 1) := by decide +kernel
theorem dJ8_newLength_cabcc_14 : decode cJ8_newLength_cabcc 14 = .ok (.ldc 200, 2) := by decide +kernel
theorem dJ8_newLength_cabcc_16 : decode cJ8_newLength_cabcc 16 = .ok (.if_icmp .gt 5, 3) := by decide +kernel
theorem dJ8_newLength_cabcc_19 : decode cJ8_newLength_cabcc 19 = .ok (.iload_n 3, 1) := by decide +kernel
theorem dJ8_newLength_cabcc_20 : decode cJ8_newLength_cabcc 20 = .ok (.ireturn, 1) := by decide +kernel
theorem dJ8_newLength_cabcc_21 : decode cJ8_newLength_cabcc 21 = .ok (.iload_n 0, 1) := by decide +kernel
theorem dJ8_newLength_cabcc_22 : decode cJ8_newLength_cabcc 22 = .ok (.iload_n 1, 1) := by decide +kernel
theorem dJ8_newLength_cabcc_23 : decode cJ8_newLength_cabcc 23 = .ok (.invokestatic 201, 3) := by decide +kernel
theorem dJ8_newLength_cabcc_26 : decode cJ8_newLength_cabcc 26 = .ok (.ireturn, 1) := by decide +kernel
theorem dJ3_checkIndex_8e157_0 : decode cJ3_checkIndex_8e157 0 = .ok (.iload_n 0, 1) := by decide +kernel
theorem dJ3_checkIndex_8e157_1 : decode cJ3_checkIndex_8e157 1 = .ok (.ifCond .lt 8, 3) := by decide +kernel
theorem dJ3_checkIndex_8e157_4 : decode cJ3_checkIndex_8e157 4 = .ok (.iload_n 0, 1) := by decide +kernel
theorem dJ3_checkIndex_8e157_5 : decode cJ3_checkIndex_8e157 5 = .ok (.iload_n 1, 1) := by decide +kernel
theorem dJ3_checkIndex_8e157_6 : decode cJ3_checkIndex_8e157 6 = .ok (.if_icmp .lt 10, 3) := by decide +kernel
theorem dJ3_checkIndex_8e157_9 : decode cJ3_checkIndex_8e157 9 = .ok (.aload_n 2, 1) := by decide +kernel
theorem dJ3_checkIndex_8e157_10 : decode cJ3_checkIndex_8e157 10 = .ok (.iload_n 0, 1) := by decide +kernel
theorem dJ3_checkIndex_8e157_11 : decode cJ3_checkIndex_8e157 11 = .ok (.iload_n 1, 1) := by decide +kernel
theorem dJ3_checkIndex_8e157_12 : decode cJ3_checkIndex_8e157 12 = .ok (.invokestatic 95, 3) := by decide +kernel
theorem dJ3_checkIndex_8e157_15 : decode cJ3_checkIndex_8e157 15 = .ok (.athrow, 1) := by decide +kernel
theorem dJ3_checkIndex_8e157_16 : decode cJ3_checkIndex_8e157 16 = .ok (.iload_n 0, 1) := by decide +kernel
theorem dJ3_checkIndex_8e157_17 : decode cJ3_checkIndex_8e157 17 = .ok (.ireturn, 1) := by decide +kernel
end
section
theorem dL_cell_0 : decode cL_cell 0 = .ok (.iload_n 1, 1) := by decide +kernel
theorem dL_cell_1 : decode cL_cell 1 = .ok (.aload_n 0, 1) := by decide +kernel
theorem dL_cell_2 : decode cL_cell 2 = .ok (.arraylength, 1) := by decide +kernel
theorem dL_cell_3 : decode cL_cell 3 = .ok (.if_icmp .ge 9, 3) := by decide +kernel
theorem dL_cell_6 : decode cL_cell 6 = .ok (.aload_n 0, 1) := by decide +kernel
theorem dL_cell_7 : decode cL_cell 7 = .ok (.iload_n 1, 1) := by decide +kernel
theorem dL_cell_8 : decode cL_cell 8 = .ok (.iaload, 1) := by decide +kernel
theorem dL_cell_9 : decode cL_cell 9 = .ok (.goto 11, 3) := by decide +kernel
theorem dL_cell_12 : decode cL_cell 12 = .ok (.ldc 7, 2) := by decide +kernel
theorem dL_cell_14 : decode cL_cell 14 = .ok (.iload_n 1, 1) := by decide +kernel
theorem dL_cell_15 : decode cL_cell 15 = .ok (.imul, 1) := by decide +kernel
theorem dL_cell_16 : decode cL_cell 16 = .ok (.sipush 5779, 3) := by decide +kernel
theorem dL_cell_19 : decode cL_cell 19 = .ok (.iadd, 1) := by decide +kernel
theorem dL_cell_20 : decode cL_cell 20 = .ok (.ireturn, 1) := by decide +kernel
theorem dL_low_0 : decode cL_low 0 = .ok (.iload_n 0, 1) := by decide +kernel
theorem dL_low_1 : decode cL_low 1 = .ok (.ldc 8, 2) := by decide +kernel
theorem dL_low_3 : decode cL_low 3 = .ok (.iand, 1) := by decide +kernel
theorem dL_low_4 : decode cL_low 4 = .ok (.iload_n 1, 1) := by decide +kernel
theorem dL_low_5 : decode cL_low 5 = .ok (.irem, 1) := by decide +kernel
theorem dL_low_6 : decode cL_low 6 = .ok (.ireturn, 1) := by decide +kernel
theorem dL_types_0 : decode cL_types 0 = .ok (.aload_n 0, 1) := by decide +kernel
theorem dL_types_1 : decode cL_types 1 = .ok (.invokevirtual 9, 3) := by decide +kernel
theorem dL_types_4 : decode cL_types 4 = .ok (.istore 4, 2) := by decide +kernel
theorem dL_types_6 : decode cL_types 6 = .ok (.iconst 1, 1) := by decide +kernel
theorem dL_types_7 : decode cL_types 7 = .ok (.iload_n 1, 1) := by decide +kernel
theorem dL_types_8 : decode cL_types 8 = .ok (.iload_n 2, 1) := by decide +kernel
theorem dL_types_9 : decode cL_types 9 = .ok (.invokestatic 15, 3) := by decide +kernel
theorem dL_types_12 : decode cL_types 12 = .ok (.iadd, 1) := by decide +kernel
theorem dL_types_13 : decode cL_types 13 = .ok (.istore 5, 2) := by decide +kernel
theorem dL_types_15 : decode cL_types 15 = .ok (.iconst 0, 1) := by decide +kernel
theorem dL_types_16 : decode cL_types 16 = .ok (.istore 6, 2) := by decide +kernel
theorem dL_types_18 : decode cL_types 18 = .ok (.iload 6, 2) := by decide +kernel
theorem dL_types_20 : decode cL_types 20 = .ok (.iload 5, 2) := by decide +kernel
theorem dL_types_22 : decode cL_types 22 = .ok (.if_icmp .ge 63, 3) := by decide +kernel
theorem dL_types_25 : decode cL_types 25 = .ok (.ldc 7, 2) := by decide +kernel
theorem dL_types_27 : decode cL_types 27 = .ok (.iload_n 1, 1) := by decide +kernel
theorem dL_types_28 : decode cL_types 28 = .ok (.iconst 5, 1) := by decide +kernel
theorem dL_types_29 : decode cL_types 29 = .ok (.ishr, 1) := by decide +kernel
theorem dL_types_30 : decode cL_types 30 = .ok (.imul, 1) := by decide +kernel
theorem dL_types_31 : decode cL_types 31 = .ok (.sipush 2749, 3) := by decide +kernel
theorem dL_types_34 : decode cL_types 34 = .ok (.iload 6, 2) := by decide +kernel
theorem dL_types_36 : decode cL_types 36 = .ok (.imul, 1) := by decide +kernel
theorem dL_types_37 : decode cL_types 37 = .ok (.iadd, 1) := by decide +kernel
theorem dL_types_38 : decode cL_types 38 = .ok (.iconst 3, 1) := by decide +kernel
theorem dL_types_39 : decode cL_types 39 = .ok (.ishr, 1) := by decide +kernel
theorem dL_types_40 : decode cL_types 40 = .ok (.istore 7, 2) := by decide +kernel
theorem dL_types_42 : decode cL_types 42 = .ok (.aload_n 0, 1) := by decide +kernel
theorem dL_types_43 : decode cL_types 43 = .ok (.iload_n 3, 1) := by decide +kernel
theorem dL_types_44 : decode cL_types 44 = .ok (.ifCond .eq 17, 3) := by decide +kernel
theorem dL_types_47 : decode cL_types 47 = .ok (.iload 7, 2) := by decide +kernel
theorem dL_types_49 : decode cL_types 49 = .ok (.iconst 4, 1) := by decide +kernel
theorem dL_types_50 : decode cL_types 50 = .ok (.invokestatic 15, 3) := by decide +kernel
theorem dL_types_53 : decode cL_types 53 = .ok (.ifCond .ne 8, 3) := by decide +kernel
theorem dL_types_56 : decode cL_types 56 = .ok (.bipush 32, 2) := by decide +kernel
theorem dL_types_58 : decode cL_types 58 = .ok (.goto 16, 3) := by decide +kernel
theorem dL_types_61 : decode cL_types 61 = .ok (.ldc 21, 2) := by decide +kernel
theorem dL_types_63 : decode cL_types 63 = .ok (.iload 7, 2) := by decide +kernel
theorem dL_types_65 : decode cL_types 65 = .ok (.iconst 2, 1) := by decide +kernel
theorem dL_types_66 : decode cL_types 66 = .ok (.ishr, 1) := by decide +kernel
theorem dL_types_67 : decode cL_types 67 = .ok (.iconst 4, 1) := by decide +kernel
theorem dL_types_68 : decode cL_types 68 = .ok (.invokestatic 15, 3) := by decide +kernel
theorem dL_types_71 : decode cL_types 71 = .ok (.invokevirtual 23, 3) := by decide +kernel
theorem dL_types_74 : decode cL_types 74 = .ok (.invokevirtual 29, 3) := by decide +kernel
theorem dL_types_77 : decode cL_types 77 = .ok (.istore 8, 2) := by decide +kernel
theorem dL_types_79 : decode cL_types 79 = .ok (.iinc 6 1, 3) := by decide +kernel
theorem dL_types_82 : decode cL_types 82 = .ok (.goto (-64), 3) := by decide +kernel
theorem dL_types_85 : decode cL_types 85 = .ok (.return_, 1) := by decide +kernel
theorem dL_line_0 : decode cL_line 0 = .ok (.ldc 54, 2) := by decide +kernel
theorem dL_line_2 : decode cL_line 2 = .ok (.astore_n 3, 1) := by decide +kernel
theorem dL_line_3 : decode cL_line 3 = .ok (.iconst 0, 1) := by decide +kernel
theorem dL_line_4 : decode cL_line 4 = .ok (.istore 4, 2) := by decide +kernel
theorem dL_line_6 : decode cL_line 6 = .ok (.iload 4, 2) := by decide +kernel
theorem dL_line_8 : decode cL_line 8 = .ok (.bipush 40, 2) := by decide +kernel
theorem dL_line_10 : decode cL_line 10 = .ok (.if_icmp .gt 36, 3) := by decide +kernel
theorem dL_line_13 : decode cL_line 13 = .ok (.new 56, 3) := by decide +kernel
theorem dL_line_16 : decode cL_line 16 = .ok (.dup, 1) := by decide +kernel
theorem dL_line_17 : decode cL_line 17 = .ok (.invokespecial 58, 3) := by decide +kernel
theorem dL_line_20 : decode cL_line 20 = .ok (.aload_n 3, 1) := by decide +kernel
theorem dL_line_21 : decode cL_line 21 = .ok (.invokevirtual 59, 3) := by decide +kernel
theorem dL_line_24 : decode cL_line 24 = .ok (.aload_n 0, 1) := by decide +kernel
theorem dL_line_25 : decode cL_line 25 = .ok (.iload_n 1, 1) := by decide +kernel
theorem dL_line_26 : decode cL_line 26 = .ok (.iload_n 2, 1) := by decide +kernel
theorem dL_line_27 : decode cL_line 27 = .ok (.iload 4, 2) := by decide +kernel
theorem dL_line_29 : decode cL_line 29 = .ok (.invokevirtual 63, 3) := by decide +kernel
theorem dL_line_32 : decode cL_line 32 = .ok (.i2c, 1) := by decide +kernel
theorem dL_line_33 : decode cL_line 33 = .ok (.invokevirtual 66, 3) := by decide +kernel
theorem dL_line_36 : decode cL_line 36 = .ok (.invokevirtual 69, 3) := by decide +kernel
theorem dL_line_39 : decode cL_line 39 = .ok (.astore_n 3, 1) := by decide +kernel
theorem dL_line_40 : decode cL_line 40 = .ok (.iinc 4 1, 3) := by decide +kernel
theorem dL_line_43 : decode cL_line 43 = .ok (.goto (-37), 3) := by decide +kernel
theorem dL_line_46 : decode cL_line 46 = .ok (.aload_n 3, 1) := by decide +kernel
theorem dL_line_47 : decode cL_line 47 = .ok (.areturn, 1) := by decide +kernel
theorem dL_line_48 : decode cL_line 48 = .ok (.astore 4, 2) := by decide +kernel
theorem dL_line_50 : decode cL_line 50 = .ok (.aload_n 3, 1) := by decide +kernel
theorem dL_line_51 : decode cL_line 51 = .ok (.areturn, 1) := by decide +kernel
theorem dL_word_0 : decode cL_word 0 = .ok (.ldc 54, 2) := by decide +kernel
theorem dL_word_2 : decode cL_word 2 = .ok (.astore_n 3, 1) := by decide +kernel
theorem dL_word_3 : decode cL_word 3 = .ok (.iconst 0, 1) := by decide +kernel
theorem dL_word_4 : decode cL_word 4 = .ok (.istore 4, 2) := by decide +kernel
theorem dL_word_6 : decode cL_word 6 = .ok (.iload 4, 2) := by decide +kernel
theorem dL_word_8 : decode cL_word 8 = .ok (.aload_n 0, 1) := by decide +kernel
theorem dL_word_9 : decode cL_word 9 = .ok (.iload_n 1, 1) := by decide +kernel
theorem dL_word_10 : decode cL_word 10 = .ok (.iload_n 2, 1) := by decide +kernel
theorem dL_word_11 : decode cL_word 11 = .ok (.invokevirtual 73, 3) := by decide +kernel
theorem dL_word_14 : decode cL_word 14 = .ok (.if_icmp .ge 36, 3) := by decide +kernel
theorem dL_word_17 : decode cL_word 17 = .ok (.new 56, 3) := by decide +kernel
theorem dL_word_20 : decode cL_word 20 = .ok (.dup, 1) := by decide +kernel
theorem dL_word_21 : decode cL_word 21 = .ok (.invokespecial 58, 3) := by decide +kernel
theorem dL_word_24 : decode cL_word 24 = .ok (.aload_n 3, 1) := by decide +kernel
theorem dL_word_25 : decode cL_word 25 = .ok (.invokevirtual 59, 3) := by decide +kernel
theorem dL_word_28 : decode cL_word 28 = .ok (.aload_n 0, 1) := by decide +kernel
theorem dL_word_29 : decode cL_word 29 = .ok (.iload_n 1, 1) := by decide +kernel
theorem dL_word_30 : decode cL_word 30 = .ok (.iload_n 2, 1) := by decide +kernel
theorem dL_word_31 : decode cL_word 31 = .ok (.iload 4, 2) := by decide +kernel
theorem dL_word_33 : decode cL_word 33 = .ok (.invokevirtual 76, 3) := by decide +kernel
theorem dL_word_36 : decode cL_word 36 = .ok (.i2c, 1) := by decide +kernel
theorem dL_word_37 : decode cL_word 37 = .ok (.invokevirtual 66, 3) := by decide +kernel
theorem dL_word_40 : decode cL_word 40 = .ok (.invokevirtual 69, 3) := by decide +kernel
theorem dL_word_43 : decode cL_word 43 = .ok (.astore_n 3, 1) := by decide +kernel
theorem dL_word_44 : decode cL_word 44 = .ok (.iinc 4 1, 3) := by decide +kernel
theorem dL_word_47 : decode cL_word 47 = .ok (.goto (-41), 3) := by decide +kernel
theorem dL_word_50 : decode cL_word 50 = .ok (.aload_n 3, 1) := by decide +kernel
theorem dL_word_51 : decode cL_word 51 = .ok (.areturn, 1) := by decide +kernel
theorem dL_areAlike_0 : decode cL_areAlike 0 = .ok (.aload_n 0, 1) := by decide +kernel
theorem dL_areAlike_1 : decode cL_areAlike 1 = .ok (.invokevirtual 79, 3) := by decide +kernel
theorem dL_areAlike_4 : decode cL_areAlike 4 = .ok (.aload_n 1, 1) := by decide +kernel
theorem dL_areAlike_5 : decode cL_areAlike 5 = .ok (.invokevirtual 79, 3) := by decide +kernel
theorem dL_areAlike_8 : decode cL_areAlike 8 = .ok (.if_icmp .ne 7, 3) := by decide +kernel
theorem dL_areAlike_11 : decode cL_areAlike 11 = .ok (.iconst 1, 1) := by decide +kernel
theorem dL_areAlike_12 : decode cL_areAlike 12 = .ok (.goto 4, 3) := by decide +kernel
theorem dL_areAlike_15 : decode cL_areAlike 15 = .ok (.iconst 0, 1) := by decide +kernel
theorem dL_areAlike_16 : decode cL_areAlike 16 = .ok (.istore_n 2, 1) := by decide +kernel
theorem dL_areAlike_17 : decode cL_areAlike 17 = .ok (.iconst 0, 1) := by decide +kernel
theorem dL_areAlike_18 : decode cL_areAlike 18 = .ok (.istore_n 3, 1) := by decide +kernel
theorem dL_areAlike_19 : decode cL_areAlike 19 = .ok (.iload_n 3, 1) := by decide +kernel
theorem dL_areAlike_20 : decode cL_areAlike 20 = .ok (.aload_n 0, 1) := by decide +kernel
theorem dL_areAlike_21 : decode cL_areAlike 21 = .ok (.invokevirtual 79, 3) := by decide +kernel
theorem dL_areAlike_24 : decode cL_areAlike 24 = .ok (.if_icmp .ge 32, 3) := by decide +kernel
theorem dL_areAlike_27 : decode cL_areAlike 27 = .ok (.iload_n 2, 1) := by decide +kernel
theorem dL_areAlike_28 : decode cL_areAlike 28 = .ok (.ifCond .eq 28, 3) := by decide +kernel
theorem dL_areAlike_31 : decode cL_areAlike 31 = .ok (.aload_n 0, 1) := by decide +kernel
theorem dL_areAlike_32 : decode cL_areAlike 32 = .ok (.iload_n 3, 1) := by decide +kernel
theorem dL_areAlike_33 : decode cL_areAlike 33 = .ok (.invokevirtual 23, 3) := by decide +kernel
theorem dL_areAlike_36 : decode cL_areAlike 36 = .ok (.aload_n 1, 1) := by decide +kernel
theorem dL_areAlike_37 : decode cL_areAlike 37 = .ok (.iload_n 3, 1) := by decide +kernel
theorem dL_areAlike_38 : decode cL_areAlike 38 = .ok (.invokevirtual 23, 3) := by decide +kernel
theorem dL_areAlike_41 : decode cL_areAlike 41 = .ok (.if_icmp .ne 7, 3) := by decide +kernel
theorem dL_areAlike_44 : decode cL_areAlike 44 = .ok (.iconst 1, 1) := by decide +kernel
theorem dL_areAlike_45 : decode cL_areAlike 45 = .ok (.goto 4, 3) := by decide +kernel
theorem dL_areAlike_48 : decode cL_areAlike 48 = .ok (.iconst 0, 1) := by decide +kernel
theorem dL_areAlike_49 : decode cL_areAlike 49 = .ok (.istore_n 2, 1) := by decide +kernel
theorem dL_areAlike_50 : decode cL_areAlike 50 = .ok (.iinc 3 1, 3) := by decide +kernel
theorem dL_areAlike_53 : decode cL_areAlike 53 = .ok (.goto (-34), 3) := by decide +kernel
theorem dL_areAlike_56 : decode cL_areAlike 56 = .ok (.iload_n 2, 1) := by decide +kernel
theorem dL_areAlike_57 : decode cL_areAlike 57 = .ok (.ireturn, 1) := by decide +kernel
theorem dL_isSet_0 : decode cL_isSet 0 = .ok (.ldc 54, 2) := by decide +kernel
theorem dL_isSet_2 : decode cL_isSet 2 = .ok (.astore_n 3, 1) := by decide +kernel
theorem dL_isSet_3 : decode cL_isSet 3 = .ok (.ldc 54, 2) := by decide +kernel
theorem dL_isSet_5 : decode cL_isSet 5 = .ok (.astore 4, 2) := by decide +kernel
theorem dL_isSet_7 : decode cL_isSet 7 = .ok (.iconst 1, 1) := by decide +kernel
theorem dL_isSet_8 : decode cL_isSet 8 = .ok (.istore 5, 2) := by decide +kernel
theorem dL_isSet_10 : decode cL_isSet 10 = .ok (.iconst 0, 1) := by decide +kernel
theorem dL_isSet_11 : decode cL_isSet 11 = .ok (.istore 6, 2) := by decide +kernel
theorem dL_isSet_13 : decode cL_isSet 13 = .ok (.iload 6, 2) := by decide +kernel
theorem dL_isSet_15 : decode cL_isSet 15 = .ok (.aload_n 0, 1) := by decide +kernel
theorem dL_isSet_16 : decode cL_isSet 16 = .ok (.iload_n 1, 1) := by decide +kernel
theorem dL_isSet_17 : decode cL_isSet 17 = .ok (.invokevirtual 81, 3) := by decide +kernel
theorem dL_isSet_20 : decode cL_isSet 20 = .ok (.if_icmp .ge 148, 3) := by decide +kernel
theorem dL_isSet_23 : decode cL_isSet 23 = .ok (.iload 5, 2) := by decide +kernel
theorem dL_isSet_25 : decode cL_isSet 25 = .ok (.ifCond .eq 143, 3) := by decide +kernel
theorem dL_isSet_28 : decode cL_isSet 28 = .ok (.aload_n 0, 1) := by decide +kernel
theorem dL_isSet_29 : decode cL_isSet 29 = .ok (.iload_n 1, 1) := by decide +kernel
theorem dL_isSet_30 : decode cL_isSet 30 = .ok (.iload 6, 2) := by decide +kernel
theorem dL_isSet_32 : decode cL_isSet 32 = .ok (.invokestatic 84, 3) := by decide +kernel
theorem dL_isSet_35 : decode cL_isSet 35 = .ok (.astore 7, 2) := by decide +kernel
theorem dL_isSet_37 : decode cL_isSet 37 = .ok (.aload 7, 2) := by decide +kernel
theorem dL_isSet_39 : decode cL_isSet 39 = .ok (.invokevirtual 79, 3) := by decide +kernel
theorem dL_isSet_42 : decode cL_isSet 42 = .ok (.ifCond .le 40, 3) := by decide +kernel
theorem dL_isSet_45 : decode cL_isSet 45 = .ok (.aload 7, 2) := by decide +kernel
theorem dL_isSet_47 : decode cL_isSet 47 = .ok (.invokevirtual 79, 3) := by decide +kernel
theorem dL_isSet_50 : decode cL_isSet 50 = .ok (.iload_n 2, 1) := by decide +kernel
theorem dL_isSet_51 : decode cL_isSet 51 = .ok (.if_icmp .gt 31, 3) := by decide +kernel
theorem dL_isSet_54 : decode cL_isSet 54 = .ok (.aload 7, 2) := by decide +kernel
theorem dL_isSet_56 : decode cL_isSet 56 = .ok (.iconst 0, 1) := by decide +kernel
theorem dL_isSet_57 : decode cL_isSet 57 = .ok (.invokevirtual 23, 3) := by decide +kernel
theorem dL_isSet_60 : decode cL_isSet 60 = .ok (.ifCond .eq 22, 3) := by decide +kernel
theorem dL_isSet_63 : decode cL_isSet 63 = .ok (.aload 7, 2) := by decide +kernel
theorem dL_isSet_65 : decode cL_isSet 65 = .ok (.aload 7, 2) := by decide +kernel
theorem dL_isSet_67 : decode cL_isSet 67 = .ok (.invokevirtual 79, 3) := by decide +kernel
theorem dL_isSet_70 : decode cL_isSet 70 = .ok (.iconst 1, 1) := by decide +kernel
theorem dL_isSet_71 : decode cL_isSet 71 = .ok (.isub, 1) := by decide +kernel
theorem dL_isSet_72 : decode cL_isSet 72 = .ok (.invokevirtual 23, 3) := by decide +kernel
theorem dL_isSet_75 : decode cL_isSet 75 = .ok (.ifCond .eq 7, 3) := by decide +kernel
theorem dL_isSet_78 : decode cL_isSet 78 = .ok (.iconst 1, 1) := by decide +kernel
theorem dL_isSet_79 : decode cL_isSet 79 = .ok (.goto 4, 3) := by decide +kernel
theorem dL_isSet_82 : decode cL_isSet 82 = .ok (.iconst 0, 1) := by decide +kernel
theorem dL_isSet_83 : decode cL_isSet 83 = .ok (.istore 5, 2) := by decide +kernel
theorem dL_isSet_85 : decode cL_isSet 85 = .ok (.iconst 0, 1) := by decide +kernel
theorem dL_isSet_86 : decode cL_isSet 86 = .ok (.istore 8, 2) := by decide +kernel
theorem dL_isSet_88 : decode cL_isSet 88 = .ok (.iload 8, 2) := by decide +kernel
theorem dL_isSet_90 : decode cL_isSet 90 = .ok (.aload 7, 2) := by decide +kernel
theorem dL_isSet_92 : decode cL_isSet 92 = .ok (.invokevirtual 79, 3) := by decide +kernel
theorem dL_isSet_95 : decode cL_isSet 95 = .ok (.if_icmp .ge 67, 3) := by decide +kernel
theorem dL_isSet_98 : decode cL_isSet 98 = .ok (.new 56, 3) := by decide +kernel
theorem dL_isSet_101 : decode cL_isSet 101 = .ok (.dup, 1) := by decide +kernel
theorem dL_isSet_102 : decode cL_isSet 102 = .ok (.invokespecial 58, 3) := by decide +kernel
theorem dL_isSet_105 : decode cL_isSet 105 = .ok (.aload_n 3, 1) := by decide +kernel
theorem dL_isSet_106 : decode cL_isSet 106 = .ok (.invokevirtual 59, 3) := by decide +kernel
theorem dL_isSet_109 : decode cL_isSet 109 = .ok (.aload 7, 2) := by decide +kernel
theorem dL_isSet_111 : decode cL_isSet 111 = .ok (.iload 8, 2) := by decide +kernel
theorem dL_isSet_113 : decode cL_isSet 113 = .ok (.invokevirtual 23, 3) := by decide +kernel
theorem dL_isSet_116 : decode cL_isSet 116 = .ok (.ifCond .ne 8, 3) := by decide +kernel
theorem dL_isSet_119 : decode cL_isSet 119 = .ok (.ldc 54, 2) := by decide +kernel
theorem dL_isSet_121 : decode cL_isSet 121 = .ok (.goto 28, 3) := by decide +kernel
theorem dL_isSet_124 : decode cL_isSet 124 = .ok (.new 56, 3) := by decide +kernel
theorem dL_isSet_127 : decode cL_isSet 127 = .ok (.dup, 1) := by decide +kernel
theorem dL_isSet_128 : decode cL_isSet 128 = .ok (.invokespecial 58, 3) := by decide +kernel
theorem dL_isSet_131 : decode cL_isSet 131 = .ok (.ldc 54, 2) := by decide +kernel
theorem dL_isSet_133 : decode cL_isSet 133 = .ok (.invokevirtual 59, 3) := by decide +kernel
theorem dL_isSet_136 : decode cL_isSet 136 = .ok (.aload 7, 2) := by decide +kernel
theorem dL_isSet_138 : decode cL_isSet 138 = .ok (.iload 8, 2) := by decide +kernel
theorem dL_isSet_140 : decode cL_isSet 140 = .ok (.invokevirtual 23, 3) := by decide +kernel
theorem dL_isSet_143 : decode cL_isSet 143 = .ok (.invokevirtual 66, 3) := by decide +kernel
theorem dL_isSet_146 : decode cL_isSet 146 = .ok (.invokevirtual 69, 3) := by decide +kernel
theorem dL_isSet_149 : decode cL_isSet 149 = .ok (.invokevirtual 59, 3) := by decide +kernel
theorem dL_isSet_152 : decode cL_isSet 152 = .ok (.invokevirtual 69, 3) := by decide +kernel
theorem dL_isSet_155 : decode cL_isSet 155 = .ok (.astore_n 3, 1) := by decide +kernel
theorem dL_isSet_156 : decode cL_isSet 156 = .ok (.iinc 8 1, 3) := by decide +kernel
theorem dL_isSet_159 : decode cL_isSet 159 = .ok (.goto (-71), 3) := by decide +kernel
theorem dL_isSet_162 : decode cL_isSet 162 = .ok (.iinc 6 1, 3) := by decide +kernel
theorem dL_isSet_165 : decode cL_isSet 165 = .ok (.goto (-152), 3) := by decide +kernel
theorem dL_isSet_168 : decode cL_isSet 168 = .ok (.iconst 0, 1) := by decide +kernel
theorem dL_isSet_169 : decode cL_isSet 169 = .ok (.istore 6, 2) := by decide +kernel
theorem dL_isSet_171 : decode cL_isSet 171 = .ok (.iconst 0, 1) := by decide +kernel
theorem dL_isSet_172 : decode cL_isSet 172 = .ok (.istore 7, 2) := by decide +kernel
theorem dL_isSet_174 : decode cL_isSet 174 = .ok (.iload 7, 2) := by decide +kernel
theorem dL_isSet_176 : decode cL_isSet 176 = .ok (.aload_n 0, 1) := by decide +kernel
theorem dL_isSet_177 : decode cL_isSet 177 = .ok (.iload_n 1, 1) := by decide +kernel
theorem dL_isSet_178 : decode cL_isSet 178 = .ok (.invokevirtual 88, 3) := by decide +kernel
theorem dL_isSet_181 : decode cL_isSet 181 = .ok (.if_icmp .ge 69, 3) := by decide +kernel
theorem dL_isSet_184 : decode cL_isSet 184 = .ok (.iload 5, 2) := by decide +kernel
theorem dL_isSet_186 : decode cL_isSet 186 = .ok (.ifCond .eq 64, 3) := by decide +kernel
theorem dL_isSet_189 : decode cL_isSet 189 = .ok (.new 56, 3) := by decide +kernel
theorem dL_isSet_192 : decode cL_isSet 192 = .ok (.dup, 1) := by decide +kernel
theorem dL_isSet_193 : decode cL_isSet 193 = .ok (.invokespecial 58, 3) := by decide +kernel
theorem dL_isSet_196 : decode cL_isSet 196 = .ok (.aload 4, 2) := by decide +kernel
theorem dL_isSet_198 : decode cL_isSet 198 = .ok (.invokevirtual 59, 3) := by decide +kernel
theorem dL_isSet_201 : decode cL_isSet 201 = .ok (.aload_n 0, 1) := by decide +kernel
theorem dL_isSet_202 : decode cL_isSet 202 = .ok (.iload_n 1, 1) := by decide +kernel
theorem dL_isSet_203 : decode cL_isSet 203 = .ok (.iload 7, 2) := by decide +kernel
theorem dL_isSet_205 : decode cL_isSet 205 = .ok (.invokestatic 91, 3) := by decide +kernel
theorem dL_isSet_208 : decode cL_isSet 208 = .ok (.invokevirtual 59, 3) := by decide +kernel
theorem dL_isSet_211 : decode cL_isSet 211 = .ok (.invokevirtual 69, 3) := by decide +kernel
theorem dL_isSet_214 : decode cL_isSet 214 = .ok (.astore 4, 2) := by decide +kernel
theorem dL_isSet_216 : decode cL_isSet 216 = .ok (.aload_n 0, 1) := by decide +kernel
theorem dL_isSet_217 : decode cL_isSet 217 = .ok (.iload_n 1, 1) := by decide +kernel
theorem dL_isSet_218 : decode cL_isSet 218 = .ok (.iload 7, 2) := by decide +kernel
theorem dL_isSet_220 : decode cL_isSet 220 = .ok (.invokevirtual 94, 3) := by decide +kernel
theorem dL_isSet_223 : decode cL_isSet 223 = .ok (.iload 6, 2) := by decide +kernel
theorem dL_isSet_225 : decode cL_isSet 225 = .ok (.if_icmp .lt 7, 3) := by decide +kernel
theorem dL_isSet_228 : decode cL_isSet 228 = .ok (.iconst 1, 1) := by decide +kernel
theorem dL_isSet_229 : decode cL_isSet 229 = .ok (.goto 4, 3) := by decide +kernel
theorem dL_isSet_232 : decode cL_isSet 232 = .ok (.iconst 0, 1) := by decide +kernel
theorem dL_isSet_233 : decode cL_isSet 233 = .ok (.istore 5, 2) := by decide +kernel
theorem dL_isSet_235 : decode cL_isSet 235 = .ok (.aload_n 0, 1) := by decide +kernel
theorem dL_isSet_236 : decode cL_isSet 236 = .ok (.iload_n 1, 1) := by decide +kernel
theorem dL_isSet_237 : decode cL_isSet 237 = .ok (.iload 7, 2) := by decide +kernel
theorem dL_isSet_239 : decode cL_isSet 239 = .ok (.invokevirtual 94, 3) := by decide +kernel
theorem dL_isSet_242 : decode cL_isSet 242 = .ok (.istore 6, 2) := by decide +kernel
theorem dL_isSet_244 : decode cL_isSet 244 = .ok (.iinc 7 1, 3) := by decide +kernel
theorem dL_isSet_247 : decode cL_isSet 247 = .ok (.goto (-73), 3) := by decide +kernel
theorem dL_isSet_250 : decode cL_isSet 250 = .ok (.iload 5, 2) := by decide +kernel
theorem dL_isSet_252 : decode cL_isSet 252 = .ok (.ifCond .eq 16, 3) := by decide +kernel
theorem dL_isSet_255 : decode cL_isSet 255 = .ok (.aload_n 3, 1) := by decide +kernel
theorem dL_isSet_256 : decode cL_isSet 256 = .ok (.aload 4, 2) := by decide +kernel
theorem dL_isSet_258 : decode cL_isSet 258 = .ok (.invokestatic 97, 3) := by decide +kernel
theorem dL_isSet_261 : decode cL_isSet 261 = .ok (.ifCond .eq 7, 3) := by decide +kernel
theorem dL_isSet_264 : decode cL_isSet 264 = .ok (.iconst 1, 1) := by decide +kernel
theorem dL_isSet_265 : decode cL_isSet 265 = .ok (.goto 4, 3) := by decide +kernel
theorem dL_isSet_268 : decode cL_isSet 268 = .ok (.iconst 0, 1) := by decide +kernel
theorem dL_isSet_269 : decode cL_isSet 269 = .ok (.ireturn, 1) := by decide +kernel
theorem dL_acts_0 : decode cL_acts 0 = .ok (.iload_n 1, 1) := by decide +kernel
theorem dL_acts_1 : decode cL_acts 1 = .ok (.iconst 4, 1) := by decide +kernel
theorem dL_acts_2 : decode cL_acts 2 = .ok (.ishr, 1) := by decide +kernel
theorem dL_acts_3 : decode cL_acts 3 = .ok (.iconst 1, 1) := by decide +kernel
theorem dL_acts_4 : decode cL_acts 4 = .ok (.iload_n 2, 1) := by decide +kernel
theorem dL_acts_5 : decode cL_acts 5 = .ok (.invokestatic 110, 3) := by decide +kernel
theorem dL_acts_8 : decode cL_acts 8 = .ok (.invokestatic 15, 3) := by decide +kernel
theorem dL_acts_11 : decode cL_acts 11 = .ok (.istore 4, 2) := by decide +kernel
theorem dL_acts_13 : decode cL_acts 13 = .ok (.iload_n 1, 1) := by decide +kernel
theorem dL_acts_14 : decode cL_acts 14 = .ok (.bipush 14, 2) := by decide +kernel
theorem dL_acts_16 : decode cL_acts 16 = .ok (.invokestatic 15, 3) := by decide +kernel
theorem dL_acts_19 : decode cL_acts 19 = .ok (.tableswitch 304 0 11 #[61, 61, 125, 125, 170, 184, 210, 210, 258, 258, 258, 281], 61) := by decide +kernel
theorem dL_acts_80 : decode cL_acts 80 = .ok (.aload_n 0, 1) := by decide +kernel
theorem dL_acts_81 : decode cL_acts 81 = .ok (.iload_n 1, 1) := by decide +kernel
theorem dL_acts_82 : decode cL_acts 82 = .ok (.iconst 4, 1) := by decide +kernel
theorem dL_acts_83 : decode cL_acts 83 = .ok (.ishr, 1) := by decide +kernel
theorem dL_acts_84 : decode cL_acts 84 = .ok (.iconst 4, 1) := by decide +kernel
theorem dL_acts_85 : decode cL_acts 85 = .ok (.iconst 0, 1) := by decide +kernel
theorem dL_acts_86 : decode cL_acts 86 = .ok (.invokestatic 115, 3) := by decide +kernel
theorem dL_acts_89 : decode cL_acts 89 = .ok (.aload_n 0, 1) := by decide +kernel
theorem dL_acts_90 : decode cL_acts 90 = .ok (.iconst 1, 1) := by decide +kernel
theorem dL_acts_91 : decode cL_acts 91 = .ok (.iload_n 1, 1) := by decide +kernel
theorem dL_acts_92 : decode cL_acts 92 = .ok (.bipush 8, 2) := by decide +kernel
theorem dL_acts_94 : decode cL_acts 94 = .ok (.ishr, 1) := by decide +kernel
theorem dL_acts_95 : decode cL_acts 95 = .ok (.iconst 2, 1) := by decide +kernel
theorem dL_acts_96 : decode cL_acts 96 = .ok (.invokestatic 15, 3) := by decide +kernel
theorem dL_acts_99 : decode cL_acts 99 = .ok (.iadd, 1) := by decide +kernel
theorem dL_acts_100 : decode cL_acts 100 = .ok (.iconst 1, 1) := by decide +kernel
theorem dL_acts_101 : decode cL_acts 101 = .ok (.iload_n 1, 1) := by decide +kernel
theorem dL_acts_102 : decode cL_acts 102 = .ok (.bipush 9, 2) := by decide +kernel
theorem dL_acts_104 : decode cL_acts 104 = .ok (.ishr, 1) := by decide +kernel
theorem dL_acts_105 : decode cL_acts 105 = .ok (.bipush 63, 2) := by decide +kernel
theorem dL_acts_107 : decode cL_acts 107 = .ok (.invokestatic 15, 3) := by decide +kernel
theorem dL_acts_110 : decode cL_acts 110 = .ok (.iadd, 1) := by decide +kernel
theorem dL_acts_111 : decode cL_acts 111 = .ok (.iload_n 1, 1) := by decide +kernel
theorem dL_acts_112 : decode cL_acts 112 = .ok (.bipush 15, 2) := by decide +kernel
theorem dL_acts_114 : decode cL_acts 114 = .ok (.ishr, 1) := by decide +kernel
theorem dL_acts_115 : decode cL_acts 115 = .ok (.iconst 2, 1) := by decide +kernel
theorem dL_acts_116 : decode cL_acts 116 = .ok (.invokestatic 15, 3) := by decide +kernel
theorem dL_acts_119 : decode cL_acts 119 = .ok (.iconst 1, 1) := by decide +kernel
theorem dL_acts_120 : decode cL_acts 120 = .ok (.iload_n 1, 1) := by decide +kernel
theorem dL_acts_121 : decode cL_acts 121 = .ok (.bipush 16, 2) := by decide +kernel
theorem dL_acts_123 : decode cL_acts 123 = .ok (.ishr, 1) := by decide +kernel
theorem dL_acts_124 : decode cL_acts 124 = .ok (.bipush 63, 2) := by decide +kernel
theorem dL_acts_126 : decode cL_acts 126 = .ok (.invokestatic 15, 3) := by decide +kernel
theorem dL_acts_129 : decode cL_acts 129 = .ok (.iadd, 1) := by decide +kernel
theorem dL_acts_130 : decode cL_acts 130 = .ok (.imul, 1) := by decide +kernel
theorem dL_acts_131 : decode cL_acts 131 = .ok (.invokestatic 119, 3) := by decide +kernel
theorem dL_acts_134 : decode cL_acts 134 = .ok (.iconst (-1), 1) := by decide +kernel
theorem dL_acts_135 : decode cL_acts 135 = .ok (.if_icmp .lt 7, 3) := by decide +kernel
theorem dL_acts_138 : decode cL_acts 138 = .ok (.iconst 1, 1) := by decide +kernel
theorem dL_acts_139 : decode cL_acts 139 = .ok (.goto 4, 3) := by decide +kernel
theorem dL_acts_142 : decode cL_acts 142 = .ok (.iconst 0, 1) := by decide +kernel
theorem dL_acts_143 : decode cL_acts 143 = .ok (.ireturn, 1) := by decide +kernel
theorem dL_acts_144 : decode cL_acts 144 = .ok (.aload_n 0, 1) := by decide +kernel
theorem dL_acts_145 : decode cL_acts 145 = .ok (.iload_n 1, 1) := by decide +kernel
theorem dL_acts_146 : decode cL_acts 146 = .ok (.iconst 4, 1) := by decide +kernel
theorem dL_acts_147 : decode cL_acts 147 = .ok (.ishr, 1) := by decide +kernel
theorem dL_acts_148 : decode cL_acts 148 = .ok (.iconst 3, 1) := by decide +kernel
theorem dL_acts_149 : decode cL_acts 149 = .ok (.iconst 0, 1) := by decide +kernel
theorem dL_acts_150 : decode cL_acts 150 = .ok (.invokestatic 115, 3) := by decide +kernel
theorem dL_acts_153 : decode cL_acts 153 = .ok (.aload_n 0, 1) := by decide +kernel
theorem dL_acts_154 : decode cL_acts 154 = .ok (.iconst 1, 1) := by decide +kernel
theorem dL_acts_155 : decode cL_acts 155 = .ok (.iload_n 1, 1) := by decide +kernel
theorem dL_acts_156 : decode cL_acts 156 = .ok (.bipush 8, 2) := by decide +kernel
theorem dL_acts_158 : decode cL_acts 158 = .ok (.ishr, 1) := by decide +kernel
theorem dL_acts_159 : decode cL_acts 159 = .ok (.iconst 2, 1) := by decide +kernel
theorem dL_acts_160 : decode cL_acts 160 = .ok (.invokestatic 15, 3) := by decide +kernel
theorem dL_acts_163 : decode cL_acts 163 = .ok (.iadd, 1) := by decide +kernel
theorem dL_acts_164 : decode cL_acts 164 = .ok (.iconst 1, 1) := by decide +kernel
theorem dL_acts_165 : decode cL_acts 165 = .ok (.iload_n 1, 1) := by decide +kernel
theorem dL_acts_166 : decode cL_acts 166 = .ok (.bipush 9, 2) := by decide +kernel
theorem dL_acts_168 : decode cL_acts 168 = .ok (.ishr, 1) := by decide +kernel
theorem dL_acts_169 : decode cL_acts 169 = .ok (.bipush 63, 2) := by decide +kernel
theorem dL_acts_171 : decode cL_acts 171 = .ok (.invokestatic 15, 3) := by decide +kernel
theorem dL_acts_174 : decode cL_acts 174 = .ok (.iadd, 1) := by decide +kernel
theorem dL_acts_175 : decode cL_acts 175 = .ok (.iconst 0, 1) := by decide +kernel
theorem dL_acts_176 : decode cL_acts 176 = .ok (.invokestatic 123, 3) := by decide +kernel
theorem dL_acts_179 : decode cL_acts 179 = .ok (.iconst (-1), 1) := by decide +kernel
theorem dL_acts_180 : decode cL_acts 180 = .ok (.if_icmp .lt 7, 3) := by decide +kernel
theorem dL_acts_183 : decode cL_acts 183 = .ok (.iconst 1, 1) := by decide +kernel
theorem dL_acts_184 : decode cL_acts 184 = .ok (.goto 4, 3) := by decide +kernel
theorem dL_acts_187 : decode cL_acts 187 = .ok (.iconst 0, 1) := by decide +kernel
theorem dL_acts_188 : decode cL_acts 188 = .ok (.ireturn, 1) := by decide +kernel
theorem dL_acts_189 : decode cL_acts 189 = .ok (.aload_n 0, 1) := by decide +kernel
theorem dL_acts_190 : decode cL_acts 190 = .ok (.iload_n 1, 1) := by decide +kernel
theorem dL_acts_191 : decode cL_acts 191 = .ok (.iconst 4, 1) := by decide +kernel
theorem dL_acts_192 : decode cL_acts 192 = .ok (.ishr, 1) := by decide +kernel
theorem dL_acts_193 : decode cL_acts 193 = .ok (.iconst 4, 1) := by decide +kernel
theorem dL_acts_194 : decode cL_acts 194 = .ok (.iconst 0, 1) := by decide +kernel
theorem dL_acts_195 : decode cL_acts 195 = .ok (.invokestatic 115, 3) := by decide +kernel
theorem dL_acts_198 : decode cL_acts 198 = .ok (.aload_n 0, 1) := by decide +kernel
theorem dL_acts_199 : decode cL_acts 199 = .ok (.invokestatic 125, 3) := by decide +kernel
theorem dL_acts_202 : decode cL_acts 202 = .ok (.ireturn, 1) := by decide +kernel
theorem dL_acts_203 : decode cL_acts 203 = .ok (.aload_n 0, 1) := by decide +kernel
theorem dL_acts_204 : decode cL_acts 204 = .ok (.bipush 8, 2) := by decide +kernel
theorem dL_acts_206 : decode cL_acts 206 = .ok (.iload_n 1, 1) := by decide +kernel
theorem dL_acts_207 : decode cL_acts 207 = .ok (.iconst 4, 1) := by decide +kernel
theorem dL_acts_208 : decode cL_acts 208 = .ok (.ishr, 1) := by decide +kernel
theorem dL_acts_209 : decode cL_acts 209 = .ok (.bipush 33, 2) := by decide +kernel
theorem dL_acts_211 : decode cL_acts 211 = .ok (.invokestatic 15, 3) := by decide +kernel
theorem dL_acts_214 : decode cL_acts 214 = .ok (.iadd, 1) := by decide +kernel
theorem dL_acts_215 : decode cL_acts 215 = .ok (.invokevirtual 129, 3) := by decide +kernel
theorem dL_acts_218 : decode cL_acts 218 = .ok (.bipush 8, 2) := by decide +kernel
theorem dL_acts_220 : decode cL_acts 220 = .ok (.if_icmp .lt 7, 3) := by decide +kernel
theorem dL_acts_223 : decode cL_acts 223 = .ok (.iconst 1, 1) := by decide +kernel
theorem dL_acts_224 : decode cL_acts 224 = .ok (.goto 4, 3) := by decide +kernel
theorem dL_acts_227 : decode cL_acts 227 = .ok (.iconst 0, 1) := by decide +kernel
theorem dL_acts_228 : decode cL_acts 228 = .ok (.ireturn, 1) := by decide +kernel
theorem dL_acts_229 : decode cL_acts 229 = .ok (.iload_n 2, 1) := by decide +kernel
theorem dL_acts_230 : decode cL_acts 230 = .ok (.ifCond .ne 5, 3) := by decide +kernel
theorem dL_acts_233 : decode cL_acts 233 = .ok (.iconst 1, 1) := by decide +kernel
theorem dL_acts_234 : decode cL_acts 234 = .ok (.ireturn, 1) := by decide +kernel
theorem dL_acts_235 : decode cL_acts 235 = .ok (.aload_n 0, 1) := by decide +kernel
theorem dL_acts_236 : decode cL_acts 236 = .ok (.iload_n 1, 1) := by decide +kernel
theorem dL_acts_237 : decode cL_acts 237 = .ok (.bipush 7, 2) := by decide +kernel
theorem dL_acts_239 : decode cL_acts 239 = .ok (.ishr, 1) := by decide +kernel
theorem dL_acts_240 : decode cL_acts 240 = .ok (.bipush 40, 2) := by decide +kernel
theorem dL_acts_242 : decode cL_acts 242 = .ok (.iconst 1, 1) := by decide +kernel
theorem dL_acts_243 : decode cL_acts 243 = .ok (.invokestatic 115, 3) := by decide +kernel
theorem dL_acts_246 : decode cL_acts 246 = .ok (.aload_n 0, 1) := by decide +kernel
theorem dL_acts_247 : decode cL_acts 247 = .ok (.iload 4, 2) := by decide +kernel
theorem dL_acts_249 : decode cL_acts 249 = .ok (.iconst 1, 1) := by decide +kernel
theorem dL_acts_250 : decode cL_acts 250 = .ok (.iload_n 1, 1) := by decide +kernel
theorem dL_acts_251 : decode cL_acts 251 = .ok (.bipush 12, 2) := by decide +kernel
theorem dL_acts_253 : decode cL_acts 253 = .ok (.ishr, 1) := by decide +kernel
theorem dL_acts_254 : decode cL_acts 254 = .ok (.iconst 2, 1) := by decide +kernel
theorem dL_acts_255 : decode cL_acts 255 = .ok (.invokestatic 15, 3) := by decide +kernel
theorem dL_acts_258 : decode cL_acts 258 = .ok (.iadd, 1) := by decide +kernel
theorem dL_acts_259 : decode cL_acts 259 = .ok (.invokevirtual 132, 3) := by decide +kernel
theorem dL_acts_262 : decode cL_acts 262 = .ok (.aload_n 0, 1) := by decide +kernel
theorem dL_acts_263 : decode cL_acts 263 = .ok (.iload 4, 2) := by decide +kernel
theorem dL_acts_265 : decode cL_acts 265 = .ok (.invokevirtual 88, 3) := by decide +kernel
theorem dL_acts_268 : decode cL_acts 268 = .ok (.if_icmp .ne 7, 3) := by decide +kernel
theorem dL_acts_271 : decode cL_acts 271 = .ok (.iconst 1, 1) := by decide +kernel
theorem dL_acts_272 : decode cL_acts 272 = .ok (.goto 4, 3) := by decide +kernel
theorem dL_acts_275 : decode cL_acts 275 = .ok (.iconst 0, 1) := by decide +kernel
theorem dL_acts_276 : decode cL_acts 276 = .ok (.ireturn, 1) := by decide +kernel
theorem dL_acts_277 : decode cL_acts 277 = .ok (.iload_n 2, 1) := by decide +kernel
theorem dL_acts_278 : decode cL_acts 278 = .ok (.ifCond .eq 16, 3) := by decide +kernel
theorem dL_acts_281 : decode cL_acts 281 = .ok (.aload_n 0, 1) := by decide +kernel
theorem dL_acts_282 : decode cL_acts 282 = .ok (.iload 4, 2) := by decide +kernel
theorem dL_acts_284 : decode cL_acts 284 = .ok (.aload_n 3, 1) := by decide +kernel
theorem dL_acts_285 : decode cL_acts 285 = .ok (.iload 4, 2) := by decide +kernel
theorem dL_acts_287 : decode cL_acts 287 = .ok (.aaload, 1) := by decide +kernel
theorem dL_acts_288 : decode cL_acts 288 = .ok (.invokestatic 135, 3) := by decide +kernel
theorem dL_acts_291 : decode cL_acts 291 = .ok (.ifCond .eq 7, 3) := by decide +kernel
theorem dL_acts_294 : decode cL_acts 294 = .ok (.iconst 1, 1) := by decide +kernel
theorem dL_acts_295 : decode cL_acts 295 = .ok (.goto 4, 3) := by decide +kernel
theorem dL_acts_298 : decode cL_acts 298 = .ok (.iconst 0, 1) := by decide +kernel
theorem dL_acts_299 : decode cL_acts 299 = .ok (.ireturn, 1) := by decide +kernel
theorem dL_acts_300 : decode cL_acts 300 = .ok (.aload_n 0, 1) := by decide +kernel
theorem dL_acts_301 : decode cL_acts 301 = .ok (.iconst 1, 1) := by decide +kernel
theorem dL_acts_302 : decode cL_acts 302 = .ok (.iload_n 1, 1) := by decide +kernel
theorem dL_acts_303 : decode cL_acts 303 = .ok (.iconst 4, 1) := by decide +kernel
theorem dL_acts_304 : decode cL_acts 304 = .ok (.ishr, 1) := by decide +kernel
theorem dL_acts_305 : decode cL_acts 305 = .ok (.bipush 6, 2) := by decide +kernel
theorem dL_acts_307 : decode cL_acts 307 = .ok (.invokestatic 15, 3) := by decide +kernel
theorem dL_acts_310 : decode cL_acts 310 = .ok (.iadd, 1) := by decide +kernel
theorem dL_acts_311 : decode cL_acts 311 = .ok (.invokevirtual 139, 3) := by decide +kernel
theorem dL_acts_314 : decode cL_acts 314 = .ok (.ifCond .lt 7, 3) := by decide +kernel
theorem dL_acts_317 : decode cL_acts 317 = .ok (.iconst 1, 1) := by decide +kernel
theorem dL_acts_318 : decode cL_acts 318 = .ok (.goto 4, 3) := by decide +kernel
theorem dL_acts_321 : decode cL_acts 321 = .ok (.iconst 0, 1) := by decide +kernel
theorem dL_acts_322 : decode cL_acts 322 = .ok (.ireturn, 1) := by decide +kernel
theorem dL_acts_323 : decode cL_acts 323 = .ok (.iload_n 2, 1) := by decide +kernel
theorem dL_acts_324 : decode cL_acts 324 = .ok (.ifCond .eq 12, 3) := by decide +kernel
theorem dL_acts_327 : decode cL_acts 327 = .ok (.aload_n 0, 1) := by decide +kernel
theorem dL_acts_328 : decode cL_acts 328 = .ok (.iload 4, 2) := by decide +kernel
theorem dL_acts_330 : decode cL_acts 330 = .ok (.invokevirtual 88, 3) := by decide +kernel
theorem dL_acts_333 : decode cL_acts 333 = .ok (.ifCond .ne 5, 3) := by decide +kernel
theorem dL_acts_336 : decode cL_acts 336 = .ok (.iconst 1, 1) := by decide +kernel
theorem dL_acts_337 : decode cL_acts 337 = .ok (.ireturn, 1) := by decide +kernel
theorem dL_acts_338 : decode cL_acts 338 = .ok (.iload_n 1, 1) := by decide +kernel
theorem dL_acts_339 : decode cL_acts 339 = .ok (.bipush 7, 2) := by decide +kernel
theorem dL_acts_341 : decode cL_acts 341 = .ok (.ishr, 1) := by decide +kernel
theorem dL_acts_342 : decode cL_acts 342 = .ok (.aload_n 0, 1) := by decide +kernel
theorem dL_acts_343 : decode cL_acts 343 = .ok (.iload 4, 2) := by decide +kernel
theorem dL_acts_345 : decode cL_acts 345 = .ok (.invokevirtual 88, 3) := by decide +kernel
theorem dL_acts_348 : decode cL_acts 348 = .ok (.invokestatic 15, 3) := by decide +kernel
theorem dL_acts_351 : decode cL_acts 351 = .ok (.istore 5, 2) := by decide +kernel
theorem dL_acts_353 : decode cL_acts 353 = .ok (.iload_n 1, 1) := by decide +kernel
theorem dL_acts_354 : decode cL_acts 354 = .ok (.bipush 12, 2) := by decide +kernel
theorem dL_acts_356 : decode cL_acts 356 = .ok (.ishr, 1) := by decide +kernel
theorem dL_acts_357 : decode cL_acts 357 = .ok (.iconst 2, 1) := by decide +kernel
theorem dL_acts_358 : decode cL_acts 358 = .ok (.invokestatic 15, 3) := by decide +kernel
theorem dL_acts_361 : decode cL_acts 361 = .ok (.istore 6, 2) := by decide +kernel
theorem dL_acts_363 : decode cL_acts 363 = .ok (.iload_n 1, 1) := by decide +kernel
theorem dL_acts_364 : decode cL_acts 364 = .ok (.bipush 13, 2) := by decide +kernel
theorem dL_acts_366 : decode cL_acts 366 = .ok (.ishr, 1) := by decide +kernel
theorem dL_acts_367 : decode cL_acts 367 = .ok (.iconst 3, 1) := by decide +kernel
theorem dL_acts_368 : decode cL_acts 368 = .ok (.invokestatic 15, 3) := by decide +kernel
theorem dL_acts_371 : decode cL_acts 371 = .ok (.ifCond .le 7, 3) := by decide +kernel
theorem dL_acts_374 : decode cL_acts 374 = .ok (.iconst 1, 1) := by decide +kernel
theorem dL_acts_375 : decode cL_acts 375 = .ok (.goto 4, 3) := by decide +kernel
theorem dL_acts_378 : decode cL_acts 378 = .ok (.iconst 0, 1) := by decide +kernel
theorem dL_acts_379 : decode cL_acts 379 = .ok (.istore 7, 2) := by decide +kernel
theorem dL_acts_381 : decode cL_acts 381 = .ok (.aload_n 0, 1) := by decide +kernel
theorem dL_acts_382 : decode cL_acts 382 = .ok (.iconst 1, 1) := by decide +kernel
theorem dL_acts_383 : decode cL_acts 383 = .ok (.iload 6, 2) := by decide +kernel
theorem dL_acts_385 : decode cL_acts 385 = .ok (.isub, 1) := by decide +kernel
theorem dL_acts_386 : decode cL_acts 386 = .ok (.iload 4, 2) := by decide +kernel
theorem dL_acts_388 : decode cL_acts 388 = .ok (.iload 5, 2) := by decide +kernel
theorem dL_acts_390 : decode cL_acts 390 = .ok (.invokevirtual 142, 3) := by decide +kernel
theorem dL_acts_393 : decode cL_acts 393 = .ok (.istore 8, 2) := by decide +kernel
theorem dL_acts_395 : decode cL_acts 395 = .ok (.aload_n 0, 1) := by decide +kernel
theorem dL_acts_396 : decode cL_acts 396 = .ok (.iload 6, 2) := by decide +kernel
theorem dL_acts_398 : decode cL_acts 398 = .ok (.iload 4, 2) := by decide +kernel
theorem dL_acts_400 : decode cL_acts 400 = .ok (.iload 5, 2) := by decide +kernel
theorem dL_acts_402 : decode cL_acts 402 = .ok (.iload 7, 2) := by decide +kernel
theorem dL_acts_404 : decode cL_acts 404 = .ok (.invokevirtual 146, 3) := by decide +kernel
theorem dL_acts_407 : decode cL_acts 407 = .ok (.iload 8, 2) := by decide +kernel
theorem dL_acts_409 : decode cL_acts 409 = .ok (.iload 7, 2) := by decide +kernel
theorem dL_acts_411 : decode cL_acts 411 = .ok (.ifCond .eq 8, 3) := by decide +kernel
theorem dL_acts_414 : decode cL_acts 414 = .ok (.bipush 114, 2) := by decide +kernel
theorem dL_acts_416 : decode cL_acts 416 = .ok (.goto 5, 3) := by decide +kernel
theorem dL_acts_419 : decode cL_acts 419 = .ok (.bipush 119, 2) := by decide +kernel
theorem dL_acts_421 : decode cL_acts 421 = .ok (.if_icmp .ne 7, 3) := by decide +kernel
theorem dL_acts_424 : decode cL_acts 424 = .ok (.iconst 1, 1) := by decide +kernel
theorem dL_acts_425 : decode cL_acts 425 = .ok (.goto 4, 3) := by decide +kernel
theorem dL_acts_428 : decode cL_acts 428 = .ok (.iconst 0, 1) := by decide +kernel
theorem dL_acts_429 : decode cL_acts 429 = .ok (.if_icmp .ne 32, 3) := by decide +kernel
theorem dL_acts_432 : decode cL_acts 432 = .ok (.aload_n 0, 1) := by decide +kernel
theorem dL_acts_433 : decode cL_acts 433 = .ok (.iload 6, 2) := by decide +kernel
theorem dL_acts_435 : decode cL_acts 435 = .ok (.iload 4, 2) := by decide +kernel
theorem dL_acts_437 : decode cL_acts 437 = .ok (.iload 5, 2) := by decide +kernel
theorem dL_acts_439 : decode cL_acts 439 = .ok (.invokevirtual 142, 3) := by decide +kernel
theorem dL_acts_442 : decode cL_acts 442 = .ok (.iload 7, 2) := by decide +kernel
theorem dL_acts_444 : decode cL_acts 444 = .ok (.ifCond .eq 8, 3) := by decide +kernel
theorem dL_acts_447 : decode cL_acts 447 = .ok (.bipush 114, 2) := by decide +kernel
theorem dL_acts_449 : decode cL_acts 449 = .ok (.goto 5, 3) := by decide +kernel
theorem dL_acts_452 : decode cL_acts 452 = .ok (.bipush 119, 2) := by decide +kernel
theorem dL_acts_454 : decode cL_acts 454 = .ok (.if_icmp .ne 7, 3) := by decide +kernel
theorem dL_acts_457 : decode cL_acts 457 = .ok (.iconst 1, 1) := by decide +kernel
theorem dL_acts_458 : decode cL_acts 458 = .ok (.goto 4, 3) := by decide +kernel
theorem dL_acts_461 : decode cL_acts 461 = .ok (.iconst 0, 1) := by decide +kernel
theorem dL_acts_462 : decode cL_acts 462 = .ok (.ireturn, 1) := by decide +kernel
theorem dL_law_0 : decode cL_law 0 = .ok (.new 10, 3) := by decide +kernel
theorem dL_law_3 : decode cL_law 3 = .ok (.dup, 1) := by decide +kernel
theorem dL_law_4 : decode cL_law 4 = .ok (.invokespecial 150, 3) := by decide +kernel
theorem dL_law_7 : decode cL_law 7 = .ok (.astore_n 1, 1) := by decide +kernel
theorem dL_law_8 : decode cL_law 8 = .ok (.bipush 6, 2) := by decide +kernel
theorem dL_law_10 : decode cL_law 10 = .ok (.bipush 100, 2) := by decide +kernel
theorem dL_law_12 : decode cL_law 12 = .ok (.multianewarray 151 2, 4) := by decide +kernel
theorem dL_law_16 : decode cL_law 16 = .ok (.astore_n 2, 1) := by decide +kernel
theorem dL_law_17 : decode cL_law 17 = .ok (.iconst 0, 1) := by decide +kernel
theorem dL_law_18 : decode cL_law 18 = .ok (.istore_n 3, 1) := by decide +kernel
theorem dL_law_19 : decode cL_law 19 = .ok (.iconst 1, 1) := by decide +kernel
theorem dL_law_20 : decode cL_law 20 = .ok (.istore 4, 2) := by decide +kernel
theorem dL_law_22 : decode cL_law 22 = .ok (.aload_n 1, 1) := by decide +kernel
theorem dL_law_23 : decode cL_law 23 = .ok (.aload_n 0, 1) := by decide +kernel
theorem dL_law_24 : decode cL_law 24 = .ok (.iconst 0, 1) := by decide +kernel
theorem dL_law_25 : decode cL_law 25 = .ok (.invokestatic 153, 3) := by decide +kernel
theorem dL_law_28 : decode cL_law 28 = .ok (.iconst 3, 1) := by decide +kernel
theorem dL_law_29 : decode cL_law 29 = .ok (.invokestatic 15, 3) := by decide +kernel
theorem dL_law_32 : decode cL_law 32 = .ok (.ifCond .ne 22, 3) := by decide +kernel
theorem dL_law_35 : decode cL_law 35 = .ok (.bipush 10, 2) := by decide +kernel
theorem dL_law_37 : decode cL_law 37 = .ok (.aload_n 0, 1) := by decide +kernel
theorem dL_law_38 : decode cL_law 38 = .ok (.iconst 0, 1) := by decide +kernel
theorem dL_law_39 : decode cL_law 39 = .ok (.invokestatic 153, 3) := by decide +kernel
theorem dL_law_42 : decode cL_law 42 = .ok (.iconst 2, 1) := by decide +kernel
theorem dL_law_43 : decode cL_law 43 = .ok (.ishr, 1) := by decide +kernel
theorem dL_law_44 : decode cL_law 44 = .ok (.sipush 200, 3) := by decide +kernel
theorem dL_law_47 : decode cL_law 47 = .ok (.invokestatic 15, 3) := by decide +kernel
theorem dL_law_50 : decode cL_law 50 = .ok (.iadd, 1) := by decide +kernel
theorem dL_law_51 : decode cL_law 51 = .ok (.goto 6, 3) := by decide +kernel
theorem dL_law_54 : decode cL_law 54 = .ok (.sipush 9999, 3) := by decide +kernel
theorem dL_law_57 : decode cL_law 57 = .ok (.invokevirtual 157, 3) := by decide +kernel
theorem dL_law_60 : decode cL_law 60 = .ok (.istore 5, 2) := by decide +kernel
theorem dL_law_62 : decode cL_law 62 = .ok (.iconst 0, 1) := by decide +kernel
theorem dL_law_63 : decode cL_law 63 = .ok (.istore 6, 2) := by decide +kernel
theorem dL_law_65 : decode cL_law 65 = .ok (.iload 6, 2) := by decide +kernel
theorem dL_law_67 : decode cL_law 67 = .ok (.bipush 40, 2) := by decide +kernel
theorem dL_law_69 : decode cL_law 69 = .ok (.if_icmp .ge 407, 3) := by decide +kernel
theorem dL_law_72 : decode cL_law 72 = .ok (.iload 4, 2) := by decide +kernel
theorem dL_law_74 : decode cL_law 74 = .ok (.ifCond .eq 402, 3) := by decide +kernel
theorem dL_law_77 : decode cL_law 77 = .ok (.aload_n 0, 1) := by decide +kernel
theorem dL_law_78 : decode cL_law 78 = .ok (.iconst 1, 1) := by decide +kernel
theorem dL_law_79 : decode cL_law 79 = .ok (.iload 6, 2) := by decide +kernel
theorem dL_law_81 : decode cL_law 81 = .ok (.iadd, 1) := by decide +kernel
theorem dL_law_82 : decode cL_law 82 = .ok (.invokestatic 153, 3) := by decide +kernel
theorem dL_law_85 : decode cL_law 85 = .ok (.istore 7, 2) := by decide +kernel
theorem dL_law_87 : decode cL_law 87 = .ok (.iload_n 3, 1) := by decide +kernel
theorem dL_law_88 : decode cL_law 88 = .ok (.bipush 6, 2) := by decide +kernel
theorem dL_law_90 : decode cL_law 90 = .ok (.if_icmp .ge 64, 3) := by decide +kernel
theorem dL_law_93 : decode cL_law 93 = .ok (.iload 7, 2) := by decide +kernel
theorem dL_law_95 : decode cL_law 95 = .ok (.bipush 18, 2) := by decide +kernel
theorem dL_law_97 : decode cL_law 97 = .ok (.ishr, 1) := by decide +kernel
theorem dL_law_98 : decode cL_law 98 = .ok (.bipush 6, 2) := by decide +kernel
theorem dL_law_100 : decode cL_law 100 = .ok (.invokestatic 15, 3) := by decide +kernel
theorem dL_law_103 : decode cL_law 103 = .ok (.ifCond .ne 51, 3) := by decide +kernel
theorem dL_law_106 : decode cL_law 106 = .ok (.aload_n 1, 1) := by decide +kernel
theorem dL_law_107 : decode cL_law 107 = .ok (.iload 7, 2) := by decide +kernel
theorem dL_law_109 : decode cL_law 109 = .ok (.iconst 3, 1) := by decide +kernel
theorem dL_law_110 : decode cL_law 110 = .ok (.ishr, 1) := by decide +kernel
theorem dL_law_111 : decode cL_law 111 = .ok (.bipush 60, 2) := by decide +kernel
theorem dL_law_113 : decode cL_law 113 = .ok (.iconst 1, 1) := by decide +kernel
theorem dL_law_114 : decode cL_law 114 = .ok (.invokestatic 115, 3) := by decide +kernel
theorem dL_law_117 : decode cL_law 117 = .ok (.aload_n 1, 1) := by decide +kernel
theorem dL_law_118 : decode cL_law 118 = .ok (.iload_n 3, 1) := by decide +kernel
theorem dL_law_119 : decode cL_law 119 = .ok (.iconst 1, 1) := by decide +kernel
theorem dL_law_120 : decode cL_law 120 = .ok (.iload 7, 2) := by decide +kernel
theorem dL_law_122 : decode cL_law 122 = .ok (.bipush 9, 2) := by decide +kernel
theorem dL_law_124 : decode cL_law 124 = .ok (.ishr, 1) := by decide +kernel
theorem dL_law_125 : decode cL_law 125 = .ok (.iconst 2, 1) := by decide +kernel
theorem dL_law_126 : decode cL_law 126 = .ok (.invokestatic 15, 3) := by decide +kernel
theorem dL_law_129 : decode cL_law 129 = .ok (.iadd, 1) := by decide +kernel
theorem dL_law_130 : decode cL_law 130 = .ok (.invokevirtual 132, 3) := by decide +kernel
theorem dL_law_133 : decode cL_law 133 = .ok (.aload_n 1, 1) := by decide +kernel
theorem dL_law_134 : decode cL_law 134 = .ok (.iload_n 3, 1) := by decide +kernel
theorem dL_law_135 : decode cL_law 135 = .ok (.invokevirtual 88, 3) := by decide +kernel
theorem dL_law_138 : decode cL_law 138 = .ok (.if_icmp .ne 7, 3) := by decide +kernel
theorem dL_law_141 : decode cL_law 141 = .ok (.iconst 1, 1) := by decide +kernel
theorem dL_law_142 : decode cL_law 142 = .ok (.goto 4, 3) := by decide +kernel
theorem dL_law_145 : decode cL_law 145 = .ok (.iconst 0, 1) := by decide +kernel
theorem dL_law_146 : decode cL_law 146 = .ok (.istore 4, 2) := by decide +kernel
theorem dL_law_148 : decode cL_law 148 = .ok (.iinc 3 1, 3) := by decide +kernel
theorem dL_law_151 : decode cL_law 151 = .ok (.goto 319, 3) := by decide +kernel
theorem dL_law_154 : decode cL_law 154 = .ok (.iload_n 3, 1) := by decide +kernel
theorem dL_law_155 : decode cL_law 155 = .ok (.bipush 40, 2) := by decide +kernel
theorem dL_law_157 : decode cL_law 157 = .ok (.imul, 1) := by decide +kernel
theorem dL_law_158 : decode cL_law 158 = .ok (.anewarray 24, 3) := by decide +kernel
theorem dL_law_161 : decode cL_law 161 = .ok (.astore 8, 2) := by decide +kernel
theorem dL_law_163 : decode cL_law 163 = .ok (.iload_n 3, 1) := by decide +kernel
theorem dL_law_164 : decode cL_law 164 = .ok (.bipush 80, 2) := by decide +kernel
theorem dL_law_166 : decode cL_law 166 = .ok (.imul, 1) := by decide +kernel
theorem dL_law_167 : decode cL_law 167 = .ok (.newarray .char, 2) := by decide +kernel
theorem dL_law_169 : decode cL_law 169 = .ok (.astore 9, 2) := by decide +kernel
theorem dL_law_171 : decode cL_law 171 = .ok (.bipush 6, 2) := by decide +kernel
theorem dL_law_173 : decode cL_law 173 = .ok (.newarray .int, 2) := by decide +kernel
theorem dL_law_175 : decode cL_law 175 = .ok (.astore 10, 2) := by decide +kernel
theorem dL_law_177 : decode cL_law 177 = .ok (.iconst 0, 1) := by decide +kernel
theorem dL_law_178 : decode cL_law 178 = .ok (.istore 11, 2) := by decide +kernel
theorem dL_law_180 : decode cL_law 180 = .ok (.iload 11, 2) := by decide +kernel
theorem dL_law_182 : decode cL_law 182 = .ok (.iload_n 3, 1) := by decide +kernel
theorem dL_law_183 : decode cL_law 183 = .ok (.if_icmp .ge 104, 3) := by decide +kernel
theorem dL_law_186 : decode cL_law 186 = .ok (.aload 10, 2) := by decide +kernel
theorem dL_law_188 : decode cL_law 188 = .ok (.iload 11, 2) := by decide +kernel
theorem dL_law_190 : decode cL_law 190 = .ok (.aload_n 1, 1) := by decide +kernel
theorem dL_law_191 : decode cL_law 191 = .ok (.iload 11, 2) := by decide +kernel
theorem dL_law_193 : decode cL_law 193 = .ok (.invokevirtual 88, 3) := by decide +kernel
theorem dL_law_196 : decode cL_law 196 = .ok (.iastore, 1) := by decide +kernel
theorem dL_law_197 : decode cL_law 197 = .ok (.iconst 0, 1) := by decide +kernel
theorem dL_law_198 : decode cL_law 198 = .ok (.istore 12, 2) := by decide +kernel
theorem dL_law_200 : decode cL_law 200 = .ok (.iload 12, 2) := by decide +kernel
theorem dL_law_202 : decode cL_law 202 = .ok (.aload 10, 2) := by decide +kernel
theorem dL_law_204 : decode cL_law 204 = .ok (.iload 11, 2) := by decide +kernel
theorem dL_law_206 : decode cL_law 206 = .ok (.iaload, 1) := by decide +kernel
theorem dL_law_207 : decode cL_law 207 = .ok (.if_icmp .ge 74, 3) := by decide +kernel
theorem dL_law_210 : decode cL_law 210 = .ok (.aload 8, 2) := by decide +kernel
theorem dL_law_212 : decode cL_law 212 = .ok (.bipush 40, 2) := by decide +kernel
theorem dL_law_214 : decode cL_law 214 = .ok (.iload 11, 2) := by decide +kernel
theorem dL_law_216 : decode cL_law 216 = .ok (.imul, 1) := by decide +kernel
theorem dL_law_217 : decode cL_law 217 = .ok (.iload 12, 2) := by decide +kernel
theorem dL_law_219 : decode cL_law 219 = .ok (.iadd, 1) := by decide +kernel
theorem dL_law_220 : decode cL_law 220 = .ok (.aload_n 1, 1) := by decide +kernel
theorem dL_law_221 : decode cL_law 221 = .ok (.iload 11, 2) := by decide +kernel
theorem dL_law_223 : decode cL_law 223 = .ok (.iload 12, 2) := by decide +kernel
theorem dL_law_225 : decode cL_law 225 = .ok (.invokestatic 91, 3) := by decide +kernel
theorem dL_law_228 : decode cL_law 228 = .ok (.aastore, 1) := by decide +kernel
theorem dL_law_229 : decode cL_law 229 = .ok (.aload 9, 2) := by decide +kernel
theorem dL_law_231 : decode cL_law 231 = .ok (.bipush 80, 2) := by decide +kernel
theorem dL_law_233 : decode cL_law 233 = .ok (.iload 11, 2) := by decide +kernel
theorem dL_law_235 : decode cL_law 235 = .ok (.imul, 1) := by decide +kernel
theorem dL_law_236 : decode cL_law 236 = .ok (.iconst 2, 1) := by decide +kernel
theorem dL_law_237 : decode cL_law 237 = .ok (.iload 12, 2) := by decide +kernel
theorem dL_law_239 : decode cL_law 239 = .ok (.imul, 1) := by decide +kernel
theorem dL_law_240 : decode cL_law 240 = .ok (.iadd, 1) := by decide +kernel
theorem dL_law_241 : decode cL_law 241 = .ok (.aload_n 1, 1) := by decide +kernel
theorem dL_law_242 : decode cL_law 242 = .ok (.iconst 0, 1) := by decide +kernel
theorem dL_law_243 : decode cL_law 243 = .ok (.iload 11, 2) := by decide +kernel
theorem dL_law_245 : decode cL_law 245 = .ok (.iload 12, 2) := by decide +kernel
theorem dL_law_247 : decode cL_law 247 = .ok (.invokevirtual 142, 3) := by decide +kernel
theorem dL_law_250 : decode cL_law 250 = .ok (.castore, 1) := by decide +kernel
theorem dL_law_251 : decode cL_law 251 = .ok (.aload 9, 2) := by decide +kernel
theorem dL_law_253 : decode cL_law 253 = .ok (.bipush 80, 2) := by decide +kernel
theorem dL_law_255 : decode cL_law 255 = .ok (.iload 11, 2) := by decide +kernel
theorem dL_law_257 : decode cL_law 257 = .ok (.imul, 1) := by decide +kernel
theorem dL_law_258 : decode cL_law 258 = .ok (.iconst 2, 1) := by decide +kernel
theorem dL_law_259 : decode cL_law 259 = .ok (.iload 12, 2) := by decide +kernel
theorem dL_law_261 : decode cL_law 261 = .ok (.imul, 1) := by decide +kernel
theorem dL_law_262 : decode cL_law 262 = .ok (.iadd, 1) := by decide +kernel
theorem dL_law_263 : decode cL_law 263 = .ok (.iconst 1, 1) := by decide +kernel
theorem dL_law_264 : decode cL_law 264 = .ok (.iadd, 1) := by decide +kernel
theorem dL_law_265 : decode cL_law 265 = .ok (.aload_n 1, 1) := by decide +kernel
theorem dL_law_266 : decode cL_law 266 = .ok (.iconst 1, 1) := by decide +kernel
theorem dL_law_267 : decode cL_law 267 = .ok (.iload 11, 2) := by decide +kernel
theorem dL_law_269 : decode cL_law 269 = .ok (.iload 12, 2) := by decide +kernel
theorem dL_law_271 : decode cL_law 271 = .ok (.invokevirtual 142, 3) := by decide +kernel
theorem dL_law_274 : decode cL_law 274 = .ok (.castore, 1) := by decide +kernel
theorem dL_law_275 : decode cL_law 275 = .ok (.iinc 12 1, 3) := by decide +kernel
theorem dL_law_278 : decode cL_law 278 = .ok (.goto (-78), 3) := by decide +kernel
theorem dL_law_281 : decode cL_law 281 = .ok (.iinc 11 1, 3) := by decide +kernel
theorem dL_law_284 : decode cL_law 284 = .ok (.goto (-104), 3) := by decide +kernel
theorem dL_law_287 : decode cL_law 287 = .ok (.aload_n 1, 1) := by decide +kernel
theorem dL_law_288 : decode cL_law 288 = .ok (.iload 7, 2) := by decide +kernel
theorem dL_law_290 : decode cL_law 290 = .ok (.iload_n 3, 1) := by decide +kernel
theorem dL_law_291 : decode cL_law 291 = .ok (.aload_n 2, 1) := by decide +kernel
theorem dL_law_292 : decode cL_law 292 = .ok (.invokestatic 160, 3) := by decide +kernel
theorem dL_law_295 : decode cL_law 295 = .ok (.istore 4, 2) := by decide +kernel
theorem dL_law_297 : decode cL_law 297 = .ok (.iload 7, 2) := by decide +kernel
theorem dL_law_299 : decode cL_law 299 = .ok (.bipush 14, 2) := by decide +kernel
theorem dL_law_301 : decode cL_law 301 = .ok (.invokestatic 15, 3) := by decide +kernel
theorem dL_law_304 : decode cL_law 304 = .ok (.istore 11, 2) := by decide +kernel
theorem dL_law_306 : decode cL_law 306 = .ok (.iconst 0, 1) := by decide +kernel
theorem dL_law_307 : decode cL_law 307 = .ok (.istore 12, 2) := by decide +kernel
theorem dL_law_309 : decode cL_law 309 = .ok (.iload 12, 2) := by decide +kernel
theorem dL_law_311 : decode cL_law 311 = .ok (.iload_n 3, 1) := by decide +kernel
theorem dL_law_312 : decode cL_law 312 = .ok (.if_icmp .ge 158, 3) := by decide +kernel
theorem dL_law_315 : decode cL_law 315 = .ok (.iload 4, 2) := by decide +kernel
theorem dL_law_317 : decode cL_law 317 = .ok (.ifCond .eq 153, 3) := by decide +kernel
theorem dL_law_320 : decode cL_law 320 = .ok (.aload_n 1, 1) := by decide +kernel
theorem dL_law_321 : decode cL_law 321 = .ok (.iload 12, 2) := by decide +kernel
theorem dL_law_323 : decode cL_law 323 = .ok (.bipush 40, 2) := by decide +kernel
theorem dL_law_325 : decode cL_law 325 = .ok (.invokestatic 164, 3) := by decide +kernel
theorem dL_law_328 : decode cL_law 328 = .ok (.istore 4, 2) := by decide +kernel
theorem dL_law_330 : decode cL_law 330 = .ok (.iconst 0, 1) := by decide +kernel
theorem dL_law_331 : decode cL_law 331 = .ok (.istore 13, 2) := by decide +kernel
theorem dL_law_333 : decode cL_law 333 = .ok (.iload 13, 2) := by decide +kernel
theorem dL_law_335 : decode cL_law 335 = .ok (.aload 10, 2) := by decide +kernel
theorem dL_law_337 : decode cL_law 337 = .ok (.iload 12, 2) := by decide +kernel
theorem dL_law_339 : decode cL_law 339 = .ok (.iaload, 1) := by decide +kernel
theorem dL_law_340 : decode cL_law 340 = .ok (.if_icmp .ge 124, 3) := by decide +kernel
theorem dL_law_343 : decode cL_law 343 = .ok (.iload 4, 2) := by decide +kernel
theorem dL_law_345 : decode cL_law 345 = .ok (.ifCond .eq 119, 3) := by decide +kernel
theorem dL_law_348 : decode cL_law 348 = .ok (.iload 11, 2) := by decide +kernel
theorem dL_law_350 : decode cL_law 350 = .ok (.bipush 6, 2) := by decide +kernel
theorem dL_law_352 : decode cL_law 352 = .ok (.if_icmp .ge 112, 3) := by decide +kernel
theorem dL_law_355 : decode cL_law 355 = .ok (.aload 8, 2) := by decide +kernel
theorem dL_law_357 : decode cL_law 357 = .ok (.bipush 40, 2) := by decide +kernel
theorem dL_law_359 : decode cL_law 359 = .ok (.iload 12, 2) := by decide +kernel
theorem dL_law_361 : decode cL_law 361 = .ok (.imul, 1) := by decide +kernel
theorem dL_law_362 : decode cL_law 362 = .ok (.iload 13, 2) := by decide +kernel
theorem dL_law_364 : decode cL_law 364 = .ok (.iadd, 1) := by decide +kernel
theorem dL_law_365 : decode cL_law 365 = .ok (.aaload, 1) := by decide +kernel
theorem dL_law_366 : decode cL_law 366 = .ok (.aload_n 1, 1) := by decide +kernel
theorem dL_law_367 : decode cL_law 367 = .ok (.iload 12, 2) := by decide +kernel
theorem dL_law_369 : decode cL_law 369 = .ok (.iload 13, 2) := by decide +kernel
theorem dL_law_371 : decode cL_law 371 = .ok (.invokestatic 91, 3) := by decide +kernel
theorem dL_law_374 : decode cL_law 374 = .ok (.invokestatic 97, 3) := by decide +kernel
theorem dL_law_377 : decode cL_law 377 = .ok (.istore 14, 2) := by decide +kernel
theorem dL_law_379 : decode cL_law 379 = .ok (.aload_n 1, 1) := by decide +kernel
theorem dL_law_380 : decode cL_law 380 = .ok (.iconst 0, 1) := by decide +kernel
theorem dL_law_381 : decode cL_law 381 = .ok (.iload 12, 2) := by decide +kernel
theorem dL_law_383 : decode cL_law 383 = .ok (.iload 13, 2) := by decide +kernel
theorem dL_law_385 : decode cL_law 385 = .ok (.invokevirtual 142, 3) := by decide +kernel
theorem dL_law_388 : decode cL_law 388 = .ok (.iload 14, 2) := by decide +kernel
theorem dL_law_390 : decode cL_law 390 = .ok (.ifCond .eq 19, 3) := by decide +kernel
theorem dL_law_393 : decode cL_law 393 = .ok (.aload 9, 2) := by decide +kernel
theorem dL_law_395 : decode cL_law 395 = .ok (.bipush 80, 2) := by decide +kernel
theorem dL_law_397 : decode cL_law 397 = .ok (.iload 12, 2) := by decide +kernel
theorem dL_law_399 : decode cL_law 399 = .ok (.imul, 1) := by decide +kernel
theorem dL_law_400 : decode cL_law 400 = .ok (.iconst 2, 1) := by decide +kernel
theorem dL_law_401 : decode cL_law 401 = .ok (.iload 13, 2) := by decide +kernel
theorem dL_law_403 : decode cL_law 403 = .ok (.imul, 1) := by decide +kernel
theorem dL_law_404 : decode cL_law 404 = .ok (.iadd, 1) := by decide +kernel
theorem dL_law_405 : decode cL_law 405 = .ok (.caload, 1) := by decide +kernel
theorem dL_law_406 : decode cL_law 406 = .ok (.goto 5, 3) := by decide +kernel
theorem dL_law_409 : decode cL_law 409 = .ok (.bipush 45, 2) := by decide +kernel
theorem dL_law_411 : decode cL_law 411 = .ok (.if_icmp .ne 44, 3) := by decide +kernel
theorem dL_law_414 : decode cL_law 414 = .ok (.aload_n 1, 1) := by decide +kernel
theorem dL_law_415 : decode cL_law 415 = .ok (.iconst 1, 1) := by decide +kernel
theorem dL_law_416 : decode cL_law 416 = .ok (.iload 12, 2) := by decide +kernel
theorem dL_law_418 : decode cL_law 418 = .ok (.iload 13, 2) := by decide +kernel
theorem dL_law_420 : decode cL_law 420 = .ok (.invokevirtual 142, 3) := by decide +kernel
theorem dL_law_423 : decode cL_law 423 = .ok (.iload 14, 2) := by decide +kernel
theorem dL_law_425 : decode cL_law 425 = .ok (.ifCond .eq 21, 3) := by decide +kernel
theorem dL_law_428 : decode cL_law 428 = .ok (.aload 9, 2) := by decide +kernel
theorem dL_law_430 : decode cL_law 430 = .ok (.bipush 80, 2) := by decide +kernel
theorem dL_law_432 : decode cL_law 432 = .ok (.iload 12, 2) := by decide +kernel
theorem dL_law_434 : decode cL_law 434 = .ok (.imul, 1) := by decide +kernel
theorem dL_law_435 : decode cL_law 435 = .ok (.iconst 2, 1) := by decide +kernel
theorem dL_law_436 : decode cL_law 436 = .ok (.iload 13, 2) := by decide +kernel
theorem dL_law_438 : decode cL_law 438 = .ok (.imul, 1) := by decide +kernel
theorem dL_law_439 : decode cL_law 439 = .ok (.iadd, 1) := by decide +kernel
theorem dL_law_440 : decode cL_law 440 = .ok (.iconst 1, 1) := by decide +kernel
theorem dL_law_441 : decode cL_law 441 = .ok (.iadd, 1) := by decide +kernel
theorem dL_law_442 : decode cL_law 442 = .ok (.caload, 1) := by decide +kernel
theorem dL_law_443 : decode cL_law 443 = .ok (.goto 5, 3) := by decide +kernel
theorem dL_law_446 : decode cL_law 446 = .ok (.bipush 45, 2) := by decide +kernel
theorem dL_law_448 : decode cL_law 448 = .ok (.if_icmp .ne 7, 3) := by decide +kernel
theorem dL_law_451 : decode cL_law 451 = .ok (.iconst 1, 1) := by decide +kernel
theorem dL_law_452 : decode cL_law 452 = .ok (.goto 4, 3) := by decide +kernel
theorem dL_law_455 : decode cL_law 455 = .ok (.iconst 0, 1) := by decide +kernel
theorem dL_law_456 : decode cL_law 456 = .ok (.istore 4, 2) := by decide +kernel
theorem dL_law_458 : decode cL_law 458 = .ok (.iinc 13 1, 3) := by decide +kernel
theorem dL_law_461 : decode cL_law 461 = .ok (.goto (-128), 3) := by decide +kernel
theorem dL_law_464 : decode cL_law 464 = .ok (.iinc 12 1, 3) := by decide +kernel
theorem dL_law_467 : decode cL_law 467 = .ok (.goto (-158), 3) := by decide +kernel
theorem dL_law_470 : decode cL_law 470 = .ok (.iinc 6 1, 3) := by decide +kernel
theorem dL_law_473 : decode cL_law 473 = .ok (.goto (-408), 3) := by decide +kernel
theorem dL_law_476 : decode cL_law 476 = .ok (.iload 4, 2) := by decide +kernel
theorem dL_law_478 : decode cL_law 478 = .ok (.ifCond .eq 14, 3) := by decide +kernel
theorem dL_law_481 : decode cL_law 481 = .ok (.aload_n 1, 1) := by decide +kernel
theorem dL_law_482 : decode cL_law 482 = .ok (.invokevirtual 168, 3) := by decide +kernel
theorem dL_law_485 : decode cL_law 485 = .ok (.ifCond .eq 7, 3) := by decide +kernel
theorem dL_law_488 : decode cL_law 488 = .ok (.iconst 1, 1) := by decide +kernel
theorem dL_law_489 : decode cL_law 489 = .ok (.goto 4, 3) := by decide +kernel
theorem dL_law_492 : decode cL_law 492 = .ok (.iconst 0, 1) := by decide +kernel
theorem dL_law_493 : decode cL_law 493 = .ok (.ireturn, 1) := by decide +kernel
end
