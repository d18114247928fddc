section
-- ===== PART A: goes FIRST, ahead of the names: the tables' words, and 'selects' of the private methods out of them =====
/-- a private method of a class that the tables say can be made, by its rows of tables_1 -/
def lw_okq (q : MethodName × Nat) : Prop := (q.1.cls ≠ "java/lang/invoke/MethodHandle" ∧ q.1.cls ≠ "java/lang/invoke/VarHandle") ∧ Cond.instantiable q.1.cls q.2 ∈ tables_1 ∧ Cond.privateMethod q.1 ∈ tables_1 ∧ Cond.instanceMethod q.1 ∈ tables_1
theorem lw_p0 : lw_okq (⟨"java/lang/Throwable", "fillInStackTrace", "(I)Ljava/lang/Throwable;"⟩, 6) := ⟨⟨by decide +kernel, by decide +kernel⟩, List.mem_of_getElem? (i := 179) (by decide +kernel), List.mem_of_getElem? (i := 177) (by decide +kernel), List.mem_of_getElem? (i := 178) (by decide +kernel)⟩
theorem lw_p1 : lw_okq (⟨"Dotpress$RuleBook", "addCells", "(LDotpress$Row;IIILDotpress$Pieces;)I"⟩, 5) := ⟨⟨by decide +kernel, by decide +kernel⟩, List.mem_of_getElem? (i := 48) (by decide +kernel), List.mem_of_getElem? (i := 334) (by decide +kernel), List.mem_of_getElem? (i := 335) (by decide +kernel)⟩
theorem lw_p2 : lw_okq (⟨"Dotpress$Text", "unmark", "(I)V"⟩, 7) := ⟨⟨by decide +kernel, by decide +kernel⟩, List.mem_of_getElem? (i := 227) (by decide +kernel), List.mem_of_getElem? (i := 354) (by decide +kernel), List.mem_of_getElem? (i := 355) (by decide +kernel)⟩
theorem lw_p3 : lw_okq (⟨"Dotpress$Text", "beginWord", "(II)V"⟩, 7) := ⟨⟨by decide +kernel, by decide +kernel⟩, List.mem_of_getElem? (i := 227) (by decide +kernel), List.mem_of_getElem? (i := 385) (by decide +kernel), List.mem_of_getElem? (i := 386) (by decide +kernel)⟩
theorem lw_p4 : lw_okq (⟨"Dotpress", "textNumbered", "(I)LDotpress$Text;"⟩, 7) := ⟨⟨by decide +kernel, by decide +kernel⟩, List.mem_of_getElem? (i := 26) (by decide +kernel), List.mem_of_getElem? (i := 403) (by decide +kernel), List.mem_of_getElem? (i := 404) (by decide +kernel)⟩
theorem lw_p5 : lw_okq (⟨"Dotpress", "textWithWord", "(II)LDotpress$Text;"⟩, 7) := ⟨⟨by decide +kernel, by decide +kernel⟩, List.mem_of_getElem? (i := 26) (by decide +kernel), List.mem_of_getElem? (i := 425) (by decide +kernel), List.mem_of_getElem? (i := 426) (by decide +kernel)⟩
theorem lw_p6 : lw_okq (⟨"Dotpress", "typedKey", "()I"⟩, 7) := ⟨⟨by decide +kernel, by decide +kernel⟩, List.mem_of_getElem? (i := 26) (by decide +kernel), List.mem_of_getElem? (i := 826) (by decide +kernel), List.mem_of_getElem? (i := 827) (by decide +kernel)⟩
theorem lw_p7 : lw_okq (⟨"Dotpress", "translateTexts", "()I"⟩, 7) := ⟨⟨by decide +kernel, by decide +kernel⟩, List.mem_of_getElem? (i := 26) (by decide +kernel), List.mem_of_getElem? (i := 871) (by decide +kernel), List.mem_of_getElem? (i := 872) (by decide +kernel)⟩
theorem lw_p8 : lw_okq (⟨"Dotpress", "planLine", "(LDotpress$Text;I)V"⟩, 7) := ⟨⟨by decide +kernel, by decide +kernel⟩, List.mem_of_getElem? (i := 26) (by decide +kernel), List.mem_of_getElem? (i := 956) (by decide +kernel), List.mem_of_getElem? (i := 957) (by decide +kernel)⟩
def lw_privs_1 : List (MethodName × Nat) := [(⟨"java/lang/Throwable", "fillInStackTrace", "(I)Ljava/lang/Throwable;"⟩, 6), (⟨"Dotpress$RuleBook", "addCells", "(LDotpress$Row;IIILDotpress$Pieces;)I"⟩, 5), (⟨"Dotpress$Text", "unmark", "(I)V"⟩, 7), (⟨"Dotpress$Text", "beginWord", "(II)V"⟩, 7), (⟨"Dotpress", "textNumbered", "(I)LDotpress$Text;"⟩, 7), (⟨"Dotpress", "textWithWord", "(II)LDotpress$Text;"⟩, 7), (⟨"Dotpress", "typedKey", "()I"⟩, 7), (⟨"Dotpress", "translateTexts", "()I"⟩, 7), (⟨"Dotpress", "planLine", "(LDotpress$Text;I)V"⟩, 7)]
theorem lw_r1 : ∀ q ∈ lw_privs_1, lw_okq q := List.forall_mem_cons.mpr ⟨lw_p0, List.forall_mem_cons.mpr ⟨lw_p1, List.forall_mem_cons.mpr ⟨lw_p2, List.forall_mem_cons.mpr ⟨lw_p3, List.forall_mem_cons.mpr ⟨lw_p4, List.forall_mem_cons.mpr ⟨lw_p5, List.forall_mem_cons.mpr ⟨lw_p6, List.forall_mem_cons.mpr ⟨lw_p7, List.forall_mem_cons.mpr ⟨lw_p8, fun _ h => absurd h List.not_mem_nil⟩⟩⟩⟩⟩⟩⟩⟩⟩
def lw_privs : List (MethodName × Nat) := lw_privs_1
def lw_tbl : List Cond := k2_sels lw_privs ++ tables_1
theorem lw_privs_ok : ∀ q ∈ lw_privs, lw_okq q := lw_r1
-- ===== end of PART A; then your names; then what follows =====
end
section
/-! ===== BEGIN words of one list among another's, by their places ===== -/
theorem goodIn_r {big : List Cond} (ws : List Cond) (ps : List Nat) (hp : ws = ps.filterMap (fun i => big[i]?)) (h : ws.all goodWord = true) : GoodIn big ws := by
  intro w hw
  have h1 := List.all_eq_true.mp h w hw
  rw [hp] at hw
  obtain ⟨i, -, hi⟩ := List.mem_filterMap.mp hw
  have hm : w ∈ big := by first | exact List.mem_of_getElem? hi | exact List.getElem?_mem hi
  exact ⟨hm, good_of_word h1⟩
theorem goodIn_app {big a b : List Cond} (ha : GoodIn big a) (hb : GoodIn big b) : GoodIn big (a ++ b) := fun w h => (List.mem_append.mp h).elim (ha w) (hb w)
theorem goodIn_ca {big a b : List Cond} {c : Cond} (ha : GoodIn big (c :: a)) (hb : GoodIn big b) : GoodIn big (c :: (a ++ b)) := fun w h => (List.mem_cons.mp h).elim (fun e => ha w (List.mem_cons.mpr (Or.inl e))) (fun h => (List.mem_append.mp h).elim (fun h => ha w (List.mem_cons.mpr (Or.inr h))) (hb w))
theorem goodIn_sub {big ws : List Cond} (hm : ∀ w ∈ ws, w ∈ big) (h : ws.all goodWord = true) : GoodIn big ws := fun w hw => ⟨hm w hw, good_of_word (List.all_eq_true.mp h w hw)⟩
/-! ===== END ===== -/

/-! ===== BEGIN exceptions that leave a method, and their catching by the caller (launches without stack traces) ===== -/
section VXA
/-! The laws vx_back, vx_callV, vx_callS, vx_callSW, vx_throw0, vx_throwS follow proofs of the library, with one case more: JvmDerived/Free/Laws.lean (Back.of_free), Shelf42/LK1.lean (callV, callS), Shelf/KitTraced.lean (throwNew0V, throwNewS). -/
/-- where a method has thrown q: the class by its name, the cell, what was written, the world -/
def vx_T (XC : String → State → State → Prop) (st : State) (q : Addr) (t : State) (mc ms : Nat) (free : Addr → Prop) : Prop :=
  ∃ (E : String) (ce : Cell) (L : List Loc), XC E st t ∧ t.heap[q]? = some ce ∧ ce.vm = .none ∧ st.vm.findClass E = some ce.cls ∧ st.WarmedH t.vm ∧ st.sameButNew ({ t with vm := st.vm } : State) L mc ms ∧ ∀ z ∈ L, free z.base
def vx_Q (Qc : Array Value → State → Outcome → State → Prop) (XC : String → State → State → Prop) (mc ms : Nat) (free : Addr → Prop) : Array Value → State → Outcome → State → Prop := fun a st o t =>
  (Qc a st o t ∧ ∃ L, FrameEnd st o t L mc ms ∧ ∀ q ∈ L, free q.base) ∨ ∃ q, o = .threw q ∧ vx_T XC st q t mc ms free
/-- a callee that returns or throws -/
def vx_Met (l : Launch) (y : MethodName) (ws : List Cond) (rm : Room) (Pc : Array Value → State → Prop) (Qc : Array Value → State → Outcome → State → Prop) (XC : String → State → State → Prop) (mc ms : Nat) (free : Addr → Prop) : Prop :=
  MetFree l y (headSpec ws rm) Pc (fun _ _ _ _ _ => True) (vx_Q Qc XC mc ms free)
def vx_Post (XC : String → State → State → Prop) (mc ms : Nat) (free : Addr → Prop) : Pt → Array Value → Addr → Pt → Prop := fun A a q B =>
  ∃ (g : JFrame) (mk : MethodId) (t : State) (L : List Loc) (E : String) (ce : Cell), B.U.heap = t.heap ∧ B.U.vm = t.vm ∧ XC E (A.U.calling g mk a) t ∧ t.heap[q]? = some ce ∧ ce.vm = .none ∧ A.U.vm.findClass E = some ce.cls ∧ B.locs = A.locs ++ L ∧ (∀ z ∈ L, free z.base) ∧ B.cells = A.cells + mc ∧ B.slots = A.slots + ms
def vx_Back (l : Launch) (R : Room) (p : Program) (e : Env) (below : List Frame) (s : State) (sargs : Array Value) (y : MethodName) (len W9 : Nat)
    (Pre : Pt → Array Value → Prop) (Post : Pt → Array Value → Option Value → Pt → Prop) (PostX : Pt → Array Value → Addr → Pt → Prop) : Prop :=
  ∀ (m : MethodId) (meth : Method) (c : Code) (A : Pt) (g : JFrame) (ig : Instr) (mk : MethodId) (a : Array Value),
    Stand p l e R s m sargs below meth c A.U A.locs A.cells A.slots → g.method = m → g.locals.size = c.maxLocals → decode c.code g.pc = .ok (ig, len) →
    2 * g.monitorRoom + (g.stack.map fun v => v.category).sum ≤ W9 → A.U.methodNamed? y = some mk → Pre A a →
    (∃ (v : Option Value) (B : Pt), Stand p l e R s m sargs below meth c B.U B.locs B.cells B.slots ∧ Post A a v B ∧
      Steps p.tables e below (doInvoke e (A.U.setTop g) [] mk a).1 (B.U.setTop { g with pc := g.pc + len, stack := v.toList ++ g.stack })) ∨
    (∃ (q : Addr) (B : Pt), Stand p l e R s m sargs below meth c B.U B.locs B.cells B.slots ∧ PostX A a q B ∧
      Steps p.tables e below (doInvoke e (A.U.setTop g) [] mk a).1 ((B.U.setTop g).pushFrame (.throwing q)))
section Payer
variable {l : Launch} {R : Room} {p : Program} {e : Env} {below : List Frame} {s : State} {sargs : Array Value} {y : MethodName} {len W9 : Nat}
theorem vx_back {ws : List Cond} {rm : Room} {Pc : Array Value → State → Prop} {Qc : Array Value → State → Outcome → State → Prop} {XC : String → State → State → Prop} {mc ms : Nat} {free : Addr → Prop} {bytes : ByteArray} {maxL : Nat} {ret : Option FieldType}
    (hM : vx_Met l y ws rm Pc Qc XC mc ms free) (hblind : FrameBlind Pc) (hrc : rm.cells = mc) (hrs : rm.slots = ms)
    (hframes : rm.frames + 1 ≤ R.frames) (hlocals : W9 + (maxL + 11) + rm.locals ≤ R.locals)
    (hws : ∀ w ∈ ws, ∀ a' U, s.WarmedH U.vm → w.before a' U = true) (hcode : Cond.code y bytes maxL ret ∈ ws) (hinit : ∀ a' U, s.WarmedH U.vm → (Cond.initialized y.cls).before a' U = true) :
    vx_Back l R p e below s sargs y len W9 (PreOf R mc ms Pc) (PostOf Qc mc ms free) (vx_Post XC mc ms free) := by
  intro m meth c A g ig mk a X hg hsize hdg hW hn hp
  have h1 : (headSpec ws rm).pre.before a A.U = true := atoms_intro fun w hw => hws w hw _ _ X.warmed
  have h2 : (Cond.code y bytes maxL ret).before a A.U = true := hws _ hcode _ _ X.warmed
  have h3 : (Cond.initialized y.cls).before a A.U = true := hinit _ _ X.warmed
  have h4 : A.cells + (headSpec ws rm).room.cells ≤ R.cells := by rw [show (headSpec ws rm).room.cells = mc from hrc]; exact hp.1
  have h5 : A.slots + (headSpec ws rm).room.slots ≤ R.slots := by rw [show (headSpec ws rm).room.slots = ms from hrs]; exact hp.2.1
  have hPc : Pc a (A.U.calling g mk a) := hblind _ _ _ _ hp.2.2
  obtain ⟨U, Ls, c0, s0⟩ := A
  dsimp only [Pt.U, Pt.locs, Pt.cells, Pt.slots] at h1 h2 h3 h4 h5 X hn hPc ⊢
  obtain ⟨methY, cY, hmY, hcY, -, hlY, -, -, -, -⟩ := Cond.code_spec hn h2
  obtain ⟨kY, hkY, -⟩ := className_of_methodNamed hn
  have hinitY : kY.init = .initialized := Cond.initialized_spec (findClass_of_methodNamed hn) hkY h3
  have h : At U g.method c below := by rw [hg]; exact X.here
  have hlocals9 : W9 + (maxL + 11) + (headSpec ws rm).room.locals ≤ R.locals := hlocals
  have happ : (headSpec ws rm).appliesLoose y e.platform (U.calling g mk a) = true :=
    Spec.appliesLoose_calling (g := g) h hdg hn hkY hinitY
      (X.room_calling (g := g) (R' := (headSpec ws rm).room) hsize hmY hcY hframes (by rw [hlY]; omega) h4 h5) h1
  obtain ⟨mid, hmid⟩ := h.above
  have hfr : (U.setTop g).frames = (.java g :: mid) ++ below := by rw [State.frames_setTop' g h.top, hmid]; rfl
  obtain ⟨o, s₂, hsteps, -, hend, hq⟩ := Steps.callFree hM p X.admits X.cas X.clock (acts := []) hfr happ hPc trivial
  have hq' : vx_Q Qc XC mc ms free a (U.calling g mk a) o s₂ := hq
  rw [State.frames_setTop' g h.top] at hend
  obtain ⟨g₀, hg0⟩ := Option.isSome_iff_exists.mp h.top
  obtain ⟨r, hr⟩ := State.topJava?_eq_some.mp hg0
  have hr' : (({ U with heap := s₂.heap, slotsUsed := s₂.slotsUsed } : State).setVm s₂.vm).frames = .java g₀ :: r := hr
  rcases hq' with ⟨hqc, L, hfe, hL⟩ | ⟨q, rfl, E, ce, L, hx, hce, hcv, hcl, hW₂, hsm, hL⟩
  · obtain ⟨⟨v, rfl⟩, hW₂, e2, q2, q3, q4, q5, q6⟩ := id hfe
    have e3 : s₂ = ({ (U.calling g mk a).setFrames s₂.frames with heap := s₂.heap, slotsUsed := s₂.slotsUsed } : State).setVm s₂.vm := by
      have : s₂ = ({ s₂ with vm := (U.calling g mk a).vm } : State).setVm s₂.vm := rfl
      rw [e2] at this
      exact this
    obtain ⟨c₂, i₂, len₂, hc₂, hd₂, hf₂⟩ := hend
    have hW' : U.WarmedH s₂.vm := hW₂
    have hcc : c₂ = c := by
      have h1 : s₂.code? g.method = U.code? g.method := by
        rw [State.code?_eq, State.code?_eq, hW'.alike.method?]
      exact Option.some.inj (hc₂.symm.trans (h1.trans h.code))
    subst hcc
    have hlen : len₂ = len := by rw [hdg] at hd₂; cases hd₂; rfl
    subst hlen
    have hs₂ : s₂ = (({ U with heap := s₂.heap, slotsUsed := s₂.slotsUsed } : State).setVm s₂.vm).setTop { g with pc := g.pc + len₂, stack := v.toList ++ g.stack } := by
      refine e3.trans ?_
      rw [hf₂, State.calling_eq h.top, State.setFrames_setFrames, State.setTop_of_frames _ hr', hr]
      rfl
    have hsame : U.sameButNew ({ U with heap := s₂.heap, slotsUsed := s₂.slotsUsed } : State) L mc ms := by
      refine ⟨?_, q2, q3, q4, q5, q6⟩
      obtain ⟨t, ht, -⟩ := State.frames_cons hr
      show ({ U with heap := s₂.heap, slotsUsed := s₂.slotsUsed } : State) = { U.setFrames U.frames with heap := s₂.heap, slotsUsed := s₂.slotsUsed }
      rw [State.setFrames_self ht]
    subst hg
    refine Or.inl ⟨v, ⟨(({ U with heap := s₂.heap, slotsUsed := s₂.slotsUsed } : State).setVm s₂.vm), Ls ++ L, c0 + mc, s0 + ms⟩,
      ⟨X.admits, X.cas, X.clock, X.frames, X.room, X.hears, X.method, X.code, (X.here.setHeapUsed s₂.heap s₂.slotsUsed).setVm hW'.alike, X.tail, State.WarmedH.trans X.warmed hW', X.limits, X.bytes, X.same.trans (hsame.setVm s.vm)⟩,
      ⟨g, mk, s₂, L, rfl, rfl, hqc, rfl, hL, rfl, rfl⟩, ?_⟩
    show Steps p.tables e below _ ((({ U with heap := s₂.heap, slotsUsed := s₂.slotsUsed } : State).setVm s₂.vm).setTop { g with pc := g.pc + len₂, stack := v.toList ++ g.stack })
    rw [← hs₂]
    exact hsteps
  · obtain ⟨e2, q2, q3, q4, q5, q6⟩ := id hsm
    have e3 : s₂ = ({ (U.calling g mk a).setFrames s₂.frames with heap := s₂.heap, slotsUsed := s₂.slotsUsed } : State).setVm s₂.vm := by
      have : s₂ = ({ s₂ with vm := (U.calling g mk a).vm } : State).setVm s₂.vm := rfl
      rw [e2] at this
      exact this
    have hf₂ : s₂.frames = .throwing q :: .java g :: U.frames.tail := hend
    have hW' : U.WarmedH s₂.vm := hW₂
    have hs₂ : s₂ = ((({ U with heap := s₂.heap, slotsUsed := s₂.slotsUsed } : State).setVm s₂.vm).setTop g).pushFrame (.throwing q) := by
      refine e3.trans ?_
      rw [hf₂, State.calling_eq h.top, State.setFrames_setFrames, State.pushFrame, State.frames_setTop _ hr', State.setTop_of_frames _ hr', State.setFrames_setFrames, hr]
      rfl
    have hsame : U.sameButNew ({ U with heap := s₂.heap, slotsUsed := s₂.slotsUsed } : State) L mc ms := by
      refine ⟨?_, q2, q3, q4, q5, q6⟩
      obtain ⟨t, ht, -⟩ := State.frames_cons hr
      show ({ U with heap := s₂.heap, slotsUsed := s₂.slotsUsed } : State) = { U.setFrames U.frames with heap := s₂.heap, slotsUsed := s₂.slotsUsed }
      rw [State.setFrames_self ht]
    subst hg
    refine Or.inr ⟨q, ⟨(({ U with heap := s₂.heap, slotsUsed := s₂.slotsUsed } : State).setVm s₂.vm), Ls ++ L, c0 + mc, s0 + ms⟩,
      ⟨X.admits, X.cas, X.clock, X.frames, X.room, X.hears, X.method, X.code, (X.here.setHeapUsed s₂.heap s₂.slotsUsed).setVm hW'.alike, X.tail, State.WarmedH.trans X.warmed hW', X.limits, X.bytes, X.same.trans (hsame.setVm s.vm)⟩,
      ⟨g, mk, s₂, L, E, ce, rfl, rfl, hx, hce, hcv, hcl, rfl, hL, rfl, rfl⟩, ?_⟩
    show Steps p.tables e below _ (((({ U with heap := s₂.heap, slotsUsed := s₂.slotsUsed } : State).setVm s₂.vm).setTop g).pushFrame (.throwing q))
    rw [← hs₂]
    exact hsteps
end Payer
section Calls
variable {p : Program} {l : Launch} {e : Env} {R : Room} {s : State} {m : MethodId} {args : Array Value} {below : List Frame} {meth : Method} {c : Code} {T : State} {locs : List Loc} {cells slots : Nat}
theorem vx_callV (X : Stand p l e R s m args below meth c T locs cells slots) (hexec : p.tables.exec = Jvm.exec) {own C : String} {index : Nat} {y : MethodName} {bytes : ByteArray} {maxL : Nat} {ret : Option FieldType}
    (hown : s.vm.findClass own = some m.cls) (hlink : (Cond.methodLink own index y).before args s = true) (hinst : (Cond.instanceMethod y).before args s = true) (hsel : (Cond.selects C y y).before args s = true)
    (hcode : (Cond.code y bytes maxL ret).before args s = true) (hy : y.cls ≠ "java/lang/invoke/MethodHandle" ∧ y.cls ≠ "java/lang/invoke/VarHandle")
    {W9 : Nat} {Pre : Pt → Array Value → Prop} {Post : Pt → Array Value → Option Value → Pt → Prop} {PostX : Pt → Array Value → Addr → Pt → Prop} (hK : vx_Back l R p e below s args y 3 W9 Pre Post PostX)
    {b : Addr} {cellB : Cell} (hcell : T.heap[b]? = some cellB) (hobj : cellB.vm.isStatics = false) (hcls : s.vm.findClass C = some cellB.cls)
    {g : JFrame} (hg : g.method = m) (hsize : g.locals.size = c.maxLocals) {argsL rest : List Value} (hlen : ∀ sig, parseMethodDescriptor y.desc = some sig → argsL.length = sig.parameters.length)
    (hstack : g.stack = argsL.reverse ++ .ref b :: rest) (hW : 2 * g.monitorRoom + (rest.map fun v => v.category).sum ≤ W9) (hdg : decode c.code g.pc = .ok (.invokevirtual index, 3))
    (hpre : ∀ vm₁, s.WarmedH vm₁ → Pre ⟨T.setVm vm₁, locs, cells, slots⟩ (Value.ref b :: argsL).toArray) :
    (∃ (v : Option Value) (vm₁ : Vm) (B : Pt), s.WarmedH vm₁ ∧ Stand p l e R s m args below meth c B.U B.locs B.cells B.slots ∧ Post ⟨T.setVm vm₁, locs, cells, slots⟩ (Value.ref b :: argsL).toArray v B ∧
      ∀ target, Steps p.tables e below (B.U.setTop { g with pc := g.pc + 3, stack := v.toList ++ rest }) target → Steps p.tables e below (T.setTop g) target) ∨
    (∃ (q : Addr) (vm₁ : Vm) (B : Pt), s.WarmedH vm₁ ∧ Stand p l e R s m args below meth c B.U B.locs B.cells B.slots ∧ PostX ⟨T.setVm vm₁, locs, cells, slots⟩ (Value.ref b :: argsL).toArray q B ∧
      Steps p.tables e below (T.setTop g) ((B.U.setTop { g with stack := rest }).pushFrame (.throwing q))) := by
  obtain ⟨mk, methM, hnamed, hmethM, hstM, habM⟩ := Cond.instanceMethod_spec hinst
  obtain ⟨methM', cM, hmethM', -, -, -, -, -, -, hsigM⟩ := Cond.code_spec hnamed hcode
  cases hmethM.symm.trans hmethM'
  obtain ⟨c2, r2, m2, q1, q2, q3, q4, kP, hkP, hkPi⟩ := Cond.selects_spec hsel
  cases hcls.symm.trans q1
  cases (State.methodFound?_of_named hnamed hy).symm.trans q2
  cases hnamed.symm.trans q3
  have hselP : selectMethod e.platform s.vm cellB.cls mk = .method mk := by rw [Launch.admits_selectMethod X.admits]; exact q4
  obtain ⟨vm₁, X₁, hstep₁⟩ := X.invokevirtual hexec hown hlink hnamed hmethM hstM hkP hkPi hy (a := b) (cell := cellB) hcell
    (fun z h => by rw [h] at hobj; cases hobj) hselP hmethM habM hkP hkPi (g := g) hg (argsL := argsL) (rest := rest) (hlen _ hsigM) hstack hdg
  rcases hK m meth c ⟨T.setVm vm₁, locs, cells, slots⟩ { g with stack := rest } (.invokevirtual index) mk (Value.ref b :: argsL).toArray X₁ hg hsize hdg hW (X₁.named hnamed) (hpre vm₁ X₁.warmed) with ⟨v, B, X', hpost, hsteps⟩ | ⟨q, B, X', hpost, hsteps⟩
  · exact Or.inl ⟨v, vm₁, B, X₁.warmed, X', hpost, fun target h => hstep₁ _ fun acts => by rw [doInvoke_state]; exact hsteps.trans h⟩
  · exact Or.inr ⟨q, vm₁, B, X₁.warmed, X', hpost, hstep₁ _ fun acts => by rw [doInvoke_state]; exact hsteps⟩
theorem vx_callS (X : Stand p l e R s m args below meth c T locs cells slots) (hexec : p.tables.exec = Jvm.exec) {own : String} {index : Nat} {y : MethodName} {bytes : ByteArray} {maxL : Nat} {ret : Option FieldType}
    (hown : s.vm.findClass own = some m.cls) (hlink : (Cond.methodLink own index y).before args s = true) (hstat : (Cond.static y).before args s = true) (hinit : (Cond.initialized y.cls).before args s = true)
    (hcode : (Cond.code y bytes maxL ret).before args s = true) (hy : y.cls ≠ "java/lang/invoke/MethodHandle" ∧ y.cls ≠ "java/lang/invoke/VarHandle")
    {W9 : Nat} {Pre : Pt → Array Value → Prop} {Post : Pt → Array Value → Option Value → Pt → Prop} {PostX : Pt → Array Value → Addr → Pt → Prop} (hK : vx_Back l R p e below s args y 3 W9 Pre Post PostX)
    {g : JFrame} (hg : g.method = m) (hsize : g.locals.size = c.maxLocals) {argsL rest : List Value} (hlen : ∀ sig, parseMethodDescriptor y.desc = some sig → argsL.length = sig.parameters.length)
    (hstack : g.stack = argsL.reverse ++ rest) (hW : 2 * g.monitorRoom + (rest.map fun v => v.category).sum ≤ W9) (hdg : decode c.code g.pc = .ok (.invokestatic index, 3))
    (hpre : ∀ vm₁, s.WarmedH vm₁ → Pre ⟨T.setVm vm₁, locs, cells, slots⟩ argsL.toArray) :
    (∃ (v : Option Value) (vm₁ : Vm) (B : Pt), s.WarmedH vm₁ ∧ Stand p l e R s m args below meth c B.U B.locs B.cells B.slots ∧ Post ⟨T.setVm vm₁, locs, cells, slots⟩ argsL.toArray v B ∧
      ∀ target, Steps p.tables e below (B.U.setTop { g with pc := g.pc + 3, stack := v.toList ++ rest }) target → Steps p.tables e below (T.setTop g) target) ∨
    (∃ (q : Addr) (vm₁ : Vm) (B : Pt), s.WarmedH vm₁ ∧ Stand p l e R s m args below meth c B.U B.locs B.cells B.slots ∧ PostX ⟨T.setVm vm₁, locs, cells, slots⟩ argsL.toArray q B ∧
      Steps p.tables e below (T.setTop g) ((B.U.setTop { g with stack := rest }).pushFrame (.throwing q))) := by
  obtain ⟨mk, hnamed⟩ := Cond.code_named hcode
  obtain ⟨methM, cM, hmethM, -, -, -, -, -, -, hsigM⟩ := Cond.code_spec hnamed hcode
  have hstatic : methM.isStatic = true := Cond.static_spec hnamed hmethM hstat
  obtain ⟨kP, hkP, -⟩ := className_of_methodNamed hnamed
  have hinitP : kP.init = .initialized := Cond.initialized_spec (findClass_of_methodNamed hnamed) hkP hinit
  obtain ⟨vm₁, X₁, hstep₁⟩ := X.invokestatic hexec hown hlink hnamed hmethM hstatic hkP hinitP hy (g := g) hg (argsL := argsL) (rest := rest) (hlen _ hsigM) hstack hdg
  rcases hK m meth c ⟨T.setVm vm₁, locs, cells, slots⟩ { g with stack := rest } (.invokestatic index) mk argsL.toArray X₁ hg hsize hdg hW (X₁.named hnamed) (hpre vm₁ X₁.warmed) with ⟨v, B, X', hpost, hsteps⟩ | ⟨q, B, X', hpost, hsteps⟩
  · exact Or.inl ⟨v, vm₁, B, X₁.warmed, X', hpost, fun target h => hstep₁ _ fun acts => by rw [doInvoke_state]; exact hsteps.trans h⟩
  · exact Or.inr ⟨q, vm₁, B, X₁.warmed, X', hpost, hstep₁ _ fun acts => by rw [doInvoke_state]; exact hsteps⟩
end Calls
theorem vx_cls {s : State} {T : State} {vm₁ : Vm} {E : String} {k : ClassId} (hW : s.WarmedH vm₁) (h : (T.setVm vm₁).vm.findClass E = some k) : s.vm.findClass E = some k := by
  have h1 : vm₁.findClass E = some k := h
  rw [hW.alike.findClass] at h1
  exact h1
/-- the method's frame g, with q thrown over it -/
def vx_W (p : Program) (l : Launch) (e : Env) (R : Room) (s : State) (m : MethodId) (args : Array Value) (below : List Frame) (meth : Method) (c : Code) (H : Heap) (locs : List Loc) (cells slots : Nat) (Q : State → Prop) (g : JFrame) (q : Addr) : Prop :=
  ∀ T : State, T.heap = H → Stand p l e R s m args below meth c T locs cells slots → ∃ t, Steps p.tables e below ((T.setTop g).pushFrame (.throwing q)) t ∧ Q t
def vx_Run (p : Program) (l : Launch) (e : Env) (R : Room) (s : State) (m : MethodId) (args : Array Value) (below : List Frame) (meth : Method) (c : Code) (H : Heap) (locs : List Loc) (cells slots mc ms : Nat) (g : JFrame) (rest : List Value) (Qa : State → Outcome → State → Prop) (XC : String → State → State → Prop) (free : Addr → Prop) : Prop :=
  ∀ T : State, T.heap = H → Stand p l e R s m args below meth c T locs cells slots →
    (∃ (v : Option Value) (st₀ t T' : State) (L : List Loc), st₀.heap = H ∧ Stand p l e R s m args below meth c T' (locs ++ L) (cells + mc) (slots + ms) ∧ (∀ q ∈ L, free q.base) ∧ T'.heap = t.heap ∧ T'.vm = t.vm ∧ Qa st₀ (.returned v) t ∧
      Goes p e below T g T' { g with pc := g.pc + 3, stack := v.toList ++ rest }) ∨
    (∃ (q : Addr) (st₀ t T' : State) (L : List Loc) (E : String) (ce : Cell), st₀.heap = H ∧ Stand p l e R s m args below meth c T' (locs ++ L) (cells + mc) (slots + ms) ∧ (∀ z ∈ L, free z.base) ∧ T'.heap = t.heap ∧ T'.vm = t.vm ∧ XC E st₀ t ∧ t.heap[q]? = some ce ∧ ce.vm = .none ∧ s.vm.findClass E = some ce.cls ∧
      Steps p.tables e below (T.setTop g) ((T'.setTop { g with stack := rest }).pushFrame (.throwing q)))
def vx_X {S : Type} (px : S → Prop) (B : String → S → State → Prop) (A : Nat → Prop) : String → State → State → Prop := fun E st t => ∃ u : S, px u ∧ B E u t ∧ va_F A st t
section Runs
variable {p : Program} {l : Launch} {e : Env} {R : Room} {s : State} {m : MethodId} {args : Array Value} {below : List Frame} {meth : Method} {c : Code} {H : Heap} {locs : List Loc} {cells slots : Nat}
variable {y : MethodName} {bytes cc : ByteArray} {maxL nL mc ms n index : Nat} {ret : Option FieldType} {ws : List Cond} {rm : Room} {Pc : Array Value → State → Prop} {Qc : Array Value → State → Outcome → State → Prop} {XC : String → State → State → Prop} {free : Addr → Prop} {Ts : List Cond} {own C : String} {b : Addr} {As rest : List Value} {g : JFrame}
theorem vx_callBack (cb : CallB R s args own index y bytes maxL ret ws rm mc ms n) (hM : vx_Met l y ws rm Pc Qc XC mc ms free) (hbl : FrameBlind Pc) : vx_Back l R p e below s args y 3 8 (PreOf R mc ms Pc) (PostOf Qc mc ms free) (vx_Post XC mc ms free) := by
  obtain ⟨hrc, hrs, hfr, hlo, hws, hcw, -, hini, -⟩ := cb
  exact vx_back (bytes := bytes) (maxL := maxL) (ret := ret) hM hbl hrc hrs hfr hlo hws hcw (fun a' U hW => word_at hW (Or.inl (by first | rfl | simp [Cond.onTables, Cond.keeps, Cond.steady])) hini)
theorem vx_runV (S : CallFix p m c cc nL s args Ts own) (hM : vx_Met l y ws rm Pc Qc XC mc ms free) (cw : CallW R s args own C index y bytes maxL ret ws rm mc ms n) (hp : PreV s H C b Pc As)
    (hg : g.method = m) (hn : As.length = n) (hsize : g.locals.size = nL) (hstack : g.stack = As.reverse ++ .ref b :: rest) (hW : 2 * g.monitorRoom + (rest.map fun v => v.category).sum ≤ 8) (hdg : decode cc g.pc = .ok (.invokevirtual index, 3)) (hf : cells + mc ≤ R.cells ∧ slots + ms ≤ R.slots) :
    vx_Run p l e R s m args below meth c H locs cells slots mc ms g rest (Qc (Value.ref b :: As).toArray) XC free := by
  have hK : vx_Back l R p e below s args y 3 8 (PreOf R mc ms Pc) (PostOf Qc mc ms free) (vx_Post XC mc ms free) := vx_callBack cw.1 hM hp.1
  obtain ⟨⟨-, -, -, -, -, -, hcode, -, hy, hlen, hl⟩, hin, hse⟩ := cw
  obtain ⟨hx, hb, hml, ho, -⟩ := S
  obtain ⟨-, ⟨cellB, hcB, hoB, hclB⟩, hPc⟩ := hp
  intro T hT X
  rcases vx_callV X hx (C := C) (bytes := bytes) (maxL := maxL) (ret := ret) ho hl hin hse hcode hy hK (by rw [hT]; exact hcB) hoB hclB hg (hsize.trans hml.symm) (argsL := As) (rest := rest) (fun sig h => hn.trans (hlen sig h)) hstack hW (by rw [hb]; exact hdg)
    (fun vm₁ hW₁ => ⟨hf.1, hf.2, hPc (T.setVm vm₁) hT hW₁⟩) with ⟨v, vm₁, ⟨U', l2, c2, s2⟩, hW₁, X', ⟨g', mk, t, L, e1, e2, hq, h1, hL, h2, h3⟩, st⟩ | ⟨q, vm₁, ⟨U', l2, c2, s2⟩, hW₁, X', ⟨g', mk, t, L, E, ce, e1, e2, hq, hce, hcv, hcl, h1, hL, h2, h3⟩, st⟩
  · dsimp only [Pt.U, Pt.locs, Pt.cells, Pt.slots] at X' e1 e2 h1 h2 h3 st
    subst h1; subst h2; subst h3
    exact Or.inl ⟨v, (T.setVm vm₁).calling g' mk (Value.ref b :: As).toArray, t, U', L, hT, X', hL, e1, e2, hq, st⟩
  · dsimp only [Pt.U, Pt.locs, Pt.cells, Pt.slots] at X' e1 e2 h1 h2 h3 st hcl
    subst h1; subst h2; subst h3
    exact Or.inr ⟨q, (T.setVm vm₁).calling g' mk (Value.ref b :: As).toArray, t, U', L, E, ce, hT, X', hL, e1, e2, hq, hce, hcv, vx_cls hW₁ hcl, st⟩
theorem vx_runS (S : CallFix p m c cc nL s args Ts own) (hM : vx_Met l y ws rm Pc Qc XC mc ms free) (cw : CallB R s args own index y bytes maxL ret ws rm mc ms n ∧ (Cond.static y).before args s = true) (hp : PreS s H Pc As)
    (hg : g.method = m) (hn : As.length = n) (hsize : g.locals.size = nL) (hstack : g.stack = As.reverse ++ rest) (hW : 2 * g.monitorRoom + (rest.map fun v => v.category).sum ≤ 8) (hdg : decode cc g.pc = .ok (.invokestatic index, 3)) (hf : cells + mc ≤ R.cells ∧ slots + ms ≤ R.slots) :
    vx_Run p l e R s m args below meth c H locs cells slots mc ms g rest (Qc As.toArray) XC free := by
  have hK : vx_Back l R p e below s args y 3 8 (PreOf R mc ms Pc) (PostOf Qc mc ms free) (vx_Post XC mc ms free) := vx_callBack cw.1 hM hp.1
  obtain ⟨⟨-, -, -, -, -, -, hcode, hini, hy, hlen, hl⟩, hstt⟩ := cw
  obtain ⟨hx, hb, hml, ho, -⟩ := S
  intro T hT X
  rcases vx_callS X hx (bytes := bytes) (maxL := maxL) (ret := ret) ho hl hstt hini hcode hy hK hg (hsize.trans hml.symm) (argsL := As) (rest := rest) (fun sig h => hn.trans (hlen sig h)) hstack hW (by rw [hb]; exact hdg)
    (fun vm₁ hW₁ => ⟨hf.1, hf.2, hp.2 (T.setVm vm₁) hT hW₁⟩) with ⟨v, vm₁, ⟨U', l2, c2, s2⟩, hW₁, X', ⟨g', mk, t, L, e1, e2, hq, h1, hL, h2, h3⟩, st⟩ | ⟨q, vm₁, ⟨U', l2, c2, s2⟩, hW₁, X', ⟨g', mk, t, L, E, ce, e1, e2, hq, hce, hcv, hcl, h1, hL, h2, h3⟩, st⟩
  · dsimp only [Pt.U, Pt.locs, Pt.cells, Pt.slots] at X' e1 e2 h1 h2 h3 st
    subst h1; subst h2; subst h3
    exact Or.inl ⟨v, (T.setVm vm₁).calling g' mk As.toArray, t, U', L, hT, X', hL, e1, e2, hq, st⟩
  · dsimp only [Pt.U, Pt.locs, Pt.cells, Pt.slots] at X' e1 e2 h1 h2 h3 st hcl
    subst h1; subst h2; subst h3
    exact Or.inr ⟨q, (T.setVm vm₁).calling g' mk As.toArray, t, U', L, E, ce, hT, X', hL, e1, e2, hq, hce, hcv, vx_cls hW₁ hcl, st⟩
end Runs
section Rows
variable {p : Program} {l : Launch} {e : Env} {R : Room} {s : State} {m : MethodId} {args : Array Value} {below : List Frame} {meth : Method} {c : Code} {H : Heap} {locs : List Loc} {cells slots : Nat} {Q : State → Prop}
variable {mc ms : Nat} {free : Addr → Prop} {A0 A1 : Nat → Prop} {H0 : Heap} {a : Array Value} {pc : Nat} {ls : Array Slot} {st0 rest : List Value}
theorem vx_keep {st₀ t T' : State} {L : List Loc} (h0 : st₀.heap = H) (e1 : T'.heap = t.heap) (hS : va_S A0 H0 H locs) (hA : ∀ q, q < H.size → A1 q → A0 q) (hf : ∀ q, free q → A0 q) (hL : ∀ q ∈ L, free q.base) (hF : va_F A1 st₀ t) :
    H.size ≤ T'.heap.size ∧ (∀ q : Nat, q < H.size → ¬ A1 q → T'.heap[q]? = H[q]?) ∧ va_S A0 H0 T'.heap (locs ++ L) := by
  obtain ⟨hz, hk⟩ := hF
  rw [h0] at hz hk
  exact ⟨by rw [e1]; exact hz, fun q h1 h2 => by rw [e1]; exact hk q h1 h2,
    ⟨Nat.le_trans hS.1 (by rw [e1]; exact hz), fun q h1 h2 => by rw [e1, hk q (Nat.lt_of_lt_of_le h1 hS.1) (fun z => h2 (hA q (Nat.lt_of_lt_of_le h1 hS.1) z))]; exact hS.2.1 q h1 h2, fun q hq => by
      rcases List.mem_append.mp hq with h | h
      · exact hS.2.2 q h
      · exact hf _ (hL q h)⟩⟩
theorem vx_calli {S SX : Type} {post : Int32 → S → Prop} {px : SX → Prop} {B : S → State → Prop} {BX : String → SX → State → Prop} {AX : Nat → Prop} (hr : vx_Run p l e R s m args below meth c H locs cells slots mc ms (F0 m pc ls st0) rest (va_Qi post B A1 a) (vx_X px BX AX) free) (hS : va_S A0 H0 H locs) (hA : ∀ q, q < H.size → A1 q → A0 q) (hf : ∀ q, free q → A0 q) (hAX : ∀ q, q < H.size → AX q → A0 q)
    (kx : ∀ (E : String) (ce : Cell) (q9 : Addr) (u : SX) (t : State) (H1 : Heap) (locs1 : List Loc), t.heap = H1 → s.vm.Alike t.vm → px u → BX E u t → H.size ≤ H1.size → (∀ q : Nat, q < H.size → ¬ AX q → H1[q]? = H[q]?) → va_S A0 H0 H1 locs1 → H1[q9]? = some ce → ce.vm = .none → s.vm.findClass E = some ce.cls → vx_W p l e R s m args below meth c H1 locs1 (cells + mc) (slots + ms) Q (F0 m pc ls rest) q9)
    (kk : ∀ (r : Int32) (u : S) (t : State) (H1 : Heap) (locs1 : List Loc), t.heap = H1 → s.vm.Alike t.vm → post r u → B u t → H.size ≤ H1.size → (∀ q : Nat, q < H.size → ¬ A1 q → H1[q]? = H[q]?) → va_S A0 H0 H1 locs1 → W p l e R s m args below meth c H1 locs1 (cells + mc) (slots + ms) Q (F0 m (pc + 3) ls (.int r :: rest))) : W p l e R s m args below meth c H locs cells slots Q (F0 m pc ls st0) := by
  intro T hT X
  rcases hr T hT X with ⟨v, st₀, t, T', L, h0, X', hL, e1, e2, ⟨⟨r, u, hv, hp, hb⟩, hF⟩, st⟩ | ⟨q, st₀, t, T', L, E, ce, h0, X', hL, e1, e2, ⟨u, hp, hb, hF⟩, hce, hcv, hcl, st⟩
  · cases hv
    obtain ⟨k1, k2, k3⟩ := vx_keep h0 e1 hS hA hf hL hF
    obtain ⟨t2, a1, b1⟩ := kk r u t T'.heap (locs ++ L) e1.symm (by rw [← e2]; exact X'.warmed.alike) hp hb k1 k2 k3 T' rfl X'
    exact ⟨t2, st t2 a1, b1⟩
  · obtain ⟨k1, k2, k3⟩ := vx_keep h0 e1 hS hAX hf hL hF
    obtain ⟨t2, a1, b1⟩ := kx E ce q u t T'.heap (locs ++ L) e1.symm (by rw [← e2]; exact X'.warmed.alike) hp hb k1 k2 k3 (by rw [e1]; exact hce) hcv hcl T' rfl X'
    exact ⟨t2, st.trans a1, b1⟩
theorem vx_calll {S SX : Type} {post : Int64 → S → Prop} {px : SX → Prop} {B : S → State → Prop} {BX : String → SX → State → Prop} {AX : Nat → Prop} (hr : vx_Run p l e R s m args below meth c H locs cells slots mc ms (F0 m pc ls st0) rest (va_Ql post B A1 a) (vx_X px BX AX) free) (hS : va_S A0 H0 H locs) (hA : ∀ q, q < H.size → A1 q → A0 q) (hf : ∀ q, free q → A0 q) (hAX : ∀ q, q < H.size → AX q → A0 q)
    (kx : ∀ (E : String) (ce : Cell) (q9 : Addr) (u : SX) (t : State) (H1 : Heap) (locs1 : List Loc), t.heap = H1 → s.vm.Alike t.vm → px u → BX E u t → H.size ≤ H1.size → (∀ q : Nat, q < H.size → ¬ AX q → H1[q]? = H[q]?) → va_S A0 H0 H1 locs1 → H1[q9]? = some ce → ce.vm = .none → s.vm.findClass E = some ce.cls → vx_W p l e R s m args below meth c H1 locs1 (cells + mc) (slots + ms) Q (F0 m pc ls rest) q9)
    (kk : ∀ (r : Int64) (u : S) (t : State) (H1 : Heap) (locs1 : List Loc), t.heap = H1 → s.vm.Alike t.vm → post r u → B u t → H.size ≤ H1.size → (∀ q : Nat, q < H.size → ¬ A1 q → H1[q]? = H[q]?) → va_S A0 H0 H1 locs1 → W p l e R s m args below meth c H1 locs1 (cells + mc) (slots + ms) Q (F0 m (pc + 3) ls (.long r :: rest))) : W p l e R s m args below meth c H locs cells slots Q (F0 m pc ls st0) := by
  intro T hT X
  rcases hr T hT X with ⟨v, st₀, t, T', L, h0, X', hL, e1, e2, ⟨⟨r, u, hv, hp, hb⟩, hF⟩, st⟩ | ⟨q, st₀, t, T', L, E, ce, h0, X', hL, e1, e2, ⟨u, hp, hb, hF⟩, hce, hcv, hcl, st⟩
  · cases hv
    obtain ⟨k1, k2, k3⟩ := vx_keep h0 e1 hS hA hf hL hF
    obtain ⟨t2, a1, b1⟩ := kk r u t T'.heap (locs ++ L) e1.symm (by rw [← e2]; exact X'.warmed.alike) hp hb k1 k2 k3 T' rfl X'
    exact ⟨t2, st t2 a1, b1⟩
  · obtain ⟨k1, k2, k3⟩ := vx_keep h0 e1 hS hAX hf hL hF
    obtain ⟨t2, a1, b1⟩ := kx E ce q u t T'.heap (locs ++ L) e1.symm (by rw [← e2]; exact X'.warmed.alike) hp hb k1 k2 k3 (by rw [e1]; exact hce) hcv hcl T' rfl X'
    exact ⟨t2, st.trans a1, b1⟩
theorem vx_callf {S SX : Type} {post : UInt32 → S → Prop} {px : SX → Prop} {B : S → State → Prop} {BX : String → SX → State → Prop} {AX : Nat → Prop} (hr : vx_Run p l e R s m args below meth c H locs cells slots mc ms (F0 m pc ls st0) rest (va_Qf post B A1 a) (vx_X px BX AX) free) (hS : va_S A0 H0 H locs) (hA : ∀ q, q < H.size → A1 q → A0 q) (hf : ∀ q, free q → A0 q) (hAX : ∀ q, q < H.size → AX q → A0 q)
    (kx : ∀ (E : String) (ce : Cell) (q9 : Addr) (u : SX) (t : State) (H1 : Heap) (locs1 : List Loc), t.heap = H1 → s.vm.Alike t.vm → px u → BX E u t → H.size ≤ H1.size → (∀ q : Nat, q < H.size → ¬ AX q → H1[q]? = H[q]?) → va_S A0 H0 H1 locs1 → H1[q9]? = some ce → ce.vm = .none → s.vm.findClass E = some ce.cls → vx_W p l e R s m args below meth c H1 locs1 (cells + mc) (slots + ms) Q (F0 m pc ls rest) q9)
    (kk : ∀ (r : UInt32) (u : S) (t : State) (H1 : Heap) (locs1 : List Loc), t.heap = H1 → s.vm.Alike t.vm → post r u → B u t → H.size ≤ H1.size → (∀ q : Nat, q < H.size → ¬ A1 q → H1[q]? = H[q]?) → va_S A0 H0 H1 locs1 → W p l e R s m args below meth c H1 locs1 (cells + mc) (slots + ms) Q (F0 m (pc + 3) ls (.float r :: rest))) : W p l e R s m args below meth c H locs cells slots Q (F0 m pc ls st0) := by
  intro T hT X
  rcases hr T hT X with ⟨v, st₀, t, T', L, h0, X', hL, e1, e2, ⟨⟨r, u, hv, hp, hb⟩, hF⟩, st⟩ | ⟨q, st₀, t, T', L, E, ce, h0, X', hL, e1, e2, ⟨u, hp, hb, hF⟩, hce, hcv, hcl, st⟩
  · cases hv
    obtain ⟨k1, k2, k3⟩ := vx_keep h0 e1 hS hA hf hL hF
    obtain ⟨t2, a1, b1⟩ := kk r u t T'.heap (locs ++ L) e1.symm (by rw [← e2]; exact X'.warmed.alike) hp hb k1 k2 k3 T' rfl X'
    exact ⟨t2, st t2 a1, b1⟩
  · obtain ⟨k1, k2, k3⟩ := vx_keep h0 e1 hS hAX hf hL hF
    obtain ⟨t2, a1, b1⟩ := kx E ce q u t T'.heap (locs ++ L) e1.symm (by rw [← e2]; exact X'.warmed.alike) hp hb k1 k2 k3 (by rw [e1]; exact hce) hcv hcl T' rfl X'
    exact ⟨t2, st.trans a1, b1⟩
theorem vx_calld {S SX : Type} {post : UInt64 → S → Prop} {px : SX → Prop} {B : S → State → Prop} {BX : String → SX → State → Prop} {AX : Nat → Prop} (hr : vx_Run p l e R s m args below meth c H locs cells slots mc ms (F0 m pc ls st0) rest (va_Qd post B A1 a) (vx_X px BX AX) free) (hS : va_S A0 H0 H locs) (hA : ∀ q, q < H.size → A1 q → A0 q) (hf : ∀ q, free q → A0 q) (hAX : ∀ q, q < H.size → AX q → A0 q)
    (kx : ∀ (E : String) (ce : Cell) (q9 : Addr) (u : SX) (t : State) (H1 : Heap) (locs1 : List Loc), t.heap = H1 → s.vm.Alike t.vm → px u → BX E u t → H.size ≤ H1.size → (∀ q : Nat, q < H.size → ¬ AX q → H1[q]? = H[q]?) → va_S A0 H0 H1 locs1 → H1[q9]? = some ce → ce.vm = .none → s.vm.findClass E = some ce.cls → vx_W p l e R s m args below meth c H1 locs1 (cells + mc) (slots + ms) Q (F0 m pc ls rest) q9)
    (kk : ∀ (r : UInt64) (u : S) (t : State) (H1 : Heap) (locs1 : List Loc), t.heap = H1 → s.vm.Alike t.vm → post r u → B u t → H.size ≤ H1.size → (∀ q : Nat, q < H.size → ¬ A1 q → H1[q]? = H[q]?) → va_S A0 H0 H1 locs1 → W p l e R s m args below meth c H1 locs1 (cells + mc) (slots + ms) Q (F0 m (pc + 3) ls (.double r :: rest))) : W p l e R s m args below meth c H locs cells slots Q (F0 m pc ls st0) := by
  intro T hT X
  rcases hr T hT X with ⟨v, st₀, t, T', L, h0, X', hL, e1, e2, ⟨⟨r, u, hv, hp, hb⟩, hF⟩, st⟩ | ⟨q, st₀, t, T', L, E, ce, h0, X', hL, e1, e2, ⟨u, hp, hb, hF⟩, hce, hcv, hcl, st⟩
  · cases hv
    obtain ⟨k1, k2, k3⟩ := vx_keep h0 e1 hS hA hf hL hF
    obtain ⟨t2, a1, b1⟩ := kk r u t T'.heap (locs ++ L) e1.symm (by rw [← e2]; exact X'.warmed.alike) hp hb k1 k2 k3 T' rfl X'
    exact ⟨t2, st t2 a1, b1⟩
  · obtain ⟨k1, k2, k3⟩ := vx_keep h0 e1 hS hAX hf hL hF
    obtain ⟨t2, a1, b1⟩ := kx E ce q u t T'.heap (locs ++ L) e1.symm (by rw [← e2]; exact X'.warmed.alike) hp hb k1 k2 k3 (by rw [e1]; exact hce) hcv hcl T' rfl X'
    exact ⟨t2, st.trans a1, b1⟩
theorem vx_callv {S SX : Type} {post : S → Prop} {px : SX → Prop} {B : S → State → Prop} {BX : String → SX → State → Prop} {AX : Nat → Prop} (hr : vx_Run p l e R s m args below meth c H locs cells slots mc ms (F0 m pc ls st0) rest (va_Qv post B A1 a) (vx_X px BX AX) free) (hS : va_S A0 H0 H locs) (hA : ∀ q, q < H.size → A1 q → A0 q) (hf : ∀ q, free q → A0 q) (hAX : ∀ q, q < H.size → AX q → A0 q)
    (kx : ∀ (E : String) (ce : Cell) (q9 : Addr) (u : SX) (t : State) (H1 : Heap) (locs1 : List Loc), t.heap = H1 → s.vm.Alike t.vm → px u → BX E u t → H.size ≤ H1.size → (∀ q : Nat, q < H.size → ¬ AX q → H1[q]? = H[q]?) → va_S A0 H0 H1 locs1 → H1[q9]? = some ce → ce.vm = .none → s.vm.findClass E = some ce.cls → vx_W p l e R s m args below meth c H1 locs1 (cells + mc) (slots + ms) Q (F0 m pc ls rest) q9)
    (kk : ∀ (u : S) (t : State) (H1 : Heap) (locs1 : List Loc), t.heap = H1 → s.vm.Alike t.vm → post u → B u t → H.size ≤ H1.size → (∀ q : Nat, q < H.size → ¬ A1 q → H1[q]? = H[q]?) → va_S A0 H0 H1 locs1 → W p l e R s m args below meth c H1 locs1 (cells + mc) (slots + ms) Q (F0 m (pc + 3) ls (rest))) : W p l e R s m args below meth c H locs cells slots Q (F0 m pc ls st0) := by
  intro T hT X
  rcases hr T hT X with ⟨v, st₀, t, T', L, h0, X', hL, e1, e2, ⟨⟨u, hv, hp, hb⟩, hF⟩, st⟩ | ⟨q, st₀, t, T', L, E, ce, h0, X', hL, e1, e2, ⟨u, hp, hb, hF⟩, hce, hcv, hcl, st⟩
  · cases hv
    obtain ⟨k1, k2, k3⟩ := vx_keep h0 e1 hS hA hf hL hF
    obtain ⟨t2, a1, b1⟩ := kk u t T'.heap (locs ++ L) e1.symm (by rw [← e2]; exact X'.warmed.alike) hp hb k1 k2 k3 T' rfl X'
    exact ⟨t2, st t2 a1, b1⟩
  · obtain ⟨k1, k2, k3⟩ := vx_keep h0 e1 hS hAX hf hL hF
    obtain ⟨t2, a1, b1⟩ := kx E ce q u t T'.heap (locs ++ L) e1.symm (by rw [← e2]; exact X'.warmed.alike) hp hb k1 k2 k3 (by rw [e1]; exact hce) hcv hcl T' rfl X'
    exact ⟨t2, st.trans a1, b1⟩
/-- caught by the row x of this method's table; the rows ahead don't take it -/
theorem vx_catch {own name : String} {E : String} {ce : Cell} {q : Addr} (hown : s.vm.findClass own = some m.cls) (pre : List ExceptionTableEntry) (x : ExceptionTableEntry) (suf : List ExceptionTableEntry) (hsplit : c.exceptionTable.toList = pre ++ x :: suf)
    (hpass : ∀ z ∈ pre, covers z pc = false ∨ (z.catchType ≠ 0 ∧ ∃ nm : String, (Cond.classLink own z.catchType nm).before args s = true ∧ va_Nc E nm s)) (hx : covers x pc = true) (h0 : x.catchType ≠ 0)
    (hlink : (Cond.classLink own x.catchType name).before args s = true) (hcast : (Cond.castable E name).before args s = true) (hcell : H[q]? = some ce) (hv : ce.vm = .none) (hcl : s.vm.findClass E = some ce.cls)
    (kk : W p l e R s m args below meth c H locs cells slots Q (F0 m x.handlerPc ls [.ref q])) : vx_W p l e R s m args below meth c H locs cells slots Q (F0 m pc ls rest) q := by
  intro T hT X
  have hpl : e.platform.magicAccessors = ({} : Platform).magicAccessors := by rw [X.admits.platform]
  obtain ⟨c3, c4, hc3, hc4, hasg⟩ := Cond.castable_spec hcast
  cases Option.some.inj (hc3.symm.trans hcl)
  obtain ⟨c5, hc5, hcl5⟩ := Cond.classLink_spec hown hlink e.platform hpl
  cases Option.some.inj (hc4.symm.trans hc5)
  obtain ⟨vm', X', st⟩ := X.thenCaughtThrough q (g := F0 m pc ls rest) rfl (Steps.refl _) (by rw [hT]; exact hcell) (by rw [hv]; rfl) (by obtain ⟨k9, h9, -⟩ := Vm.findClass_spec hcl; exact ⟨k9, h9⟩) pre x suf hsplit
    (fun z hz => by
      rcases hpass z hz with h | ⟨hz0, nm, hl1, hn1⟩
      · exact Or.inl h
      · obtain ⟨c6, hc6, hcl6⟩ := Cond.classLink_spec hown hl1 e.platform hpl
        obtain ⟨a8, b8, h1, h2, h3⟩ := hn1
        cases Option.some.inj (h1.symm.trans hcl)
        cases Option.some.inj (h2.symm.trans hc6)
        exact Or.inr ⟨hz0, _, hcl6, h3⟩) hx (Or.inr ⟨h0, c4, hcl5, hasg⟩)
  obtain ⟨t, a1, b1⟩ := kk (T.setVm vm') hT X'
  exact ⟨t, st.trans a1, b1⟩
end Rows
section Ends
variable {p : Program} {l : Launch} {e : Env} {R : Room} {s : State} {m : MethodId} {args : Array Value} {below : List Frame} {meth : Method} {c : Code} {H : Heap} {locs : List Loc} {cells slots : Nat} {Q : State → Prop}
variable {mc ms : Nat} {free : Addr → Prop} {A0 A1 : Nat → Prop} {H0 : Heap} {a : Array Value} {ls : Array Slot} {st0 rest : List Value}
variable {Qc : Array Value → State → Outcome → State → Prop} {XC : String → State → State → Prop}
/-- what a body that may throw owes at its end -/
def vx_MQ (below : List Frame) (Qc : Array Value → State → Outcome → State → Prop) (XC : String → State → State → Prop) (a : Array Value) (s : State) (mc ms : Nat) (free : Addr → Prop) : State → Prop := fun t =>
  ∃ o, t.status = .running ∧ Ended t below o ∧ vx_Q Qc XC mc ms free a s o t
theorem vx_ret {g : JFrame} {mc ms : Nat} (k : W p l e R s m args below meth c H locs cells slots (MQ below Qc args s mc ms free) g) : W p l e R s m args below meth c H locs cells slots (vx_MQ below Qc XC args s mc ms free) g := by
  intro T hT X
  obtain ⟨t, a1, o, b1, b2, b3, b4⟩ := k T hT X
  exact ⟨t, a1, o, b1, b2, Or.inl ⟨b3, b4⟩⟩
/-- not caught here: it goes on to the caller -/
theorem vx_widen {g : JFrame} {q : Addr} {k n : Nat} (h1 : cells ≤ k) (h2 : slots ≤ n) (kk : vx_W p l e R s m args below meth c H locs k n Q g q) : vx_W p l e R s m args below meth c H locs cells slots Q g q := fun T hT X => kk T hT (stand_widen X h1 h2)
theorem vx_out {pc : Nat} {E : String} {ce : Cell} {q : Addr} {mc ms : Nat} (hout : ∀ x ∈ c.exceptionTable.toList, covers x pc = false) (hlocks : meth.locks = false) (hcell : H[q]? = some ce) (hv : ce.vm = .none) (hcl : s.vm.findClass E = some ce.cls)
    (hx : ∀ t : State, t.heap = H → s.vm.Alike t.vm → XC E s t) (hf : ∀ z ∈ locs, free z.base) (hc : cells ≤ mc) (hs : slots ≤ ms) :
    vx_W p l e R s m args below meth c H locs cells slots (vx_MQ below Qc XC args s mc ms free) (F0 m pc ls rest) q := by
  intro T hT X
  obtain ⟨st1, hrun, hend, hW, hsm⟩ := X.leaveThrown q (g := F0 m pc ls rest) rfl rfl rfl hout hlocks
  have hcell9 : (T.setFrames (.throwing q :: below)).heap[q]? = some ce := by
    show T.heap[q]? = some ce
    rw [hT]; exact hcell
  exact ⟨_, st1, .threw q, hrun, hend, Or.inr ⟨q, rfl, E, ce, locs, hx _ hT hW.alike, hcell9, hv, hcl, hW, hsm.mono hc hs, hf⟩⟩
theorem vx_frame {U : State} {k n : Nat} (h : s.sameButNew ({ U with vm := s.vm } : State) locs k n) : s.heap.size ≤ U.heap.size ∧ ∀ q : Nat, q < s.heap.size → (∀ z ∈ locs, z.base ≠ q) → U.heap[q]? = s.heap[q]? := by
  obtain ⟨-, h2, -, -, -, h6⟩ := h
  refine ⟨h2, fun q hq hz => ?_⟩
  obtain ⟨c9, e1, e2, e3, e4⟩ := h6 q _ (Array.getElem?_eq_getElem hq)
  have hs : c9.slots = (s.heap[q]).slots := Array.ext_getElem? fun i => e4 i fun hm => hz _ hm rfl
  have h9 : c9 = s.heap[q] := by
    rw [hs] at e2
    exact e2
  have e5 : U.heap[q]? = some c9 := e1
  rw [e5, h9, Array.getElem?_eq_getElem hq]
/-- the words of a throw but the four that speak of the heap -/
def vx_no (w : Cond) : Bool := decide (w ≠ .isRef (.static Bundle.tN "UNASSIGNED_STACK" Bundle.steD)) && decide (w ≠ .isRef (.static Bundle.tN "SUPPRESSED_SENTINEL" Bundle.listD)) && decide (w ≠ .laysStatic Bundle.tN "UNASSIGNED_STACK" Bundle.steD) && decide (w ≠ .laysStatic Bundle.tN "SUPPRESSED_SENTINEL" Bundle.listD)
def vx_at0 (own : String) (ic : Nat) (X : String) (names : List String) : List Cond := (Bundle.ownAtoms0 own ic X names).filter vx_no
def vx_atS (own : String) (ic : Nat) (X : String) (names : List String) : List Cond := (Bundle.ownAtoms own ic X names).filter vx_no
/-- a word that the tables alone decide, or a good one -/
def vx_ot (w : Cond) : Bool := w.onTables || goodWord w
theorem vx_ot_at {args a' : Array Value} {s U : State} {w : Cond} (hW : s.WarmedH U.vm) (hvm : s.vm = U.vm) (hg : vx_ot w = true) (h : w.before args s = true) : w.before a' U = true := by
  simp only [vx_ot, Bool.or_eq_true] at hg
  rcases hg with hg | hg
  · exact va_tabs hg hvm h
  · exact word_at hW (good_of_word hg) h
/-- a list's words: the good ones out of the method's own list, the others by premises of their own -/
theorem vx_hat {args : Array Value} {s : State} {L B : List Cond} (h1 : ∀ w ∈ L.filter goodWord, w.before args s = true) (h2 : ∀ w ∈ L.filter (fun w => !goodWord w), w ∈ B) (h3 : ∀ w ∈ B, w.before args s = true) : ∀ w ∈ L, w.before args s = true := by
  intro w hw
  by_cases g : goodWord w = true
  · exact h1 w (List.mem_filter.mpr ⟨hw, g⟩)
  · refine h3 w (h2 w (List.mem_filter.mpr ⟨hw, ?_⟩))
    show (!goodWord w) = true
    cases hgw : goodWord w
    · rfl
    · exact absurd hgw g
theorem vx_c {args : Array Value} {s : State} {w : Cond} {B : List Cond} (h : w.before args s = true) (t : ∀ w ∈ B, w.before args s = true) : ∀ w' ∈ w :: B, w'.before args s = true := fun w' h' => (List.mem_cons.mp h').elim (fun e => by rw [e]; exact h) (t w')
theorem vx_n {args : Array Value} {s : State} : ∀ w ∈ ([] : List Cond), w.before args s = true := fun _ h => nomatch h
theorem vx_own {args : Array Value} {s : State} {L : List Cond} (h1 : ∀ w ∈ L.filter vx_no, w.before args s = true)
    (hU : (Cond.isRef (.static Bundle.tN "UNASSIGNED_STACK" Bundle.steD)).before args s = true) (hN : (Cond.isRef (.static Bundle.tN "SUPPRESSED_SENTINEL" Bundle.listD)).before args s = true)
    (lU : (Cond.laysStatic Bundle.tN "UNASSIGNED_STACK" Bundle.steD).before args s = true) (lN : (Cond.laysStatic Bundle.tN "SUPPRESSED_SENTINEL" Bundle.listD).before args s = true) : ∀ w ∈ L, w.before args s = true := by
  intro w hw
  by_cases e1 : w = .isRef (.static Bundle.tN "UNASSIGNED_STACK" Bundle.steD)
  · rw [e1]; exact hU
  · by_cases e2 : w = .isRef (.static Bundle.tN "SUPPRESSED_SENTINEL" Bundle.listD)
    · rw [e2]; exact hN
    · by_cases e3 : w = .laysStatic Bundle.tN "UNASSIGNED_STACK" Bundle.steD
      · rw [e3]; exact lU
      · by_cases e4 : w = .laysStatic Bundle.tN "SUPPRESSED_SENTINEL" Bundle.listD
        · rw [e4]; exact lN
        · exact h1 w (List.mem_filter.mpr ⟨hw, by unfold vx_no; rw [decide_eq_true e1, decide_eq_true e2, decide_eq_true e3, decide_eq_true e4]; rfl⟩)
/-- where a static field lies, its class's statics cell in H -/
def vx_L (C n d : String) (A : Nat → Prop) (U : State) (H : Heap) : Prop := ∃ (c : ClassId) (k : Class) (i : Nat) (f : Field) (a : Nat) (cell : Cell), U.vm.findClass C = some c ∧ U.fieldFound? C n d = some (c, k, i, f) ∧ f.isStatic = true ∧ k.statics = some a ∧ H[a]? = some cell ∧ cell.vm.isStatics = true ∧ cell.cls = c ∧ f.slot < cell.slots.size ∧ k.staticTypes[f.slot]? = some f.type ∧ ¬ A a
theorem vx_L.moved {C n d : String} {A : Nat → Prop} {u U : State} {H : Heap} (hvm : u.vm.Alike U.vm) (h : vx_L C n d A u H) : vx_L C n d A U H := by
  obtain ⟨c, k, i, f, a, cell, h1, h2, h3, h4, h5, h6, h7, h8, h9, h10⟩ := h
  obtain ⟨k', hi', he⟩ := State.fieldFound?_setVm hvm h2
  exact ⟨c, k', i, f, a, cell, by rw [hvm.findClass]; exact h1, hi', h3, by rw [he]; exact h4, h5, h6, h7, h8, by rw [he]; exact h9, h10⟩
theorem vx_L.kept {C n d : String} {A : Nat → Prop} {U : State} {H H1 : Heap} (h : vx_L C n d A U H) (hq : ∀ a : Nat, a < H.size → ¬ A a → H1[a]? = H[a]?) : vx_L C n d A U H1 := by
  obtain ⟨c, k, i, f, a, cell, h1, h2, h3, h4, h5, h6, h7, h8, h9, h10⟩ := h
  exact ⟨c, k, i, f, a, cell, h1, h2, h3, h4, by rw [hq a (Array.getElem?_eq_some_iff.mp h5).1 h10]; exact h5, h6, h7, h8, h9, h10⟩
theorem vx_L.narrow {C n d : String} {A B : Nat → Prop} {U : State} {H : Heap} (h : vx_L C n d A U H) (hAB : ∀ q, B q → A q) : vx_L C n d B U H := by
  obtain ⟨c, k, i, f, a, cell, h1, h2, h3, h4, h5, h6, h7, h8, h9, h10⟩ := h
  exact ⟨c, k, i, f, a, cell, h1, h2, h3, h4, h5, h6, h7, h8, h9, fun z => h10 (hAB _ z)⟩
theorem vx_L.word {C n d : String} {A : Nat → Prop} {s : State} {args : Array Value} (h : vx_L C n d A s s.heap) : (Cond.laysStatic C n d).before args s = true := by
  obtain ⟨c, k, i, f, a, cell, h1, h2, h3, h4, h5, h6, h7, h8, h9, -⟩ := h
  show (Cond.laysStatic C n d).holds args s none s [] = true
  exact Cond.laysStatic_of h1 h2 h3 h4 h5 h6 h7 h8 h9
/-- .. and what it holds: null or some reference -/
def vx_Zq (C n d : String) (A : Nat → Prop) (U : State) (H : Heap) : Prop := va_Zq C n d A U H ∧ vx_L C n d A U H
theorem vx_Zq.moved {C n d : String} {A : Nat → Prop} {u U : State} {H : Heap} (hvm : u.vm.Alike U.vm) (h : vx_Zq C n d A u H) : vx_Zq C n d A U H := ⟨va_Zq.moved hvm h.1, vx_L.moved hvm h.2⟩
theorem vx_Zq.kept {C n d : String} {A : Nat → Prop} {U : State} {H H1 : Heap} (h : vx_Zq C n d A U H) (hq : ∀ a : Nat, a < H.size → ¬ A a → H1[a]? = H[a]?) : vx_Zq C n d A U H1 := ⟨va_Zq.kept h.1 hq, vx_L.kept h.2 hq⟩
theorem vx_Zq.narrow {C n d : String} {A B : Nat → Prop} {U : State} {H : Heap} (h : vx_Zq C n d A U H) (hAB : ∀ q, B q → A q) : vx_Zq C n d B U H := ⟨va_Zq.narrow h.1 hAB, vx_L.narrow h.2 hAB⟩
theorem vx_Zqof {args : Array Value} {s : State} {C n d : String} {A : Nat → Prop} (hl : (Cond.laysStatic C n d).before args s = true) (hini : (Cond.initialized C).before args s = true) (h : (Cond.isRef (.static C n d)).before args s = true) (hA : ∀ a : Nat, a < s.heap.size → ¬ A a) : vx_Zq C n d A s s.heap := by
  refine ⟨va_Zqof hl hini h hA, ?_⟩
  obtain ⟨c, k, i, f, a, cell, h1, h2, h3, h4, h5, h6, h7, h8, h9⟩ := Cond.laysStatic_spec hl
  exact ⟨c, k, i, f, a, cell, h1, h2, h3, h4, h5, h6, h7, h8, h9, hA a (Array.getElem?_eq_some_iff.mp h5).1⟩
theorem vx_isRef {C n d : String} {v : Value} {A : Nat → Prop} {s : State} {args : Array Value} (h : va_Z C n d v A s s.heap) (hv : v.isRef = true) : (Cond.isRef (.static C n d)).before args s = true := by
  obtain ⟨cf, kf, fi, f, a, cell, h1, h2, h3, h4, h5, h6, h7, -⟩ := h
  have he : (Term.static C n d).eval args s none [] s = some v := by
    simp [Term.eval, State.fieldNamed?, h1, h2, h4, h5, h6, h7]
  simp only [Cond.before, Cond.holds, Cond.value, he]
  cases v <;> simp_all [Value.isRef]
theorem vx_isRefq {C n d : String} {A : Nat → Prop} {s : State} {args : Array Value} (h : va_Zq C n d A s s.heap) : (Cond.isRef (.static C n d)).before args s = true := by
  rcases h with h | ⟨t, h⟩
  · exact vx_isRef h rfl
  · exact vx_isRef h rfl
/-- the same frame, seen from here: as if the method were called anew in this heap -/
theorem vx_rebase {T : State} (X : Stand p l e R s m args below meth c T locs cells slots) {R' : Room} (hf : R'.frames ≤ R.frames) (hl : R'.locals ≤ R.locals) (hc : cells + R'.cells ≤ R.cells) (hs : slots + R'.slots ≤ R.slots) :
    Stand p l e R' ((T.setVm s.vm).setFrames (.invoking m args :: below)) m args below meth c T [] 0 0 := by
  have htop : (T.setVm s.vm).topJava?.isSome := X.here.top
  have hF : ((T.setVm s.vm).setFrames (.invoking m args :: below)).frames = .invoking m args :: below := State.frames_setFrames _ (State.cur_lt_of_top htop)
  obtain ⟨g₀, hg0⟩ := Option.isSome_iff_exists.mp htop
  obtain ⟨r, hr⟩ := State.topJava?_eq_some.mp hg0
  have hl9 : e.platform.stackLimits (T.setVm s.vm).me = e.platform.stackLimits s.me := X.limits
  have hb9 : (T.setVm s.vm).me.stackBytes = s.me.stackBytes := X.bytes
  refine ⟨X.admits, X.cas, X.clock, hF, ?_, X.hears, X.method, X.code, X.here, X.tail, X.warmed, ?_, ?_, ?_⟩
  · have h := X.room
    have hU : ((T.setVm s.vm).setFrames (.invoking m args :: below)).localsInUse = s.localsInUse := by
      rw [State.localsInUse_invoking hF (meth := meth) (c := c) X.method X.code, State.localsInUse_invoking X.frames X.method X.code]
    simp only [State.hasRoom, Bool.and_eq_true, decide_eq_true_eq] at h ⊢
    obtain ⟨⟨⟨⟨h1, h2, h3, h4, h5, h6⟩, h7⟩, h8⟩, h9⟩ := h
    rw [X.frames, List.length_cons] at h2 h3
    have q1 := X.heapSize
    have q2 := X.used
    simp only [hF, hU, List.length_cons, State.stackLimits_setFrames, State.stackBytes_setFrames, hl9, hb9]
    refine ⟨⟨⟨⟨by omega, by omega, by omega, by omega, by omega, h6⟩, ?_⟩, ?_⟩, X.book⟩
    · show T.heap.size + R'.cells ≤ e.platform.maxCells
      omega
    · show T.slotsUsed + R'.slots ≤ e.platform.maxSlots
      omega
  · rw [State.stackLimits_setFrames]; rfl
  · rw [State.stackBytes_setFrames]; rfl
  · refine ⟨?_, Nat.le_refl _, Nat.le_refl _, ?_, ?_, fun a c9 h9 => ⟨c9, h9, rfl, rfl, fun _ _ => rfl⟩⟩
    · obtain ⟨t, ht, -⟩ := State.frames_cons hr
      show T.setVm s.vm = { ((T.setVm s.vm).setFrames (.invoking m args :: below)).setFrames (T.setVm s.vm).frames with heap := T.heap, slotsUsed := T.slotsUsed }
      rw [State.setFrames_setFrames, State.setFrames_self ht]
      rfl
    · show T.slotsUsed = T.slotsUsed + ((T.heap.toList.drop T.heap.size).map (·.slots.size)).sum
      rw [List.drop_eq_nil_of_le (Nat.le_of_eq Array.length_toList)]
      rfl
    · show ((T.heap.toList.drop T.heap.size).map (·.slots.size)).sum ≤ 0
      rw [List.drop_eq_nil_of_le (Nat.le_of_eq Array.length_toList)]
      exact Nat.le_refl _
/-- 'throw new E()': new; dup; invokespecial; athrow -/
theorem vx_throw0 {cc : ByteArray} {pc : Nat} (hexec : p.tables.exec = Jvm.exec) (hb : c.code = cc) (hl : l.stackTraces = false) {own cls : String} {names : List String} {ik ic mc ms : Nat} {A : Nat → Prop}
    (hown : s.vm.findClass own = some m.cls) (hcls : Bundle.fit cls = true) (hnames : ∀ n ∈ names, Bundle.fit n = true)
    (hk : (Cond.classLink own ik cls).before args s = true) (hini : (Cond.initialized cls).before args s = true) (hat : ∀ w ∈ vx_at0 own ic cls names, w.before args s = true)
    (hgood : ∀ w ∈ Cond.classLink own ik cls :: Cond.initialized cls :: vx_at0 own ic cls names, vx_ot w = true)
    (hU : vx_Zq Bundle.tN "UNASSIGNED_STACK" Bundle.steD A s s.heap) (hN : vx_Zq Bundle.tN "SUPPRESSED_SENTINEL" Bundle.listD A s s.heap) (hS : va_S A s.heap H locs) (hsize : ls.size = c.maxLocals)
    (d0 : decode cc pc = .ok (.new ik, 3)) (d3 : decode cc (pc + 3) = .ok (.dup, 1)) (d4 : decode cc (pc + 4) = .ok (.invokespecial ic, 3)) (d7 : decode cc (pc + 7) = .ok (.athrow, 1))
    (hout : ∀ x ∈ c.exceptionTable.toList, covers x (pc + 7) = false)
    (hRframes : names.length + 3 < R.frames) (hRlocals : (rest.map fun v => v.category).sum + (13 * (names.length + 1) + 42) ≤ R.locals) (hRcells : cells + 1 ≤ R.cells) (hRslots : slots + 6 ≤ R.slots) (hlocks : meth.locks = false)
    (hx : ∀ t : State, s.vm.Alike t.vm → H.size ≤ t.heap.size → (∀ q : Nat, q < H.size → t.heap[q]? = H[q]?) → XC cls s t)
    (hf : ∀ z ∈ locs, free z.base) (hc : cells + 1 ≤ mc) (hs : slots + 6 ≤ ms) :
    W p l e R s m args below meth c H locs cells slots (vx_MQ below Qc XC args s mc ms free) (F0 m pc ls rest) := by
  intro T hT X
  have htr : e.platform.stackTraces = false := (show e.platform.stackTraces = l.stackTraces by rw [X.admits.platform]).trans hl
  have Y := vx_rebase X (R' := { frames := R.frames, locals := R.locals, cells := 1, slots := 6 }) (Nat.le_refl _) (Nat.le_refl _) hRcells hRslots
  obtain ⟨s', hA⟩ : ∃ z, z = (T.setVm s.vm).setFrames (.invoking m args :: below) := ⟨_, rfl⟩
  rw [← hA] at Y
  have hvm : s'.vm = s.vm := by rw [hA]; rfl
  have hhp : s'.heap = H := by rw [hA]; exact hT
  have hW0 : s.WarmedH s'.vm := by rw [hvm]; exact State.WarmedH.refl s
  have hat' : ∀ w ∈ vx_at0 own ic cls names, w.before args s' = true := fun w hw => vx_ot_at hW0 hvm.symm (hgood w (List.mem_cons_of_mem _ (List.mem_cons_of_mem _ hw))) (hat w hw)
  have hk' : (Cond.classLink own ik cls).before args s' = true := vx_ot_at hW0 hvm.symm (hgood _ List.mem_cons_self) hk
  have hini' : (Cond.initialized cls).before args s' = true := vx_ot_at hW0 hvm.symm (hgood _ (List.mem_cons_of_mem _ List.mem_cons_self)) hini
  have hU' : vx_Zq Bundle.tN "UNASSIGNED_STACK" Bundle.steD A s' s'.heap := by rw [hhp]; exact vx_Zq.moved hW0.alike (hU.kept hS.2.1)
  have hN' : vx_Zq Bundle.tN "SUPPRESSED_SENTINEL" Bundle.listD A s' s'.heap := by rw [hhp]; exact vx_Zq.moved hW0.alike (hN.kept hS.2.1)
  have h : ∀ w ∈ Bundle.ownAtoms0 own ic cls names, w.before args s' = true := vx_own hat' (vx_isRefq hU'.1) (vx_isRefq hN'.1) hU'.2.word hN'.2.word
  have hown' : s'.vm.findClass own = some m.cls := by rw [hvm]; exact hown
  have hins : (Cond.instantiable cls 6).before args s' = true := h _ (by simp [Bundle.ownAtoms0])
  obtain ⟨vm₁, cX, kX, hfX, hkX, -, -, X₁, st1⟩ := Y.newCold hexec (own := own) (C := cls) (index := ik) (n := 6) hown' hk' hins hini'
    (g := F0 m pc ls rest) rfl (by rw [hb]; exact d0) (Nat.le_refl _) (Nat.le_refl _)
  generalize hT1 : (T.setVm vm₁).pushCell { cls := cX, slots := kX.instanceTypes.map defaultValue, vm := .none } = T1 at X₁ st1
  have hcat : (Value.ref T.heap.size).category = 1 := rfl
  have hcellA : T1.heap[T.heap.size]? = some (freshCell cX kX) := by rw [← hT1]; exact State.heap_pushCell_size _ _
  have d3' : decode c.code (pc + 3) = .ok (.dup, 1) := by rw [hb]; exact d3
  obtain ⟨U, hsteps, hrun, hend, hW, hsame, ce, hce, hO⟩ := X₁.ctorThrow0 hexec htr (own := own) (cls := cls) (names := names) (ic := ic) hown' hcls hnames h (fun x hx => nomatch hx) hfX hkX hcellA (by rw [hhp, hT]; exact Nat.le_refl _)
    (g := { method := m, pc := pc + 4, locals := ls, stack := .ref T.heap.size :: .ref T.heap.size :: rest, locked := none }) rfl hsize rfl rfl (rest := rest) rfl
    (by rw [hb]; exact d4) (by rw [hb]; exact d7) hout hRframes (by simp only [List.map_cons, List.sum_cons, hcat]; omega) hlocks
  obtain ⟨f1, f2⟩ := vx_frame hsame
  rw [hhp] at f1 f2
  have hWs : s.WarmedH U.vm := State.WarmedH.trans hW0 hW
  have hcl : s.vm.findClass cls = some ce.cls := by
    have h9 := hO.cls
    rw [hvm] at h9
    exact h9
  have hall : s.sameButNew ({ U with vm := s.vm } : State) locs mc ms := by
    subst hA
    obtain ⟨e1, e2⟩ := hsame
    rw [State.setFrames_setFrames] at e1
    have h2 : (T.setVm s.vm).sameButNew ({ U with vm := s.vm } : State) [] (0 + 1) (0 + 6) := ⟨e1, e2⟩
    have h3 := X.same.trans h2
    rw [List.append_nil] at h3
    exact h3.mono hc hs
  refine ⟨U, ?_, .threw T.heap.size, hrun, hend, Or.inr ⟨T.heap.size, rfl, cls, ce, locs, hx U hWs.alike f1 (fun q hq => f2 q hq (fun z hz => nomatch hz)), hce, hO.vm, hcl, hWs, hall, hf⟩⟩
  refine st1 _ ?_
  show Steps p.tables e below (T1.setTop { method := m, pc := pc + 3, locals := ls, stack := .ref T.heap.size :: rest, locked := none }) _
  jvm_step X₁.here [X₁.here.top, hexec, d3', Value.category]
  exact hsteps
/-- 'throw new E("text")': new; dup; ldc; invokespecial; athrow -/
theorem vx_throwS {cc : ByteArray} {pc : Nat} (hexec : p.tables.exec = Jvm.exec) (hb : c.code = cc) (hl : l.stackTraces = false) {own cls text : String} {names : List String} {ik is ic mc ms sa : Nat} {A : Nat → Prop}
    (hown : s.vm.findClass own = some m.cls) (hcls : Bundle.fit cls = true) (hnames : ∀ n ∈ names, Bundle.fit n = true)
    (hk : (Cond.classLink own ik cls).before args s = true) (hini : (Cond.initialized cls).before args s = true) (hstr : vk_R own is text sa s) (hat : ∀ w ∈ vx_atS own ic cls names, w.before args s = true)
    (hgood : ∀ w ∈ Cond.classLink own ik cls :: Cond.initialized cls :: vx_atS own ic cls names, vx_ot w = true)
    (hU : vx_Zq Bundle.tN "UNASSIGNED_STACK" Bundle.steD A s s.heap) (hN : vx_Zq Bundle.tN "SUPPRESSED_SENTINEL" Bundle.listD A s s.heap) (hS : va_S A s.heap H locs) (hsize : ls.size = c.maxLocals)
    (d0 : decode cc pc = .ok (.new ik, 3)) (d3 : decode cc (pc + 3) = .ok (.dup, 1)) (d4 : decode cc (pc + 4) = .ok (.ldc is, 2)) (d6 : decode cc (pc + 6) = .ok (.invokespecial ic, 3)) (d9 : decode cc (pc + 9) = .ok (.athrow, 1))
    (hout : ∀ x ∈ c.exceptionTable.toList, covers x (pc + 9) = false)
    (hRframes : names.length + 3 < R.frames) (hRlocals : (rest.map fun v => v.category).sum + (13 * (names.length + 1) + 43) ≤ R.locals) (hRcells : cells + 1 ≤ R.cells) (hRslots : slots + 6 ≤ R.slots) (hlocks : meth.locks = false)
    (hx : ∀ t : State, s.vm.Alike t.vm → H.size ≤ t.heap.size → (∀ q : Nat, q < H.size → t.heap[q]? = H[q]?) → XC cls s t)
    (hf : ∀ z ∈ locs, free z.base) (hc : cells + 1 ≤ mc) (hs : slots + 6 ≤ ms) :
    W p l e R s m args below meth c H locs cells slots (vx_MQ below Qc XC args s mc ms free) (F0 m pc ls rest) := by
  intro T hT X
  have htr : e.platform.stackTraces = false := (show e.platform.stackTraces = l.stackTraces by rw [X.admits.platform]).trans hl
  have Y := vx_rebase X (R' := { frames := R.frames, locals := R.locals, cells := 1, slots := 6 }) (Nat.le_refl _) (Nat.le_refl _) hRcells hRslots
  obtain ⟨s', hA⟩ : ∃ z, z = (T.setVm s.vm).setFrames (.invoking m args :: below) := ⟨_, rfl⟩
  rw [← hA] at Y
  have hvm : s'.vm = s.vm := by rw [hA]; rfl
  have hhp : s'.heap = H := by rw [hA]; exact hT
  have hW0 : s.WarmedH s'.vm := by rw [hvm]; exact State.WarmedH.refl s
  have hat' : ∀ w ∈ vx_atS own ic cls names, w.before args s' = true := fun w hw => vx_ot_at hW0 hvm.symm (hgood w (List.mem_cons_of_mem _ (List.mem_cons_of_mem _ hw))) (hat w hw)
  have hk' : (Cond.classLink own ik cls).before args s' = true := vx_ot_at hW0 hvm.symm (hgood _ List.mem_cons_self) hk
  have hini' : (Cond.initialized cls).before args s' = true := vx_ot_at hW0 hvm.symm (hgood _ (List.mem_cons_of_mem _ List.mem_cons_self)) hini
  have hU' : vx_Zq Bundle.tN "UNASSIGNED_STACK" Bundle.steD A s' s'.heap := by rw [hhp]; exact vx_Zq.moved hW0.alike (hU.kept hS.2.1)
  have hN' : vx_Zq Bundle.tN "SUPPRESSED_SENTINEL" Bundle.listD A s' s'.heap := by rw [hhp]; exact vx_Zq.moved hW0.alike (hN.kept hS.2.1)
  have h : ∀ w ∈ Bundle.ownAtoms own ic cls names, w.before args s' = true := vx_own hat' (vx_isRefq hU'.1) (vx_isRefq hN'.1) hU'.2.word hN'.2.word
  have hown' : s'.vm.findClass own = some m.cls := by rw [hvm]; exact hown
  have hins : (Cond.instantiable cls 6).before args s' = true := h _ (by simp [Bundle.ownAtoms])
  obtain ⟨vm₁, cX, kX, hfX, hkX, -, -, X₁, st1⟩ := Y.newCold hexec (own := own) (C := cls) (index := ik) (n := 6) hown' hk' hins hini'
    (g := F0 m pc ls rest) rfl (by rw [hb]; exact d0) (Nat.le_refl _) (Nat.le_refl _)
  generalize hT1 : (T.setVm vm₁).pushCell { cls := cX, slots := kX.instanceTypes.map defaultValue, vm := .none } = T1 at X₁ st1
  have hcat : (Value.ref T.heap.size).category = 1 := rfl
  have hcellA : T1.heap[T.heap.size]? = some (freshCell cX kX) := by rw [← hT1]; exact State.heap_pushCell_size _ _
  have d3' : decode c.code (pc + 3) = .ok (.dup, 1) := by rw [hb]; exact d3
  have d4' : decode c.code (pc + 4) = .ok (.ldc is, 2) := by rw [hb]; exact d4
  have hstr' : vk_R own is text sa s' := vk_R.warm hW0 hstr
  obtain ⟨U, hsteps, hrun, hend, hW, hsame, ce, hce, hO⟩ := X₁.ctorThrowS hexec htr (own := own) (cls := cls) (names := names) (ic := ic) hown' hcls hnames h (fun x hx => nomatch hx) hfX hkX hcellA (by rw [hhp, hT]; exact Nat.le_refl _) (msg := .ref sa) rfl
    (g := { method := m, pc := pc + 6, locals := ls, stack := .ref sa :: .ref T.heap.size :: .ref T.heap.size :: rest, locked := none }) rfl hsize rfl rfl (rest := rest) rfl
    (by rw [hb]; exact d6) (by rw [hb]; exact d9) hout hRframes (by simp only [List.map_cons, List.sum_cons, hcat]; omega) hlocks
  obtain ⟨f1, f2⟩ := vx_frame hsame
  rw [hhp] at f1 f2
  have hWs : s.WarmedH U.vm := State.WarmedH.trans hW0 hW
  have hcl : s.vm.findClass cls = some ce.cls := by
    have h9 := hO.cls
    rw [hvm] at h9
    exact h9
  have hall : s.sameButNew ({ U with vm := s.vm } : State) locs mc ms := by
    subst hA
    obtain ⟨e1, e2⟩ := hsame
    rw [State.setFrames_setFrames] at e1
    have h2 : (T.setVm s.vm).sameButNew ({ U with vm := s.vm } : State) [] (0 + 1) (0 + 6) := ⟨e1, e2⟩
    have h3 := X.same.trans h2
    rw [List.append_nil] at h3
    exact h3.mono hc hs
  refine ⟨U, ?_, .threw T.heap.size, hrun, hend, Or.inr ⟨T.heap.size, rfl, cls, ce, locs, hx U hWs.alike f1 (fun q hq => f2 q hq (fun z hz => nomatch hz)), hce, hO.vm, hcl, hWs, hall, hf⟩⟩
  refine st1 _ ?_
  show Steps p.tables e below (T1.setTop { method := m, pc := pc + 3, locals := ls, stack := .ref T.heap.size :: rest, locked := none }) _
  jvm_step X₁.here [X₁.here.top, hexec, d3', Value.category]
  exact X₁.ldcString hexec (own := own) (text := text) (index := is) (a := sa) hown' hstr'.1 hstr'.2
    (g := { method := m, pc := pc + 4, locals := ls, stack := .ref T.heap.size :: .ref T.heap.size :: rest, locked := none }) rfl d4' _ hsteps
/-- 'throw new E("text")', the text by a wide index -/
theorem vx_throwSW {cc : ByteArray} {pc : Nat} (hexec : p.tables.exec = Jvm.exec) (hb : c.code = cc) (hl : l.stackTraces = false) {own cls text : String} {names : List String} {ik is ic mc ms sa : Nat} {A : Nat → Prop}
    (hown : s.vm.findClass own = some m.cls) (hcls : Bundle.fit cls = true) (hnames : ∀ n ∈ names, Bundle.fit n = true)
    (hk : (Cond.classLink own ik cls).before args s = true) (hini : (Cond.initialized cls).before args s = true) (hstr : vk_R own is text sa s) (hat : ∀ w ∈ vx_atS own ic cls names, w.before args s = true)
    (hgood : ∀ w ∈ Cond.classLink own ik cls :: Cond.initialized cls :: vx_atS own ic cls names, vx_ot w = true)
    (hU : vx_Zq Bundle.tN "UNASSIGNED_STACK" Bundle.steD A s s.heap) (hN : vx_Zq Bundle.tN "SUPPRESSED_SENTINEL" Bundle.listD A s s.heap) (hS : va_S A s.heap H locs) (hsize : ls.size = c.maxLocals)
    (d0 : decode cc pc = .ok (.new ik, 3)) (d3 : decode cc (pc + 3) = .ok (.dup, 1)) (d4 : decode cc (pc + 4) = .ok (.ldc_w is, 3)) (d7 : decode cc (pc + 7) = .ok (.invokespecial ic, 3)) (d10 : decode cc (pc + 10) = .ok (.athrow, 1))
    (hout : ∀ x ∈ c.exceptionTable.toList, covers x (pc + 10) = false)
    (hRframes : names.length + 3 < R.frames) (hRlocals : (rest.map fun v => v.category).sum + (13 * (names.length + 1) + 43) ≤ R.locals) (hRcells : cells + 1 ≤ R.cells) (hRslots : slots + 6 ≤ R.slots) (hlocks : meth.locks = false)
    (hx : ∀ t : State, s.vm.Alike t.vm → H.size ≤ t.heap.size → (∀ q : Nat, q < H.size → t.heap[q]? = H[q]?) → XC cls s t)
    (hf : ∀ z ∈ locs, free z.base) (hc : cells + 1 ≤ mc) (hs : slots + 6 ≤ ms) :
    W p l e R s m args below meth c H locs cells slots (vx_MQ below Qc XC args s mc ms free) (F0 m pc ls rest) := by
  intro T hT X
  have htr : e.platform.stackTraces = false := (show e.platform.stackTraces = l.stackTraces by rw [X.admits.platform]).trans hl
  have Y := vx_rebase X (R' := { frames := R.frames, locals := R.locals, cells := 1, slots := 6 }) (Nat.le_refl _) (Nat.le_refl _) hRcells hRslots
  obtain ⟨s', hA⟩ : ∃ z, z = (T.setVm s.vm).setFrames (.invoking m args :: below) := ⟨_, rfl⟩
  rw [← hA] at Y
  have hvm : s'.vm = s.vm := by rw [hA]; rfl
  have hhp : s'.heap = H := by rw [hA]; exact hT
  have hW0 : s.WarmedH s'.vm := by rw [hvm]; exact State.WarmedH.refl s
  have hat' : ∀ w ∈ vx_atS own ic cls names, w.before args s' = true := fun w hw => vx_ot_at hW0 hvm.symm (hgood w (List.mem_cons_of_mem _ (List.mem_cons_of_mem _ hw))) (hat w hw)
  have hk' : (Cond.classLink own ik cls).before args s' = true := vx_ot_at hW0 hvm.symm (hgood _ List.mem_cons_self) hk
  have hini' : (Cond.initialized cls).before args s' = true := vx_ot_at hW0 hvm.symm (hgood _ (List.mem_cons_of_mem _ List.mem_cons_self)) hini
  have hU' : vx_Zq Bundle.tN "UNASSIGNED_STACK" Bundle.steD A s' s'.heap := by rw [hhp]; exact vx_Zq.moved hW0.alike (hU.kept hS.2.1)
  have hN' : vx_Zq Bundle.tN "SUPPRESSED_SENTINEL" Bundle.listD A s' s'.heap := by rw [hhp]; exact vx_Zq.moved hW0.alike (hN.kept hS.2.1)
  have h : ∀ w ∈ Bundle.ownAtoms own ic cls names, w.before args s' = true := vx_own hat' (vx_isRefq hU'.1) (vx_isRefq hN'.1) hU'.2.word hN'.2.word
  have hown' : s'.vm.findClass own = some m.cls := by rw [hvm]; exact hown
  have hins : (Cond.instantiable cls 6).before args s' = true := h _ (by simp [Bundle.ownAtoms])
  obtain ⟨vm₁, cX, kX, hfX, hkX, -, -, X₁, st1⟩ := Y.newCold hexec (own := own) (C := cls) (index := ik) (n := 6) hown' hk' hins hini'
    (g := F0 m pc ls rest) rfl (by rw [hb]; exact d0) (Nat.le_refl _) (Nat.le_refl _)
  generalize hT1 : (T.setVm vm₁).pushCell { cls := cX, slots := kX.instanceTypes.map defaultValue, vm := .none } = T1 at X₁ st1
  have hcat : (Value.ref T.heap.size).category = 1 := rfl
  have hcellA : T1.heap[T.heap.size]? = some (freshCell cX kX) := by rw [← hT1]; exact State.heap_pushCell_size _ _
  have d3' : decode c.code (pc + 3) = .ok (.dup, 1) := by rw [hb]; exact d3
  have d4' : decode c.code (pc + 4) = .ok (.ldc_w is, 3) := by rw [hb]; exact d4
  have hstr' : vk_R own is text sa s' := vk_R.warm hW0 hstr
  obtain ⟨U, hsteps, hrun, hend, hW, hsame, ce, hce, hO⟩ := X₁.ctorThrowS hexec htr (own := own) (cls := cls) (names := names) (ic := ic) hown' hcls hnames h (fun x hx => nomatch hx) hfX hkX hcellA (by rw [hhp, hT]; exact Nat.le_refl _) (msg := .ref sa) rfl
    (g := { method := m, pc := pc + 7, locals := ls, stack := .ref sa :: .ref T.heap.size :: .ref T.heap.size :: rest, locked := none }) rfl hsize rfl rfl (rest := rest) rfl
    (by rw [hb]; exact d7) (by rw [hb]; exact d10) hout hRframes (by simp only [List.map_cons, List.sum_cons, hcat]; omega) hlocks
  obtain ⟨f1, f2⟩ := vx_frame hsame
  rw [hhp] at f1 f2
  have hWs : s.WarmedH U.vm := State.WarmedH.trans hW0 hW
  have hcl : s.vm.findClass cls = some ce.cls := by
    have h9 := hO.cls
    rw [hvm] at h9
    exact h9
  have hall : s.sameButNew ({ U with vm := s.vm } : State) locs mc ms := by
    subst hA
    obtain ⟨e1, e2⟩ := hsame
    rw [State.setFrames_setFrames] at e1
    have h2 : (T.setVm s.vm).sameButNew ({ U with vm := s.vm } : State) [] (0 + 1) (0 + 6) := ⟨e1, e2⟩
    have h3 := X.same.trans h2
    rw [List.append_nil] at h3
    exact h3.mono hc hs
  refine ⟨U, ?_, .threw T.heap.size, hrun, hend, Or.inr ⟨T.heap.size, rfl, cls, ce, locs, hx U hWs.alike f1 (fun q hq => f2 q hq (fun z hz => nomatch hz)), hce, hO.vm, hcl, hWs, hall, hf⟩⟩
  refine st1 _ ?_
  show Steps p.tables e below (T1.setTop { method := m, pc := pc + 3, locals := ls, stack := .ref T.heap.size :: rest, locked := none }) _
  jvm_step X₁.here [X₁.here.top, hexec, d3', Value.category]
  exact X₁.ldcStringW hexec (own := own) (text := text) (index := is) (a := sa) hown' hstr'.1 hstr'.2
    (g := { method := m, pc := pc + 4, locals := ls, stack := .ref T.heap.size :: .ref T.heap.size :: rest, locked := none }) rfl d4' _ hsteps
end Ends
section Bodies
variable {l : Launch}
theorem vx_ofW {y : MethodName} {ws ws' : List Cond} {rm : Room} {Pc : Array Value → State → Prop} {Qc : Array Value → State → Outcome → State → Prop} {XC : String → State → State → Prop} {mc ms : Nat} {free : Addr → Prop} {cc : ByteArray} {maxL : Nat} {ret : Option FieldType}
    (hy : plainName y.cls = true) (hw : ws = Cond.code y cc maxL ret :: ws')
    (body : ∀ p e s m args below meth c s₁, BodyLoose p l y (headSpec ws rm) cc maxL ret e s m args below meth c s₁ → c.maxLocals = maxL → (∀ x ∈ c.exceptionTable.toList, False) → Pc args s →
      W p l e (headSpec ws rm).room s m args below meth c s.heap [] 0 0 (vx_MQ below Qc XC args s mc ms free) (entryFrame m args maxL)) : vx_Met l y ws rm Pc Qc XC mc ms free := by
  refine MetFree.of_bodyS (code := cc) (maxLocals := maxL) (ret := ret) hy ?_ ?_
  · intro args s m h hn
    obtain ⟨meth, c, h1, h2, h3, h4, h5, h6, -, -⟩ := Cond.code_spec hn (atoms_spec (ws := ws) h _ (by rw [hw]; exact List.mem_cons_self))
    exact ⟨meth, c, h1, h2, h3, h4, h5, h6⟩
  · intro p e s m args below meth c s₁ B hml hP _
    have hh0 : s₁.heap = s.heap := by rw [B.state]; rfl
    have ht : ∀ x ∈ c.exceptionTable.toList, False := by
      obtain ⟨meth9, c9, h1, h2, -, -, -, -, h7, -⟩ := Cond.code_spec B.named (atoms_spec (ws := ws) B.pre _ (by rw [hw]; exact List.mem_cons_self))
      cases Option.some.inj (h1.symm.trans B.method)
      cases Option.some.inj (h2.symm.trans (Stand.of_body B).code)
      intro x hx
      rw [Array.isEmpty_iff.mp h7] at hx
      cases hx
    obtain ⟨t, a1, o, b1, b2, b3⟩ := body p e s m args below meth c s₁ B hml ht hP s₁ hh0 (Stand.of_body B)
    exact ⟨t, o, a1, b1, b2, b3⟩
/-- the table of a body with handlers -/
theorem vx_table {p : Program} {x y : MethodName} {S : Spec} {cc bytes : ByteArray} {maxL maxL' : Nat} {ret ret' : Option FieldType} {e : Env} {s s₁ : State} {m : MethodId} {args : Array Value} {below : List Frame} {meth : Method} {c : Code} {hh : List (Nat × Nat × Nat × Nat)}
    (B : BodyLoose p l y S cc maxL ret e s m args below meth c s₁) (h : (Cond.codeWith y bytes maxL' ret' hh).before args s = true) : c.exceptionTable.toList = tableOf hh := by
  obtain ⟨m9, meth9, c9, hn9, h1, h2, -, -, h6, -⟩ := Cond.codeWith_spec h
  cases Option.some.inj (hn9.symm.trans B.named)
  cases Option.some.inj (h1.symm.trans B.method)
  cases Option.some.inj (h2.symm.trans (Stand.of_body B).code)
  rw [← h6, table_eq]
end Bodies
end VXA
/-! ===== END ===== -/
/-! ===== BEGIN a static call of a method with an exception table ===== -/
section VXS
variable {p : Program} {l : Launch} {e : Env} {R : Room} {s : State} {m : MethodId} {args : Array Value} {below : List Frame} {meth : Method} {c : Code} {T : State} {H : Heap} {locs : List Loc} {cells slots : Nat}
abbrev vx_CSW (R : Room) (s : State) (args : Array Value) (own : String) (index : Nat) (y : MethodName) (bytes : ByteArray) (maxL : Nat) (ret : Option FieldType) (hh : List (Nat × Nat × Nat × Nat)) (ws : List Cond) (rm : Room) (mc ms n : Nat) : Prop :=
  (rm.cells = mc ∧ rm.slots = ms ∧ rm.frames + 1 ≤ R.frames ∧ 8 + (maxL + 11) + rm.locals ≤ R.locals ∧ (∀ w ∈ ws, ∀ (a' : Array Value) (U : State), s.WarmedH U.vm → w.before a' U = true) ∧ Cond.codeWith y bytes maxL ret hh ∈ ws) ∧
  (Cond.codeWith y bytes maxL ret hh).before args s = true ∧ (Cond.initialized y.cls).before args s = true ∧ (y.cls ≠ "java/lang/invoke/MethodHandle" ∧ y.cls ≠ "java/lang/invoke/VarHandle") ∧
  (∀ sig, parseMethodDescriptor y.desc = some sig → n = sig.parameters.length) ∧ (Cond.methodLink own index y).before args s = true ∧ (Cond.static y).before args s = true
theorem vx_cwSW {own : String} {index maxL mc ms : Nat} {y : MethodName} {bytes : ByteArray} {ret : Option FieldType} {hh : List (Nat × Nat × Nat × Nat)} {Ts ws ws' : List Cond} {rm : Room} (n : Nat) (ht : ∀ w ∈ Ts, w.before args s = true) (hT : GoodIn Ts (va_wsS own index y ws)) (hw : ws = Cond.codeWith y bytes maxL ret hh :: ws') (hrc : rm.cells = mc) (hrs : rm.slots = ms)
    (hd : y.cls ≠ "java/lang/invoke/MethodHandle" ∧ y.cls ≠ "java/lang/invoke/VarHandle" ∧ (parseMethodDescriptor y.desc).map (fun d => d.parameters.length) = some n) (hR : rm.frames + 1 ≤ R.frames ∧ 8 + (maxL + 11) + rm.locals ≤ R.locals) :
    vx_CSW R s args own index y bytes maxL ret hh ws rm mc ms n := by
  have ok : ∀ w ∈ va_wsS own index y ws, w.before args s = true := fun w h => ht w (hT w h).1
  have hG : GoodIn Ts ws := fun w h => hT w (by unfold va_wsS; exact List.mem_append_right _ h)
  have hc : Cond.codeWith y bytes maxL ret hh ∈ ws := by rw [hw]; exact List.mem_cons_self
  refine ⟨⟨hrc, hrs, hR.1, hR.2, pay_in ht hG, hc⟩, ht _ (hG _ hc).1, ok _ (by simp [va_wsS]), ⟨hd.1, hd.2.1⟩, fun sig h => ?_, ok _ (by simp [va_wsS]), ok _ (by simp [va_wsS])⟩
  have h2 := hd.2.2
  rw [h] at h2
  exact (Option.some.inj h2).symm
theorem vx_callSW (X : Stand p l e R s m args below meth c T locs cells slots) (hexec : p.tables.exec = Jvm.exec) {own : String} {index : Nat} {y : MethodName} {bytes : ByteArray} {maxL : Nat} {ret : Option FieldType} {hh : List (Nat × Nat × Nat × Nat)}
    (hown : s.vm.findClass own = some m.cls) (hlink : (Cond.methodLink own index y).before args s = true) (hstat : (Cond.static y).before args s = true) (hinit : (Cond.initialized y.cls).before args s = true)
    (hcode : (Cond.codeWith y bytes maxL ret hh).before args s = true) (hy : y.cls ≠ "java/lang/invoke/MethodHandle" ∧ y.cls ≠ "java/lang/invoke/VarHandle")
    {W9 : Nat} {Pre : Pt → Array Value → Prop} {Post : Pt → Array Value → Option Value → Pt → Prop} (hK : Back l R p e below s args y 3 W9 Pre Post)
    {g : JFrame} (hg : g.method = m) (hsize : g.locals.size = c.maxLocals) {argsL rest : List Value} (hlen : ∀ sig, parseMethodDescriptor y.desc = some sig → argsL.length = sig.parameters.length)
    (hstack : g.stack = argsL.reverse ++ rest) (hW : 2 * g.monitorRoom + (rest.map fun v => v.category).sum ≤ W9) (hdg : decode c.code g.pc = .ok (.invokestatic index, 3))
    (hpre : ∀ vm₁, s.WarmedH vm₁ → Pre ⟨T.setVm vm₁, locs, cells, slots⟩ argsL.toArray) :
    ∃ (v : Option Value) (vm₁ : Vm) (B : Pt), s.WarmedH vm₁ ∧ Stand p l e R s m args below meth c B.U B.locs B.cells B.slots ∧ Post ⟨T.setVm vm₁, locs, cells, slots⟩ argsL.toArray v B ∧
      ∀ target, Steps p.tables e below (B.U.setTop { g with pc := g.pc + 3, stack := v.toList ++ rest }) target → Steps p.tables e below (T.setTop g) target := by
  obtain ⟨mk, methM, cM, hnamed, hmethM, -, -, -, -, -, -, hsigM⟩ := Cond.codeWith_spec hcode
  have hstatic : methM.isStatic = true := Cond.static_spec hnamed hmethM hstat
  obtain ⟨kP, hkP, -⟩ := className_of_methodNamed hnamed
  have hinitP : kP.init = .initialized := Cond.initialized_spec (findClass_of_methodNamed hnamed) hkP hinit
  obtain ⟨vm₁, X₁, hstep₁⟩ := X.invokestatic hexec hown hlink hnamed hmethM hstatic hkP hinitP hy (g := g) hg (argsL := argsL) (rest := rest) (hlen _ hsigM) hstack hdg
  obtain ⟨v, B, X', hpost, hsteps⟩ := hK m meth c ⟨T.setVm vm₁, locs, cells, slots⟩ { g with stack := rest } (.invokestatic index) mk argsL.toArray X₁ hg hsize hdg hW (X₁.named hnamed) (hpre vm₁ X₁.warmed)
  exact ⟨v, vm₁, B, X₁.warmed, X', hpost, fun target h => hstep₁ _ fun acts => by rw [doInvoke_state]; exact hsteps.trans h⟩
theorem vx_runSW {y : MethodName} {bytes cc : ByteArray} {maxL nL mc ms n index : Nat} {ret : Option FieldType} {hh : List (Nat × Nat × Nat × Nat)} {ws : List Cond} {rm : Room} {Pc : Array Value → State → Prop} {Qc : Array Value → State → Outcome → State → Prop} {free : Addr → Prop} {Ts : List Cond} {own : String} {As rest : List Value} {g : JFrame}
    (S : CallFix p m c cc nL s args Ts own) (hM : Met l y ws rm Pc Qc mc ms free) (cw : vx_CSW R s args own index y bytes maxL ret hh ws rm mc ms n) (hp : PreS s H Pc As)
    (hg : g.method = m) (hn : As.length = n) (hsize : g.locals.size = nL) (hstack : g.stack = As.reverse ++ rest) (hW : 2 * g.monitorRoom + (rest.map fun v => v.category).sum ≤ 8) (hdg : decode cc g.pc = .ok (.invokestatic index, 3)) (hf : cells + mc ≤ R.cells ∧ slots + ms ≤ R.slots) :
    va_Run p l e R s m args below meth c H locs cells slots mc ms g rest (Qc As.toArray) (free) := by
  obtain ⟨⟨hrc, hrs, hfr, hlo, hws, hcw⟩, hcode, hini, hy, hlen, hl, hstt⟩ := cw
  have hK : Back l R p e below s args y 3 8 (PreOf R mc ms Pc) (PostOf Qc mc ms free) := va_backW (hh := hh) (bytes := bytes) (maxL := maxL) (ret := ret) hM hp.1 hrc hrs hfr hlo hws hcw (fun a' U hW => word_at hW (Or.inl (by first | rfl | simp [Cond.onTables, Cond.keeps, Cond.steady])) hini)
  obtain ⟨hx, hb, hml, ho, -⟩ := S
  intro T hT X
  obtain ⟨v, vm₁, ⟨U', l2, c2, s2⟩, hW₁, X', ⟨g', mk, t, L, e1, e2, hq, h1, hL, h2, h3⟩, st⟩ := vx_callSW X hx (hh := hh) (bytes := bytes) (maxL := maxL) (ret := ret) ho hl hstt hini hcode hy hK hg (hsize.trans hml.symm) (argsL := As) (rest := rest) (fun sig h => hn.trans (hlen sig h)) hstack hW (by rw [hb]; exact hdg)
    (fun vm₁ hW₁ => ⟨hf.1, hf.2, hp.2 (T.setVm vm₁) hT hW₁⟩)
  dsimp only [Pt.U, Pt.locs, Pt.cells, Pt.slots] at X' e1 e2 h1 h2 h3 st
  subst h1; subst h2; subst h3
  exact ⟨v, (T.setVm vm₁).calling g' mk As.toArray, t, U', L, hT, X', hL, e1, e2, hq, st⟩
/-- not caught here, past rows that name other classes: it goes on to the caller -/
theorem vx_outP {p : Program} {l : Launch} {e : Env} {R : Room} {s : State} {m : MethodId} {args : Array Value} {below : List Frame} {meth : Method} {c : Code} {H : Heap} {locs : List Loc} {cells slots : Nat} {free : Addr → Prop} {ls : Array Slot} {rest : List Value} {Qc : Array Value → State → Outcome → State → Prop} {XC : String → State → State → Prop}
    {pc : Nat} {own E : String} {ce : Cell} {q : Addr} {mc ms : Nat} (hown : s.vm.findClass own = some m.cls) (hlocks : meth.locks = false)
    (hpass : ∀ z ∈ c.exceptionTable.toList, covers z pc = false ∨ (z.catchType ≠ 0 ∧ ∃ nm : String, (Cond.classLink own z.catchType nm).before args s = true ∧ va_Nc E nm s)) (hcell : H[q]? = some ce) (hv : ce.vm = .none) (hcl : s.vm.findClass E = some ce.cls)
    (hx : ∀ t : State, t.heap = H → s.vm.Alike t.vm → XC E s t) (hf : ∀ z ∈ locs, free z.base) (hc : cells ≤ mc) (hs : slots ≤ ms) :
    vx_W p l e R s m args below meth c H locs cells slots (vx_MQ below Qc XC args s mc ms free) (F0 m pc ls rest) q := by
  intro T hT X
  have hpl : e.platform.magicAccessors = ({} : Platform).magicAccessors := by rw [X.admits.platform]
  obtain ⟨vm', hW', X', st⟩ := X.outThrough hlocks q (g := F0 m pc ls rest) rfl rfl rfl (cell := ce) (by rw [hT]; exact hcell) (by rw [hv]; rfl)
    (by obtain ⟨k9, h9, -⟩ := Vm.findClass_spec hcl; exact ⟨k9, h9⟩) (fun z hz => by
      rcases hpass z hz with h | ⟨hz0, nm, hl1, hn1⟩
      · exact Or.inl h
      · obtain ⟨c6, hc6, hcl6⟩ := Cond.classLink_spec hown hl1 e.platform hpl
        obtain ⟨a8, b8, h1, h2, h3⟩ := hn1
        cases Option.some.inj (h1.symm.trans hcl)
        cases Option.some.inj (h2.symm.trans hc6)
        exact Or.inr ⟨hz0, _, hcl6, h3⟩)
  obtain ⟨g₀, hfr⟩ := X'.frames_eq
  have hcell9 : ((T.setVm vm').setFrames (.throwing q :: below)).heap[q]? = some ce := by
    show T.heap[q]? = some ce
    rw [hT]; exact hcell
  have hend : Ended ((T.setVm vm').setFrames (.throwing q :: below)) below (.threw q) := State.frames_setFrames _ (State.cur_lt_of_frames hfr)
  refine ⟨(T.setVm vm').setFrames (.throwing q :: below), ?_, .threw q, X'.here.running, hend, Or.inr ⟨q, rfl, E, ce, locs, hx _ hT (X'.ends _).1.alike, hcell9, hv, hcl, (X'.ends _).1, (X'.ends _).2.mono hc hs, hf⟩⟩
  rw [X.pushThrowing_eq]
  exact st
/-- a thing of a world lies in the heap -/
theorem vx_lt {D : va_G} {cl : List vw_C} {ws : va_W} {H1 : Heap} (h : va_P D cl ws H1) {k : Nat} {q : Nat × va_E} (hk : ws[k]? = some q) : q.1 < H1.size := (h k q hk).lt
end VXS
/-! ===== END ===== -/
/-! ===== BEGIN methods with a table of their own: called by a name, returning or throwing ===== -/
section VXH
/-! vx_backW, vx_callVX, vx_callSX, vx_callVW, vx_runVW, vx_runVX, vx_runSX, vx_ofWH follow the same proofs as their sisters above (Free/Laws.lean, Shelf42/LK1.lean); vx_outP calls Shelf42/NT130.lean (outThrough). -/
section
variable {l : Launch} {R : Room} {p : Program} {e : Env} {below : List Frame} {s : State} {sargs : Array Value} {y : MethodName} {len W9 : Nat}
theorem vx_backW {ws : List Cond} {rm : Room} {Pc : Array Value → State → Prop} {Qc : Array Value → State → Outcome → State → Prop} {XC : String → State → State → Prop} {mc ms : Nat} {free : Addr → Prop} {bytes : ByteArray} {maxL : Nat} {ret : Option FieldType} {hh : List (Nat × Nat × Nat × Nat)}
    (hM : vx_Met l y ws rm Pc Qc XC mc ms free) (hblind : FrameBlind Pc) (hrc : rm.cells = mc) (hrs : rm.slots = ms)
    (hframes : rm.frames + 1 ≤ R.frames) (hlocals : W9 + (maxL + 11) + rm.locals ≤ R.locals)
    (hws : ∀ w ∈ ws, ∀ a' U, s.WarmedH U.vm → w.before a' U = true) (hcode : Cond.codeWith y bytes maxL ret hh ∈ ws) (hinit : ∀ a' U, s.WarmedH U.vm → (Cond.initialized y.cls).before a' U = true) :
    vx_Back l R p e below s sargs y len W9 (PreOf R mc ms Pc) (PostOf Qc mc ms free) (vx_Post XC mc ms free) := by
  intro m meth c A g ig mk a X hg hsize hdg hW hn hp
  have h1 : (headSpec ws rm).pre.before a A.U = true := atoms_intro fun w hw => hws w hw _ _ X.warmed
  have h2 : (Cond.codeWith y bytes maxL ret hh).before a A.U = true := hws _ hcode _ _ X.warmed
  have h3 : (Cond.initialized y.cls).before a A.U = true := hinit _ _ X.warmed
  have h4 : A.cells + (headSpec ws rm).room.cells ≤ R.cells := by rw [show (headSpec ws rm).room.cells = mc from hrc]; exact hp.1
  have h5 : A.slots + (headSpec ws rm).room.slots ≤ R.slots := by rw [show (headSpec ws rm).room.slots = ms from hrs]; exact hp.2.1
  have hPc : Pc a (A.U.calling g mk a) := hblind _ _ _ _ hp.2.2
  obtain ⟨U, Ls, c0, s0⟩ := A
  dsimp only [Pt.U, Pt.locs, Pt.cells, Pt.slots] at h1 h2 h3 h4 h5 X hn hPc ⊢
  obtain ⟨m9, methY, cY, hn9, hmY, hcY, -, hlY, -⟩ := Cond.codeWith_spec h2
  cases Option.some.inj (hn9.symm.trans hn)
  obtain ⟨kY, hkY, -⟩ := className_of_methodNamed hn
  have hinitY : kY.init = .initialized := Cond.initialized_spec (findClass_of_methodNamed hn) hkY h3
  have h : At U g.method c below := by rw [hg]; exact X.here
  have hlocals9 : W9 + (maxL + 11) + (headSpec ws rm).room.locals ≤ R.locals := hlocals
  have happ : (headSpec ws rm).appliesLoose y e.platform (U.calling g mk a) = true :=
    Spec.appliesLoose_calling (g := g) h hdg hn hkY hinitY
      (X.room_calling (g := g) (R' := (headSpec ws rm).room) hsize hmY hcY hframes (by rw [hlY]; omega) h4 h5) h1
  obtain ⟨mid, hmid⟩ := h.above
  have hfr : (U.setTop g).frames = (.java g :: mid) ++ below := by rw [State.frames_setTop' g h.top, hmid]; rfl
  obtain ⟨o, s₂, hsteps, -, hend, hq⟩ := Steps.callFree hM p X.admits X.cas X.clock (acts := []) hfr happ hPc trivial
  have hq' : vx_Q Qc XC mc ms free a (U.calling g mk a) o s₂ := hq
  rw [State.frames_setTop' g h.top] at hend
  obtain ⟨g₀, hg0⟩ := Option.isSome_iff_exists.mp h.top
  obtain ⟨r, hr⟩ := State.topJava?_eq_some.mp hg0
  have hr' : (({ U with heap := s₂.heap, slotsUsed := s₂.slotsUsed } : State).setVm s₂.vm).frames = .java g₀ :: r := hr
  rcases hq' with ⟨hqc, L, hfe, hL⟩ | ⟨q, rfl, E, ce, L, hx, hce, hcv, hcl, hW₂, hsm, hL⟩
  · obtain ⟨⟨v, rfl⟩, hW₂, e2, q2, q3, q4, q5, q6⟩ := id hfe
    have e3 : s₂ = ({ (U.calling g mk a).setFrames s₂.frames with heap := s₂.heap, slotsUsed := s₂.slotsUsed } : State).setVm s₂.vm := by
      have : s₂ = ({ s₂ with vm := (U.calling g mk a).vm } : State).setVm s₂.vm := rfl
      rw [e2] at this
      exact this
    obtain ⟨c₂, i₂, len₂, hc₂, hd₂, hf₂⟩ := hend
    have hW' : U.WarmedH s₂.vm := hW₂
    have hcc : c₂ = c := by
      have h1 : s₂.code? g.method = U.code? g.method := by
        rw [State.code?_eq, State.code?_eq, hW'.alike.method?]
      exact Option.some.inj (hc₂.symm.trans (h1.trans h.code))
    subst hcc
    have hlen : len₂ = len := by rw [hdg] at hd₂; cases hd₂; rfl
    subst hlen
    have hs₂ : s₂ = (({ U with heap := s₂.heap, slotsUsed := s₂.slotsUsed } : State).setVm s₂.vm).setTop { g with pc := g.pc + len₂, stack := v.toList ++ g.stack } := by
      refine e3.trans ?_
      rw [hf₂, State.calling_eq h.top, State.setFrames_setFrames, State.setTop_of_frames _ hr', hr]
      rfl
    have hsame : U.sameButNew ({ U with heap := s₂.heap, slotsUsed := s₂.slotsUsed } : State) L mc ms := by
      refine ⟨?_, q2, q3, q4, q5, q6⟩
      obtain ⟨t, ht, -⟩ := State.frames_cons hr
      show ({ U with heap := s₂.heap, slotsUsed := s₂.slotsUsed } : State) = { U.setFrames U.frames with heap := s₂.heap, slotsUsed := s₂.slotsUsed }
      rw [State.setFrames_self ht]
    subst hg
    refine Or.inl ⟨v, ⟨(({ U with heap := s₂.heap, slotsUsed := s₂.slotsUsed } : State).setVm s₂.vm), Ls ++ L, c0 + mc, s0 + ms⟩,
      ⟨X.admits, X.cas, X.clock, X.frames, X.room, X.hears, X.method, X.code, (X.here.setHeapUsed s₂.heap s₂.slotsUsed).setVm hW'.alike, X.tail, State.WarmedH.trans X.warmed hW', X.limits, X.bytes, X.same.trans (hsame.setVm s.vm)⟩,
      ⟨g, mk, s₂, L, rfl, rfl, hqc, rfl, hL, rfl, rfl⟩, ?_⟩
    show Steps p.tables e below _ ((({ U with heap := s₂.heap, slotsUsed := s₂.slotsUsed } : State).setVm s₂.vm).setTop { g with pc := g.pc + len₂, stack := v.toList ++ g.stack })
    rw [← hs₂]
    exact hsteps
  · obtain ⟨e2, q2, q3, q4, q5, q6⟩ := id hsm
    have e3 : s₂ = ({ (U.calling g mk a).setFrames s₂.frames with heap := s₂.heap, slotsUsed := s₂.slotsUsed } : State).setVm s₂.vm := by
      have : s₂ = ({ s₂ with vm := (U.calling g mk a).vm } : State).setVm s₂.vm := rfl
      rw [e2] at this
      exact this
    have hf₂ : s₂.frames = .throwing q :: .java g :: U.frames.tail := hend
    have hW' : U.WarmedH s₂.vm := hW₂
    have hs₂ : s₂ = ((({ U with heap := s₂.heap, slotsUsed := s₂.slotsUsed } : State).setVm s₂.vm).setTop g).pushFrame (.throwing q) := by
      refine e3.trans ?_
      rw [hf₂, State.calling_eq h.top, State.setFrames_setFrames, State.pushFrame, State.frames_setTop _ hr', State.setTop_of_frames _ hr', State.setFrames_setFrames, hr]
      rfl
    have hsame : U.sameButNew ({ U with heap := s₂.heap, slotsUsed := s₂.slotsUsed } : State) L mc ms := by
      refine ⟨?_, q2, q3, q4, q5, q6⟩
      obtain ⟨t, ht, -⟩ := State.frames_cons hr
      show ({ U with heap := s₂.heap, slotsUsed := s₂.slotsUsed } : State) = { U.setFrames U.frames with heap := s₂.heap, slotsUsed := s₂.slotsUsed }
      rw [State.setFrames_self ht]
    subst hg
    refine Or.inr ⟨q, ⟨(({ U with heap := s₂.heap, slotsUsed := s₂.slotsUsed } : State).setVm s₂.vm), Ls ++ L, c0 + mc, s0 + ms⟩,
      ⟨X.admits, X.cas, X.clock, X.frames, X.room, X.hears, X.method, X.code, (X.here.setHeapUsed s₂.heap s₂.slotsUsed).setVm hW'.alike, X.tail, State.WarmedH.trans X.warmed hW', X.limits, X.bytes, X.same.trans (hsame.setVm s.vm)⟩,
      ⟨g, mk, s₂, L, E, ce, rfl, rfl, hx, hce, hcv, hcl, rfl, hL, rfl, rfl⟩, ?_⟩
    show Steps p.tables e below _ (((({ U with heap := s₂.heap, slotsUsed := s₂.slotsUsed } : State).setVm s₂.vm).setTop g).pushFrame (.throwing q))
    rw [← hs₂]
    exact hsteps
end
variable {p : Program} {l : Launch} {e : Env} {R : Room} {s : State} {m : MethodId} {args : Array Value} {below : List Frame} {meth : Method} {c : Code} {T : State} {H : Heap} {locs : List Loc} {cells slots : Nat}
theorem vx_callVX (X : Stand p l e R s m args below meth c T locs cells slots) (hexec : p.tables.exec = Jvm.exec) {own C : String} {index : Nat} {y : MethodName} {bytes : ByteArray} {maxL : Nat} {ret : Option FieldType} {hh : List (Nat × Nat × Nat × Nat)}
    (hown : s.vm.findClass own = some m.cls) (hlink : (Cond.methodLink own index y).before args s = true) (hinst : (Cond.instanceMethod y).before args s = true) (hsel : (Cond.selects C y y).before args s = true)
    (hcode : (Cond.codeWith y bytes maxL ret hh).before args s = true) (hy : y.cls ≠ "java/lang/invoke/MethodHandle" ∧ y.cls ≠ "java/lang/invoke/VarHandle")
    {W9 : Nat} {Pre : Pt → Array Value → Prop} {Post : Pt → Array Value → Option Value → Pt → Prop} {PostX : Pt → Array Value → Addr → Pt → Prop} (hK : vx_Back l R p e below s args y 3 W9 Pre Post PostX)
    {b : Addr} {cellB : Cell} (hcell : T.heap[b]? = some cellB) (hobj : cellB.vm.isStatics = false) (hcls : s.vm.findClass C = some cellB.cls)
    {g : JFrame} (hg : g.method = m) (hsize : g.locals.size = c.maxLocals) {argsL rest : List Value} (hlen : ∀ sig, parseMethodDescriptor y.desc = some sig → argsL.length = sig.parameters.length)
    (hstack : g.stack = argsL.reverse ++ .ref b :: rest) (hW : 2 * g.monitorRoom + (rest.map fun v => v.category).sum ≤ W9) (hdg : decode c.code g.pc = .ok (.invokevirtual index, 3))
    (hpre : ∀ vm₁, s.WarmedH vm₁ → Pre ⟨T.setVm vm₁, locs, cells, slots⟩ (Value.ref b :: argsL).toArray) :
    (∃ (v : Option Value) (vm₁ : Vm) (B : Pt), s.WarmedH vm₁ ∧ Stand p l e R s m args below meth c B.U B.locs B.cells B.slots ∧ Post ⟨T.setVm vm₁, locs, cells, slots⟩ (Value.ref b :: argsL).toArray v B ∧
      ∀ target, Steps p.tables e below (B.U.setTop { g with pc := g.pc + 3, stack := v.toList ++ rest }) target → Steps p.tables e below (T.setTop g) target) ∨
    (∃ (q : Addr) (vm₁ : Vm) (B : Pt), s.WarmedH vm₁ ∧ Stand p l e R s m args below meth c B.U B.locs B.cells B.slots ∧ PostX ⟨T.setVm vm₁, locs, cells, slots⟩ (Value.ref b :: argsL).toArray q B ∧
      Steps p.tables e below (T.setTop g) ((B.U.setTop { g with stack := rest }).pushFrame (.throwing q))) := by
  obtain ⟨mk, methM, hnamed, hmethM, hstM, habM⟩ := Cond.instanceMethod_spec hinst
  obtain ⟨m8, methM', cM, hn8, hmethM', -, -, -, -, -, -, hsigM⟩ := Cond.codeWith_spec hcode
  cases Option.some.inj (hn8.symm.trans hnamed)
  cases hmethM.symm.trans hmethM'
  obtain ⟨c2, r2, m2, q1, q2, q3, q4, kP, hkP, hkPi⟩ := Cond.selects_spec hsel
  cases hcls.symm.trans q1
  cases (State.methodFound?_of_named hnamed hy).symm.trans q2
  cases hnamed.symm.trans q3
  have hselP : selectMethod e.platform s.vm cellB.cls mk = .method mk := by rw [Launch.admits_selectMethod X.admits]; exact q4
  obtain ⟨vm₁, X₁, hstep₁⟩ := X.invokevirtual hexec hown hlink hnamed hmethM hstM hkP hkPi hy (a := b) (cell := cellB) hcell
    (fun z h => by rw [h] at hobj; cases hobj) hselP hmethM habM hkP hkPi (g := g) hg (argsL := argsL) (rest := rest) (hlen _ hsigM) hstack hdg
  rcases hK m meth c ⟨T.setVm vm₁, locs, cells, slots⟩ { g with stack := rest } (.invokevirtual index) mk (Value.ref b :: argsL).toArray X₁ hg hsize hdg hW (X₁.named hnamed) (hpre vm₁ X₁.warmed) with ⟨v, B, X', hpost, hsteps⟩ | ⟨q, B, X', hpost, hsteps⟩
  · exact Or.inl ⟨v, vm₁, B, X₁.warmed, X', hpost, fun target h => hstep₁ _ fun acts => by rw [doInvoke_state]; exact hsteps.trans h⟩
  · exact Or.inr ⟨q, vm₁, B, X₁.warmed, X', hpost, hstep₁ _ fun acts => by rw [doInvoke_state]; exact hsteps⟩
theorem vx_callSX (X : Stand p l e R s m args below meth c T locs cells slots) (hexec : p.tables.exec = Jvm.exec) {own : String} {index : Nat} {y : MethodName} {bytes : ByteArray} {maxL : Nat} {ret : Option FieldType} {hh : List (Nat × Nat × Nat × Nat)}
    (hown : s.vm.findClass own = some m.cls) (hlink : (Cond.methodLink own index y).before args s = true) (hstat : (Cond.static y).before args s = true) (hinit : (Cond.initialized y.cls).before args s = true)
    (hcode : (Cond.codeWith y bytes maxL ret hh).before args s = true) (hy : y.cls ≠ "java/lang/invoke/MethodHandle" ∧ y.cls ≠ "java/lang/invoke/VarHandle")
    {W9 : Nat} {Pre : Pt → Array Value → Prop} {Post : Pt → Array Value → Option Value → Pt → Prop} {PostX : Pt → Array Value → Addr → Pt → Prop} (hK : vx_Back l R p e below s args y 3 W9 Pre Post PostX)
    {g : JFrame} (hg : g.method = m) (hsize : g.locals.size = c.maxLocals) {argsL rest : List Value} (hlen : ∀ sig, parseMethodDescriptor y.desc = some sig → argsL.length = sig.parameters.length)
    (hstack : g.stack = argsL.reverse ++ rest) (hW : 2 * g.monitorRoom + (rest.map fun v => v.category).sum ≤ W9) (hdg : decode c.code g.pc = .ok (.invokestatic index, 3))
    (hpre : ∀ vm₁, s.WarmedH vm₁ → Pre ⟨T.setVm vm₁, locs, cells, slots⟩ argsL.toArray) :
    (∃ (v : Option Value) (vm₁ : Vm) (B : Pt), s.WarmedH vm₁ ∧ Stand p l e R s m args below meth c B.U B.locs B.cells B.slots ∧ Post ⟨T.setVm vm₁, locs, cells, slots⟩ argsL.toArray v B ∧
      ∀ target, Steps p.tables e below (B.U.setTop { g with pc := g.pc + 3, stack := v.toList ++ rest }) target → Steps p.tables e below (T.setTop g) target) ∨
    (∃ (q : Addr) (vm₁ : Vm) (B : Pt), s.WarmedH vm₁ ∧ Stand p l e R s m args below meth c B.U B.locs B.cells B.slots ∧ PostX ⟨T.setVm vm₁, locs, cells, slots⟩ argsL.toArray q B ∧
      Steps p.tables e below (T.setTop g) ((B.U.setTop { g with stack := rest }).pushFrame (.throwing q))) := by
  obtain ⟨mk, methM, cM, hnamed, hmethM, -, -, -, -, -, -, hsigM⟩ := Cond.codeWith_spec hcode
  have hstatic : methM.isStatic = true := Cond.static_spec hnamed hmethM hstat
  obtain ⟨kP, hkP, -⟩ := className_of_methodNamed hnamed
  have hinitP : kP.init = .initialized := Cond.initialized_spec (findClass_of_methodNamed hnamed) hkP hinit
  obtain ⟨vm₁, X₁, hstep₁⟩ := X.invokestatic hexec hown hlink hnamed hmethM hstatic hkP hinitP hy (g := g) hg (argsL := argsL) (rest := rest) (hlen _ hsigM) hstack hdg
  rcases hK m meth c ⟨T.setVm vm₁, locs, cells, slots⟩ { g with stack := rest } (.invokestatic index) mk argsL.toArray X₁ hg hsize hdg hW (X₁.named hnamed) (hpre vm₁ X₁.warmed) with ⟨v, B, X', hpost, hsteps⟩ | ⟨q, B, X', hpost, hsteps⟩
  · exact Or.inl ⟨v, vm₁, B, X₁.warmed, X', hpost, fun target h => hstep₁ _ fun acts => by rw [doInvoke_state]; exact hsteps.trans h⟩
  · exact Or.inr ⟨q, vm₁, B, X₁.warmed, X', hpost, hstep₁ _ fun acts => by rw [doInvoke_state]; exact hsteps⟩
theorem vx_callVW (X : Stand p l e R s m args below meth c T locs cells slots) (hexec : p.tables.exec = Jvm.exec) {own C : String} {index : Nat} {y : MethodName} {bytes : ByteArray} {maxL : Nat} {ret : Option FieldType} {hh : List (Nat × Nat × Nat × Nat)}
    (hown : s.vm.findClass own = some m.cls) (hlink : (Cond.methodLink own index y).before args s = true) (hinst : (Cond.instanceMethod y).before args s = true) (hsel : (Cond.selects C y y).before args s = true)
    (hcode : (Cond.codeWith y bytes maxL ret hh).before args s = true) (hy : y.cls ≠ "java/lang/invoke/MethodHandle" ∧ y.cls ≠ "java/lang/invoke/VarHandle")
    {W9 : Nat} {Pre : Pt → Array Value → Prop} {Post : Pt → Array Value → Option Value → Pt → Prop} (hK : Back l R p e below s args y 3 W9 Pre Post)
    {b : Addr} {cellB : Cell} (hcell : T.heap[b]? = some cellB) (hobj : cellB.vm.isStatics = false) (hcls : s.vm.findClass C = some cellB.cls)
    {g : JFrame} (hg : g.method = m) (hsize : g.locals.size = c.maxLocals) {argsL rest : List Value} (hlen : ∀ sig, parseMethodDescriptor y.desc = some sig → argsL.length = sig.parameters.length)
    (hstack : g.stack = argsL.reverse ++ .ref b :: rest) (hW : 2 * g.monitorRoom + (rest.map fun v => v.category).sum ≤ W9) (hdg : decode c.code g.pc = .ok (.invokevirtual index, 3))
    (hpre : ∀ vm₁, s.WarmedH vm₁ → Pre ⟨T.setVm vm₁, locs, cells, slots⟩ (Value.ref b :: argsL).toArray) :
    ∃ (v : Option Value) (vm₁ : Vm) (B : Pt), s.WarmedH vm₁ ∧ Stand p l e R s m args below meth c B.U B.locs B.cells B.slots ∧ Post ⟨T.setVm vm₁, locs, cells, slots⟩ (Value.ref b :: argsL).toArray v B ∧
      ∀ target, Steps p.tables e below (B.U.setTop { g with pc := g.pc + 3, stack := v.toList ++ rest }) target → Steps p.tables e below (T.setTop g) target := by
  obtain ⟨mk, methM, hnamed, hmethM, hstM, habM⟩ := Cond.instanceMethod_spec hinst
  obtain ⟨m8, methM', cM, hn8, hmethM', -, -, -, -, -, -, hsigM⟩ := Cond.codeWith_spec hcode
  cases Option.some.inj (hn8.symm.trans hnamed)
  cases hmethM.symm.trans hmethM'
  obtain ⟨c2, r2, m2, q1, q2, q3, q4, kP, hkP, hkPi⟩ := Cond.selects_spec hsel
  cases hcls.symm.trans q1
  cases (State.methodFound?_of_named hnamed hy).symm.trans q2
  cases hnamed.symm.trans q3
  have hselP : selectMethod e.platform s.vm cellB.cls mk = .method mk := by rw [Launch.admits_selectMethod X.admits]; exact q4
  obtain ⟨vm₁, X₁, hstep₁⟩ := X.invokevirtual hexec hown hlink hnamed hmethM hstM hkP hkPi hy (a := b) (cell := cellB) hcell
    (fun z h => by rw [h] at hobj; cases hobj) hselP hmethM habM hkP hkPi (g := g) hg (argsL := argsL) (rest := rest) (hlen _ hsigM) hstack hdg
  obtain ⟨v, B, X', hpost, hsteps⟩ := hK m meth c ⟨T.setVm vm₁, locs, cells, slots⟩ { g with stack := rest } (.invokevirtual index) mk (Value.ref b :: argsL).toArray X₁ hg hsize hdg hW (X₁.named hnamed) (hpre vm₁ X₁.warmed)
  exact ⟨v, vm₁, B, X₁.warmed, X', hpost, fun target h => hstep₁ _ fun acts => by rw [doInvoke_state]; exact hsteps.trans h⟩
abbrev vx_CVW (R : Room) (s : State) (args : Array Value) (own C : String) (index : Nat) (y : MethodName) (bytes : ByteArray) (maxL : Nat) (ret : Option FieldType) (hh : List (Nat × Nat × Nat × Nat)) (ws : List Cond) (rm : Room) (mc ms n : Nat) : Prop :=
  (rm.cells = mc ∧ rm.slots = ms ∧ rm.frames + 1 ≤ R.frames ∧ 8 + (maxL + 11) + rm.locals ≤ R.locals ∧ (∀ w ∈ ws, ∀ (a' : Array Value) (U : State), s.WarmedH U.vm → w.before a' U = true) ∧ Cond.codeWith y bytes maxL ret hh ∈ ws) ∧
  (Cond.codeWith y bytes maxL ret hh).before args s = true ∧ (Cond.initialized y.cls).before args s = true ∧ (y.cls ≠ "java/lang/invoke/MethodHandle" ∧ y.cls ≠ "java/lang/invoke/VarHandle") ∧
  (∀ sig, parseMethodDescriptor y.desc = some sig → n = sig.parameters.length) ∧ (Cond.methodLink own index y).before args s = true ∧ (Cond.instanceMethod y).before args s = true ∧ (Cond.selects C y y).before args s = true
theorem vx_cwVW {own C : String} {index maxL mc ms : Nat} {y : MethodName} {bytes : ByteArray} {ret : Option FieldType} {hh : List (Nat × Nat × Nat × Nat)} {Ts ws ws' : List Cond} {rm : Room} (n : Nat) (ht : ∀ w ∈ Ts, w.before args s = true) (hT : GoodIn Ts (wsV own index C y ws)) (hw : ws = Cond.codeWith y bytes maxL ret hh :: ws') (hrc : rm.cells = mc) (hrs : rm.slots = ms)
    (hd : y.cls = C ∧ y.cls ≠ "java/lang/invoke/MethodHandle" ∧ y.cls ≠ "java/lang/invoke/VarHandle" ∧ (parseMethodDescriptor y.desc).map (fun d => d.parameters.length) = some n) (hR : rm.frames + 1 ≤ R.frames ∧ 8 + (maxL + 11) + rm.locals ≤ R.locals) :
    vx_CVW R s args own C index y bytes maxL ret hh ws rm mc ms n := by
  obtain ⟨hC, hd⟩ := hd
  subst hC
  have ok : ∀ w ∈ wsV own index y.cls y ws, w.before args s = true := fun w h => ht w (hT w h).1
  have hG : GoodIn Ts ws := fun w h => hT w (by unfold wsV; exact List.mem_append_right _ h)
  have hc : Cond.codeWith y bytes maxL ret hh ∈ ws := by rw [hw]; exact List.mem_cons_self
  refine ⟨⟨hrc, hrs, hR.1, hR.2, pay_in ht hG, hc⟩, ht _ (hG _ hc).1, ok _ (by simp [wsV]), ⟨hd.1, hd.2.1⟩, fun sig h => ?_, ok _ (by simp [wsV]), ok _ (by simp [wsV]), ok _ (by simp [wsV])⟩
  have h2 := hd.2.2
  rw [h] at h2
  exact (Option.some.inj h2).symm
theorem vx_runVW {y : MethodName} {bytes cc : ByteArray} {maxL nL mc ms n index : Nat} {ret : Option FieldType} {hh : List (Nat × Nat × Nat × Nat)} {ws : List Cond} {rm : Room} {Pc : Array Value → State → Prop} {Qc : Array Value → State → Outcome → State → Prop} {free : Addr → Prop} {Ts : List Cond} {own C : String} {b : Addr} {As rest : List Value} {g : JFrame}
    (S : CallFix p m c cc nL s args Ts own) (hM : Met l y ws rm Pc Qc mc ms free) (cw : vx_CVW R s args own C index y bytes maxL ret hh ws rm mc ms n) (hp : PreV s H C b Pc As)
    (hg : g.method = m) (hn : As.length = n) (hsize : g.locals.size = nL) (hstack : g.stack = As.reverse ++ .ref b :: rest) (hW : 2 * g.monitorRoom + (rest.map fun v => v.category).sum ≤ 8) (hdg : decode cc g.pc = .ok (.invokevirtual index, 3)) (hf : cells + mc ≤ R.cells ∧ slots + ms ≤ R.slots) :
    va_Run p l e R s m args below meth c H locs cells slots mc ms g rest (Qc (Value.ref b :: As).toArray) free := by
  obtain ⟨⟨hrc, hrs, hfr, hlo, hws, hcw⟩, hcode, hini, hy, hlen, hl, hin, hse⟩ := cw
  have hK : Back l R p e below s args y 3 8 (PreOf R mc ms Pc) (PostOf Qc mc ms free) := va_backW (hh := hh) (bytes := bytes) (maxL := maxL) (ret := ret) hM hp.1 hrc hrs hfr hlo hws hcw (fun a' U hW => word_at hW (Or.inl (by first | rfl | simp [Cond.onTables, Cond.keeps, Cond.steady])) hini)
  obtain ⟨hx, hb, hml, ho, -⟩ := S
  obtain ⟨-, ⟨cellB, hcB, hoB, hclB⟩, hPc⟩ := hp
  intro T hT X
  obtain ⟨v, vm₁, ⟨U', l2, c2, s2⟩, hW₁, X', ⟨g', mk, t, L, e1, e2, hq, h1, hL, h2, h3⟩, st⟩ := vx_callVW X hx (C := C) (hh := hh) (bytes := bytes) (maxL := maxL) (ret := ret) ho hl hin hse hcode hy hK (by rw [hT]; exact hcB) hoB hclB hg (hsize.trans hml.symm) (argsL := As) (rest := rest) (fun sig h => hn.trans (hlen sig h)) hstack hW (by rw [hb]; exact hdg)
    (fun vm₁ hW₁ => ⟨hf.1, hf.2, hPc (T.setVm vm₁) hT hW₁⟩)
  dsimp only [Pt.U, Pt.locs, Pt.cells, Pt.slots] at X' e1 e2 h1 h2 h3 st
  subst h1; subst h2; subst h3
  exact ⟨v, (T.setVm vm₁).calling g' mk (Value.ref b :: As).toArray, t, U', L, hT, X', hL, e1, e2, hq, st⟩
section
variable {y : MethodName} {bytes cc : ByteArray} {maxL nL mc ms n index : Nat} {ret : Option FieldType} {ws : List Cond} {rm : Room} {Pc : Array Value → State → Prop} {Qc : Array Value → State → Outcome → State → Prop} {XC : String → State → State → Prop} {free : Addr → Prop} {Ts : List Cond} {own C : String} {b : Addr} {As rest : List Value} {g : JFrame}
theorem vx_runVX {hh : List (Nat × Nat × Nat × Nat)} (S : CallFix p m c cc nL s args Ts own) (hM : vx_Met l y ws rm Pc Qc XC mc ms free) (cw : vx_CVW R s args own C index y bytes maxL ret hh ws rm mc ms n) (hp : PreV s H C b Pc As)
    (hg : g.method = m) (hn : As.length = n) (hsize : g.locals.size = nL) (hstack : g.stack = As.reverse ++ .ref b :: rest) (hW : 2 * g.monitorRoom + (rest.map fun v => v.category).sum ≤ 8) (hdg : decode cc g.pc = .ok (.invokevirtual index, 3)) (hf : cells + mc ≤ R.cells ∧ slots + ms ≤ R.slots) :
    vx_Run p l e R s m args below meth c H locs cells slots mc ms g rest (Qc (Value.ref b :: As).toArray) XC free := by
  obtain ⟨⟨hrc, hrs, hfr, hlo, hws, hcw⟩, hcode, hini, hy, hlen, hl, hin, hse⟩ := cw
  have hK : vx_Back l R p e below s args y 3 8 (PreOf R mc ms Pc) (PostOf Qc mc ms free) (vx_Post XC mc ms free) := vx_backW (hh := hh) (bytes := bytes) (maxL := maxL) (ret := ret) hM hp.1 hrc hrs hfr hlo hws hcw (fun a' U hW => word_at hW (Or.inl (by first | rfl | simp [Cond.onTables, Cond.keeps, Cond.steady])) hini)
  obtain ⟨hx, hb, hml, ho, -⟩ := S
  obtain ⟨-, ⟨cellB, hcB, hoB, hclB⟩, hPc⟩ := hp
  intro T hT X
  rcases vx_callVX X hx (C := C) (hh := hh) (bytes := bytes) (maxL := maxL) (ret := ret) ho hl hin hse hcode hy hK (by rw [hT]; exact hcB) hoB hclB hg (hsize.trans hml.symm) (argsL := As) (rest := rest) (fun sig h => hn.trans (hlen sig h)) hstack hW (by rw [hb]; exact hdg)
    (fun vm₁ hW₁ => ⟨hf.1, hf.2, hPc (T.setVm vm₁) hT hW₁⟩) with ⟨v, vm₁, ⟨U', l2, c2, s2⟩, hW₁, X', ⟨g', mk, t, L, e1, e2, hq, h1, hL, h2, h3⟩, st⟩ | ⟨q, vm₁, ⟨U', l2, c2, s2⟩, hW₁, X', ⟨g', mk, t, L, E, ce, e1, e2, hq, hce, hcv, hcl, h1, hL, h2, h3⟩, st⟩
  · dsimp only [Pt.U, Pt.locs, Pt.cells, Pt.slots] at X' e1 e2 h1 h2 h3 st
    subst h1; subst h2; subst h3
    exact Or.inl ⟨v, (T.setVm vm₁).calling g' mk (Value.ref b :: As).toArray, t, U', L, hT, X', hL, e1, e2, hq, st⟩
  · dsimp only [Pt.U, Pt.locs, Pt.cells, Pt.slots] at X' e1 e2 h1 h2 h3 st hcl
    subst h1; subst h2; subst h3
    exact Or.inr ⟨q, (T.setVm vm₁).calling g' mk (Value.ref b :: As).toArray, t, U', L, E, ce, hT, X', hL, e1, e2, hq, hce, hcv, vx_cls hW₁ hcl, st⟩
theorem vx_runSX {hh : List (Nat × Nat × Nat × Nat)} (S : CallFix p m c cc nL s args Ts own) (hM : vx_Met l y ws rm Pc Qc XC mc ms free) (cw : vx_CSW R s args own index y bytes maxL ret hh ws rm mc ms n) (hp : PreS s H Pc As)
    (hg : g.method = m) (hn : As.length = n) (hsize : g.locals.size = nL) (hstack : g.stack = As.reverse ++ rest) (hW : 2 * g.monitorRoom + (rest.map fun v => v.category).sum ≤ 8) (hdg : decode cc g.pc = .ok (.invokestatic index, 3)) (hf : cells + mc ≤ R.cells ∧ slots + ms ≤ R.slots) :
    vx_Run p l e R s m args below meth c H locs cells slots mc ms g rest (Qc As.toArray) XC free := by
  obtain ⟨⟨hrc, hrs, hfr, hlo, hws, hcw⟩, hcode, hini, hy, hlen, hl, hstt⟩ := cw
  have hK : vx_Back l R p e below s args y 3 8 (PreOf R mc ms Pc) (PostOf Qc mc ms free) (vx_Post XC mc ms free) := vx_backW (hh := hh) (bytes := bytes) (maxL := maxL) (ret := ret) hM hp.1 hrc hrs hfr hlo hws hcw (fun a' U hW => word_at hW (Or.inl (by first | rfl | simp [Cond.onTables, Cond.keeps, Cond.steady])) hini)
  obtain ⟨hx, hb, hml, ho, -⟩ := S
  intro T hT X
  rcases vx_callSX X hx (hh := hh) (bytes := bytes) (maxL := maxL) (ret := ret) ho hl hstt hini hcode hy hK hg (hsize.trans hml.symm) (argsL := As) (rest := rest) (fun sig h => hn.trans (hlen sig h)) hstack hW (by rw [hb]; exact hdg)
    (fun vm₁ hW₁ => ⟨hf.1, hf.2, hp.2 (T.setVm vm₁) hT hW₁⟩) with ⟨v, vm₁, ⟨U', l2, c2, s2⟩, hW₁, X', ⟨g', mk, t, L, e1, e2, hq, h1, hL, h2, h3⟩, st⟩ | ⟨q, vm₁, ⟨U', l2, c2, s2⟩, hW₁, X', ⟨g', mk, t, L, E, ce, e1, e2, hq, hce, hcv, hcl, h1, hL, h2, h3⟩, st⟩
  · dsimp only [Pt.U, Pt.locs, Pt.cells, Pt.slots] at X' e1 e2 h1 h2 h3 st
    subst h1; subst h2; subst h3
    exact Or.inl ⟨v, (T.setVm vm₁).calling g' mk As.toArray, t, U', L, hT, X', hL, e1, e2, hq, st⟩
  · dsimp only [Pt.U, Pt.locs, Pt.cells, Pt.slots] at X' e1 e2 h1 h2 h3 st hcl
    subst h1; subst h2; subst h3
    exact Or.inr ⟨q, (T.setVm vm₁).calling g' mk As.toArray, t, U', L, E, ce, hT, X', hL, e1, e2, hq, hce, hcv, vx_cls hW₁ hcl, st⟩
end
end VXH
theorem vx_ofWH {l : Launch} {y : MethodName} {ws ws' : List Cond} {rm : Room} {Pc : Array Value → State → Prop} {Qc : Array Value → State → Outcome → State → Prop} {XC : String → State → State → Prop} {mc ms : Nat} {free : Addr → Prop} {cc : ByteArray} {maxL : Nat} {ret : Option FieldType} {hh : List (Nat × Nat × Nat × Nat)}
    (hy : plainName y.cls = true) (hw : ws = Cond.codeWith y cc maxL ret hh :: ws')
    (body : ∀ p e s m args below meth c s₁, BodyLoose p l y (headSpec ws rm) cc maxL ret e s m args below meth c s₁ → c.maxLocals = maxL → Pc args s →
      W p l e (headSpec ws rm).room s m args below meth c s.heap [] 0 0 (vx_MQ below Qc XC args s mc ms free) (entryFrame m args maxL)) : vx_Met l y ws rm Pc Qc XC mc ms free := by
  refine MetFree.of_bodyS (code := cc) (maxLocals := maxL) (ret := ret) hy ?_ ?_
  · intro args s m h hn
    obtain ⟨m9, meth, c, hn9, h1, h2, h3, h4, -, h5, h6, -⟩ := Cond.codeWith_spec (atoms_spec (ws := ws) h _ (by rw [hw]; exact List.mem_cons_self))
    cases hn.symm.trans hn9
    exact ⟨meth, c, h1, h2, h3, h4, h5, h6⟩
  · intro p e s m args below meth c s₁ B hml hP _
    have hh0 : s₁.heap = s.heap := by rw [B.state]; rfl
    obtain ⟨t, a1, o, b1, b2, b3⟩ := body p e s m args below meth c s₁ B hml hP s₁ hh0 (Stand.of_body B)
    exact ⟨t, o, a1, b1, b2, b3⟩
/-! ===== END ===== -/
end
section
/-! ===== BEGIN what the machine throws by itself, no traces kept ===== -/
section VXM
set_option maxHeartbeats 1000000 in
/-- the machine throws cls with the message text, no traces kept: from its note over the frame g to 'throwing' over the same frame (follows the proofs of Stand.vmThrowsMessage, Shelf/KitTracedVmS.lean, and Stand.throwsMessageColdBareV, StandMessageColdV.lean, without the step out of the frame) -/
theorem vx_vmAt {p : Program} {l : Launch} {e : Env} {R : Room} {s : State} {m₀ : MethodId} {args : Array Value} {below : List Frame} {meth : Method} {c : Code} {W : State} {locs : List Loc} {cells slots : Nat}
    (X : Stand p l e R s m₀ args below meth c W locs cells slots) (hexec : p.tables.exec = Jvm.exec) (htr : e.platform.stackTraces = false) {cls : String} {names : List String} {text : String}
    (hcls : Bundle.fit cls = true) (hnames : ∀ n ∈ names, Bundle.fit n = true) (hsoe : (cls == "java/lang/StackOverflowError") = false) (hoom : (cls == "java/lang/OutOfMemoryError") = false)
    (h : ∀ a ∈ Bundle.messageArmAtoms cls names, a.before args s = true)
    (hlocs : ∀ x ∈ locs, ∀ cell, s.heap[x.base]? = some cell → cell.vm.isStatics = false)
    (htext : (text == notModelled) = false) (hlimit : ¬ (stringBytes (stringToUtf16 text)).size > e.platform.arrayLengthLimit) (hheap : ¬ (stringBytes (stringToUtf16 text)).size * componentBytes .byte > e.platform.maxHeapBytes)
    {g : JFrame} (hg : g.method = m₀) (hsize : g.locals.size = c.maxLocals)
    (hRframes : names.length + 4 < R.frames) (hRlocals : 2 * g.monitorRoom + (g.stack.map fun v => v.category).sum + 10240 ≤ R.locals) (hshort : 13 * names.length + 55 ≤ 10240)
    (hRcells : cells + 3 ≤ R.cells) (hRslots : slots + ((stringBytes (stringToUtf16 text)).size + 4 + 6) ≤ R.slots) (hlocks : meth.locks = false) :
    ∃ (S : State) (q : Addr) (ce : Cell), (∀ target, Steps p.tables e below ((S.setTop g).pushFrame (.throwing q)) target → Steps p.tables e below ((W.setTop g).pushFrame (.throwNew cls (some text) none)) target) ∧
      Stand p l e R s m₀ args below meth c S locs (cells + 3) (slots + ((stringBytes (stringToUtf16 text)).size + 4 + 6)) ∧ S.heap[q]? = some ce ∧ s.vm.findClass cls = some ce.cls ∧ ce.vm = .none := by
  have howns : e.platform.frameOwnsMonitors = true := by rw [X.admits.platform]
  have hfin : e.platform.finalization = false := by rw [X.admits.platform]
  have hpl : e.platform.magicAccessors = ({} : Platform).magicAccessors := by rw [X.admits.platform]
  have a : ∀ x, x ∈ Bundle.messageArmAtoms cls names → x.holds args s none s [] = true := fun x hx => h x hx
  obtain ⟨T, Z0, L, -, Y⟩ := ThrowableC.of_atoms (args := args) howns hfin hpl (fun x hx => h x (by simp [Bundle.messageArmAtoms, hx]))
  obtain ⟨Z, M, LZ, LM, hnZ⟩ := Init0T.ofS_atoms (args := args) hpl L Y (fun x hx => h x (by simp [Bundle.messageArmAtoms, hx]))
  obtain ⟨P1, Ps, hlen, L1, hL, hP1m, hlink1, hlink⟩ := Bundle.chainS (args := args) hpl hnZ names cls hcls hnames (fun x hx => h x (by simp [Bundle.messageArmAtoms, hx]))
  obtain ⟨Zs, LZs, hn4, hfitv, hfitc⟩ := StringT.of_atoms (args := args) (fun x hx => h x (by simp [Bundle.messageArmAtoms, hx]))
  have hfound : s.vm.findClass cls = some P1.m.cls := findClass_of_methodNamed hP1m
  obtain ⟨c1, kX, hc1, hk, hord, -, -, hn6⟩ := Cond.instantiable_spec (a (.instantiable cls 6) (by simp [Bundle.messageArmAtoms]))
  cases Option.some.inj (hc1.symm.trans hfound)
  have hinit := Cond.initialized_spec hfound hk (a (.initialized cls) (by simp [Bundle.messageArmAtoms]))
  have hctor : kX.findMethod "<init>" "(Ljava/lang/String;)V" = some P1.m.idx := findMethod_of_methodNamed hP1m hk
  have hsel0 : selectMethod e.platform s.vm P1.m.cls T.fill0 = .method T.fill0 := by
    obtain ⟨c2, r2, m2, q1, q2, q3, q4, -⟩ := Cond.selects_spec (a (.selects cls Bundle.tFill0 Bundle.tFill0) (by simp [Bundle.messageArmAtoms]))
    cases Option.some.inj (q1.symm.trans hfound)
    cases Option.some.inj (q2.symm.trans (State.methodFound?_of_named Y.fill0 (by decide)))
    cases Option.some.inj (q3.symm.trans Y.fill0)
    rw [Launch.admits_selectMethod X.admits]; exact q4
  have hselF : selectMethod e.platform s.vm P1.m.cls T.fill = .method T.fill := by
    obtain ⟨c2, r2, m2, q1, q2, q3, q4, -⟩ := Cond.selects_spec (a (.selects cls Bundle.tFill Bundle.tFill) (by simp [Bundle.messageArmAtoms]))
    cases Option.some.inj (q1.symm.trans hfound)
    cases Option.some.inj (q2.symm.trans (State.methodFound?_of_named Y.fill (by decide)))
    cases Option.some.inj (q3.symm.trans Y.fill)
    rw [Launch.admits_selectMethod X.admits]; exact q4
  obtain ⟨cellS0, hcS0, hiss⟩ := Y.statics
  obtain ⟨u0, hu0⟩ := Cond.staticRefV Y.unassigned L.unassignedStatic L.statics hcS0 hiss (a (.isRef (.static Bundle.tN "UNASSIGNED_STACK" Bundle.steD)) (by simp [Bundle.messageArmAtoms]))
  obtain ⟨sen, hsen⟩ := Cond.staticRefV Y.sentinel L.sentinelStatic L.statics hcS0 hiss (a (.isRef (.static Bundle.tN "SUPPRESSED_SENTINEL" Bundle.listD)) (by simp [Bundle.messageArmAtoms]))
  obtain ⟨ci198, i198, fB, hk198, hg198, ha198, hsB, -, hnB, htB, hffB⟩ := Cond.ownField (t := .object "java/lang/Object") Y.found L.cls (by decide +kernel) (a (.fieldLink Bundle.tN 198 Bundle.tN "backtrace" "Ljava/lang/Object;") (by simp [Bundle.messageArmAtoms])) (a (.lays Bundle.tN Bundle.tN "backtrace" "Ljava/lang/Object;") (by simp [Bundle.messageArmAtoms])) e.platform hpl
  obtain ⟨cellS, hcS', heS, -, hkeep⟩ := X.same.2.2.2.2.2 T.aS cellS0 hcS0
  have hcellS : W.heap[T.aS]? = some cellS := hcS'
  have hout' : ∀ i, (⟨T.aS, i⟩ : Loc) ∉ locs := fun i hmem => by
    have := hlocs _ hmem cellS0 hcS0
    rw [hiss] at this; cases this
  have hknownS : cellS.vm ≠ .unknown := by
    rw [heS]; intro hu
    rw [show cellS0.vm = .unknown from hu] at hiss
    cases hiss
  have hvU : cellS.slots[T.fUnassigned.slot]? = some u0.v := by rw [hkeep _ (hout' _)]; exact hu0
  have hvSen : cellS.slots[T.fSentinel.slot]? = some sen.v := by rw [hkeep _ (hout' _)]; exact hsen
  obtain ⟨iM, hffM⟩ := Y.msg
  obtain ⟨tyC, dC, hdC, hdnC⟩ := Cond.laysAt hfound hk Y.cause (a (.lays cls Bundle.tN "cause" "Ljava/lang/Throwable;") (by simp [Bundle.messageArmAtoms]))
  obtain ⟨tyS, dS, hdS, hdnS⟩ := Cond.laysAt hfound hk Y.stack (a (.lays cls Bundle.tN "stackTrace" Bundle.steD) (by simp [Bundle.messageArmAtoms]))
  obtain ⟨tyP, dP, hdP, hdnP⟩ := Cond.laysAt hfound hk Y.supp (a (.lays cls Bundle.tN "suppressedExceptions" Bundle.listD) (by simp [Bundle.messageArmAtoms]))
  obtain ⟨tyM, dM, hdM, hdnM⟩ := Cond.laysAt hfound hk hffM (a (.lays cls Bundle.tN "detailMessage" "Ljava/lang/String;") (by simp [Bundle.messageArmAtoms]))
  obtain ⟨tyB, dB, hdB, hdnB⟩ := Cond.laysAt hfound hk hffB (a (.lays cls Bundle.tN "backtrace" "Ljava/lang/Object;") (by simp [Bundle.messageArmAtoms]))
  have bC := Cond.laysApart hdB hdC hdnB hdnC (by rw [hnB, Y.causeName]; decide)
  have bS := Cond.laysApart hdB hdS hdnB hdnS (by rw [hnB, Y.stackName]; decide)
  have bP := Cond.laysApart hdB hdP hdnB hdnP (by rw [hnB, Y.suppName]; decide)
  have hbk : ((preparedCellV T.toThrowableT (freshCell P1.m.cls kX) (W.heap.size + 2) u0 sen).withEntry W.cur).slots[fB.slot]? = some .null := by
    have := fresh_default (c := P1.m.cls) tyB
    rw [htB] at this
    simpa [preparedCellV, Cell.setSlot, Cell.withEntry, Array.getElem?_setIfInBounds, bC, bS, bP, bC.symm, bS.symm, bP.symm, defaultValue] using this
  have tkC := Takes.of_laid (v := .ref (W.heap.size + 2)) hk hord tyC (by rw [Y.causeType]; rfl)
  have tkS := Takes.of_laid (v := u0.v) hk hord tyS (by rw [Y.stackType]; exact fits_refV_array _ u0)
  have tkP := Takes.of_laid (v := sen.v) hk hord tyP (by rw [Y.suppType]; exact fits_refV_object _ sen)
  have tkM := Takes.of_laid (v := .ref (W.heap.size + 1)) hk hord tyM (by rw [Y.msgType]; rfl)
  have hskip : SkipFacts T e.platform s (fun u => u) u0 ((preparedCellV T.toThrowableT (freshCell P1.m.cls kX) (W.heap.size + 2) u0 sen).withEntry W.cur) := ⟨{ ci198 := ci198, i198 := i198, fBack := fB }, ⟨hk198, hg198, ha198, hsB⟩, hbk, fun _ _ => rfl⟩
  have h0 : At W g.method c below := by rw [hg]; exact X.here
  obtain ⟨hbeyond, hfreeW⟩ := X.vmMayThrow hsize (.throwNew cls (some text) none) (fun f hf => by cases hf) rfl hRlocals
  have hfr' : W.frames.length + Ps.length + 4 < (e.platform.stackLimits W.me).1 := by have := X.framesAbove hRframes; omega
  have hwd' : (stackUse (.java g :: W.frames.tail)).2 + 13 * Ps.length + 55 ≤ (e.platform.stackLimits W.me).2 := by have := X.stackAbove hsize (K := 13 * Ps.length + 55) (by omega); omega
  have hslots : W.slotsUsed + (stringBytes (stringToUtf16 text)).size + Zs.kS.instanceTypes.size + kX.instanceTypes.size ≤ e.platform.maxSlots := by
    have := X.slotsAbove hRslots
    rw [hn4, hn6]
    omega
  obtain ⟨vm', hW', st⟩ := Steps.vmThrowsMessageColdByV p (s₀ := s) (S := W) (g := g) h0 hexec T L Z LZ M LM X.warmed (t := W.cur) rfl Zs LZs P1 L1 Ps hL hlink1 hlink hsoe hoom hfound hk hinit hord hctor
    (Launch.admits_hotImplicitExceptions X.admits) hbeyond hfreeW htext hlimit hheap (X.cellsAbove hRcells) hslots (hfitv _) (hfitc _)
    (Nn := fun u => u) heapOnly_id (fun _ _ => rfl) (fun _ => rfl) (fun u x y => setCell_twice _ _ _ _) (fun _ => Nat.le_refl _) (cN := ((preparedCellV T.toThrowableT (freshCell P1.m.cls kX) (W.heap.size + 2) u0 sen).withEntry W.cur))
    hsel0 hcellS hknownS hvU tkS (fun _ hu => hu) (fun _ hu => hu) rfl rfl rfl (by simp [preparedCellV, Cell.setSlot, Cell.withEntry]) hskip (fun _ _ hA hW _ hroom _ hrest => L.nativeOff p htr hA hW hroom hrest) hselF hvSen tkC tkP tkM Y.objLocals rfl hfr' hwd'
  rw [plainBareV_eq T.toThrowableT (W.heap.size + 2) u0 sen (.ref (W.heap.size + 1)) W.cur rfl rfl] at st
  obtain ⟨-, -, w3, w4, -, -, -⟩ := withThrown_facts e.platform W Zs text P1.m.cls kX
  have X3 := ((X.pushed (bytesOf Zs.cB (stringToUtf16 text))).pushed (stringAt Zs.cS Zs.kS Zs.fv Zs.fc (stringToUtf16 text) W.heap.size)).pushed (freshCell P1.m.cls kX)
  rw [← withString_eq] at X3
  have X4 := X3.noted hW'
  have ha : (W.heap.size + 2) < ((withThrown W Zs text P1.m.cls kX).setVm vm').heap.size := by show _ < (withThrown W Zs text P1.m.cls kX).heap.size; rw [w3]; omega
  have hcell : ((withThrown W Zs text P1.m.cls kX).setVm vm').heap[(W.heap.size + 2)]? = some (freshCell P1.m.cls kX) := w4
  have X5 := ((((X4.stored hcell T.fCause.slot (.ref (W.heap.size + 2))).storedAgain ha T.fStack.slot u0.v).storedAgain ha T.fSupp.slot sen.v).storedAgain ha T.fStack.slot u0.v).storedAgain ha T.fMsg.slot (.ref (W.heap.size + 1))
  obtain ⟨g₁, hfrM⟩ := X5.frames_eq
  have hU : ((((withThrown W Zs text P1.m.cls kX).setVm vm').setCell (W.heap.size + 2) (plainBareV T.toThrowableT (freshCell P1.m.cls kX) (W.heap.size + 2) u0 sen (.ref (W.heap.size + 1)))).setTop g).pushFrame (.throwing (W.heap.size + 2)) = (((withThrown W Zs text P1.m.cls kX).setVm vm').setCell (W.heap.size + 2) (plainBareV T.toThrowableT (freshCell P1.m.cls kX) (W.heap.size + 2) u0 sen (.ref (W.heap.size + 1)))).setFrames (.throwing (W.heap.size + 2) :: .java g :: below) := by
    rw [State.pushFrame, State.frames_setTop _ hfrM, State.setTop_of_frames _ hfrM, State.setFrames_setFrames]
  have b1 : (bytesOf Zs.cB (stringToUtf16 text)).slots.size = (stringBytes (stringToUtf16 text)).size := by
    rw [(Cell.writeAll_facts _ _).2.2]; simp [bytes0]
  have b2 : (stringAt Zs.cS Zs.kS Zs.fv Zs.fc (stringToUtf16 text) W.heap.size).slots.size = 4 := by simp [string0, Cell.setSlot, hn4]
  have b3 : (freshCell P1.m.cls kX).slots.size = 6 := by simp [hn6]
  rw [b1, b2, b3] at X5
  have e9 : slots + (stringBytes (stringToUtf16 text)).size + 4 + 6 = slots + ((stringBytes (stringToUtf16 text)).size + 4 + 6) := by omega
  rw [e9] at X5
  simp only [List.append_assoc, List.cons_append, List.nil_append] at X5
  refine ⟨((withThrown W Zs text P1.m.cls kX).setVm vm').setCell (W.heap.size + 2) (plainBareV T.toThrowableT (freshCell P1.m.cls kX) (W.heap.size + 2) u0 sen (.ref (W.heap.size + 1))), W.heap.size + 2, _, fun target ht => st _ (by rw [X.tail, ← hU]; exact ht),
    X5.forget (fun y hy => ?_), heapAt_setCell_self _ ha, hfound, rfl⟩
  simp only [List.mem_cons, List.not_mem_nil, or_false] at hy
  have hge : s.heap.size ≤ W.heap.size := X.same.2.1
  rcases hy with rfl | rfl | rfl | rfl | rfl <;> exact Nat.le_trans hge (Nat.le_add_right _ 2)
set_option maxHeartbeats 1000000 in
/-- the machine throws NullPointerException, no traces kept: from its note over the frame g to 'throwing' over the same frame (follows the proof of Stand.vmThrowsNpe, Shelf42/KT2.lean; throwsNpeColdBareVAt, Shelf42/NT91.lean, called) -/
theorem vx_npeAt {p : Program} {l : Launch} {e : Env} {R : Room} {s : State} {m₀ : MethodId} {args : Array Value} {below : List Frame} {meth : Method} {c : Code} {W : State} {locs : List Loc} {cells slots : Nat}
    (X : Stand p l e R s m₀ args below meth c W locs cells slots) (hexec : p.tables.exec = Jvm.exec) (htr : e.platform.stackTraces = false) {n : Nat}
    (h : ∀ a ∈ Bundle.npeArmAtoms n, a.before args s = true)
    (hlocs : ∀ x ∈ locs, ∀ cell, s.heap[x.base]? = some cell → cell.vm.isStatics = false)
    {g : JFrame} (hg : g.method = m₀) (hsize : g.locals.size = c.maxLocals)
    (hRframes : 7 < R.frames) (hRlocals : 2 * g.monitorRoom + (g.stack.map fun v => v.category).sum + 10240 ≤ R.locals)
    (hRcells : cells + 1 ≤ R.cells) (hRslots : slots + n ≤ R.slots) (hlocks : meth.locks = false) :
    ∃ (S : State) (q : Addr) (ce : Cell), (∀ target, Steps p.tables e below ((S.setTop g).pushFrame (.throwing q)) target → Steps p.tables e below ((W.setTop g).pushFrame (.throwNew "java/lang/NullPointerException" none none)) target) ∧
      Stand p l e R s m₀ args below meth c S locs (cells + 1) (slots + n) ∧ S.heap[q]? = some ce ∧ s.vm.findClass "java/lang/NullPointerException" = some ce.cls ∧ ce.vm = .none := by
  have howns : e.platform.frameOwnsMonitors = true := by rw [X.admits.platform]
  have hfin : e.platform.finalization = false := by rw [X.admits.platform]
  have hpl : e.platform.magicAccessors = ({} : Platform).magicAccessors := by rw [X.admits.platform]
  have hpl2 : e.platform.arrayCloneIsPublic = true := by rw [X.admits.platform]
  have a' : ∀ x, x ∈ Bundle.npeArmAtoms n → x.holds args s none s [] = true := fun x hx => h x hx
  obtain ⟨T, Z, L, LZ, Y⟩ := ThrowableC.of_atoms (args := args) howns hfin hpl (fun x hx => h x (by simp [Bundle.npeArmAtoms, hx]))
  obtain ⟨N, LN, hcN, hnNF, hordN, hffS⟩ := NpeC.of_atoms (args := args) hpl hpl2 L Y (fun x hx => h x (by simp [Bundle.npeArmAtoms, hx]))
  obtain ⟨P1, L1, hP1m, hP1s⟩ := PassC.of_atoms (args := args) (s := s) hpl (X := Bundle.nN) (Y := Bundle.rN) (by decide) (by decide) LibCode.NullPointerException.Init0.at_0 LibCode.NullPointerException.Init0.at_1 LibCode.NullPointerException.Init0.at_4 (fun x hx => h x (by simp [Bundle.npeArmAtoms, hx]))
  obtain ⟨PR, LR, hPRm, hPRs⟩ := PassC.of_atoms (args := args) (s := s) hpl (X := Bundle.rN) (Y := Bundle.eN) (by decide) (by decide) LibCode.RuntimeException.Init0.at_0 LibCode.RuntimeException.Init0.at_1 LibCode.RuntimeException.Init0.at_4 (fun x hx => h x (by simp [Bundle.npeArmAtoms, hx]))
  obtain ⟨PE, LEx, hPEm, hPEs⟩ := PassC.of_atoms (args := args) (s := s) hpl (X := Bundle.eN) (Y := Bundle.tN) (by decide) (by decide) LibCode.Exception.Init0.at_0 LibCode.Exception.Init0.at_1 LibCode.Exception.Init0.at_4 (fun x hx => h x (by simp [Bundle.npeArmAtoms, hx]))
  have hfound : s.vm.findClass Bundle.nN = some P1.m.cls := findClass_of_methodNamed hP1m
  have ecls : N.cN = P1.m.cls := Option.some.inj (hcN.symm.trans hfound)
  have hk : s.vm.classes[P1.m.cls]? = some N.kN := by rw [← ecls]; exact LN.cls
  have hinit := Cond.initialized_spec hfound hk (a' (.initialized Bundle.nN) (by simp [Bundle.npeArmAtoms]))
  have hctor : N.kN.findMethod "<init>" "()V" = some P1.m.idx := findMethod_of_methodNamed hP1m hk
  obtain ⟨c1, k1, hc1, hk1, -, -, -, hn⟩ := Cond.instantiable_spec (a' (.instantiable Bundle.nN n) (by simp [Bundle.npeArmAtoms]))
  cases Option.some.inj (hc1.symm.trans hfound)
  cases Option.some.inj (hk1.symm.trans hk)
  have hfsz : (freshCell P1.m.cls N.kN).slots.size = n := by simp [hn]
  have hlink1 : P1.sup = PR.m := Option.some.inj (hP1s.symm.trans hPRm)
  have hlinkR : PR.sup = PE.m := Option.some.inj (hPRs.symm.trans hPEm)
  have hlinkE : PE.sup = Z.m T.toThrowableT := Option.some.inj (hPEs.symm.trans Y.init0)
  have hLs : ∀ P, P ∈ [PR, PE] → P.Links0 e.platform s := fun P hP => by
    simp only [List.mem_cons, List.not_mem_nil, or_false] at hP
    rcases hP with rfl | rfl
    · exact LR
    · exact LEx
  have hsel0 : selectMethod e.platform s.vm P1.m.cls T.fill0 = .method T.fill0 := by
    obtain ⟨c2, r2, m2, q1, q2, q3, q4, -⟩ := Cond.selects_spec (a' (.selects Bundle.nN Bundle.tFill0 Bundle.tFill0) (by simp [Bundle.npeArmAtoms]))
    cases Option.some.inj (q1.symm.trans hfound)
    cases Option.some.inj (q2.symm.trans (State.methodFound?_of_named Y.fill0 (by decide)))
    cases Option.some.inj (q3.symm.trans Y.fill0)
    rw [Launch.admits_selectMethod X.admits]; exact q4
  have hselF : selectMethod e.platform s.vm P1.m.cls T.fill = .method N.fill := by
    obtain ⟨c2, r2, m2, q1, q2, q3, q4, -⟩ := Cond.selects_spec (a' (.selects Bundle.nN Bundle.tFill Bundle.nFill) (by simp [Bundle.npeArmAtoms]))
    cases Option.some.inj (q1.symm.trans hfound)
    cases Option.some.inj (q2.symm.trans (State.methodFound?_of_named Y.fill (by decide)))
    cases Option.some.inj (q3.symm.trans hnNF)
    rw [Launch.admits_selectMethod X.admits]; exact q4
  obtain ⟨cellS0, hcS0, hiss⟩ := Y.statics
  obtain ⟨u0, hu0⟩ := Cond.staticRefV Y.unassigned L.unassignedStatic L.statics hcS0 hiss (a' (.isRef (.static Bundle.tN "UNASSIGNED_STACK" Bundle.steD)) (by simp [Bundle.npeArmAtoms]))
  obtain ⟨sen, hsen⟩ := Cond.staticRefV Y.sentinel L.sentinelStatic L.statics hcS0 hiss (a' (.isRef (.static Bundle.tN "SUPPRESSED_SENTINEL" Bundle.listD)) (by simp [Bundle.npeArmAtoms]))
  obtain ⟨ci198, i198, fB, hk198, hg198, ha198, hsB, -, hnB, htB, hffB⟩ := Cond.ownField (t := .object "java/lang/Object") Y.found L.cls (by decide +kernel) (a' (.fieldLink Bundle.tN 198 Bundle.tN "backtrace" Bundle.objD) (by simp [Bundle.npeArmAtoms])) (a' (.lays Bundle.tN Bundle.tN "backtrace" Bundle.objD) (by simp [Bundle.npeArmAtoms])) e.platform hpl
  obtain ⟨cellS, hcS', heS, -, hkeep⟩ := X.same.2.2.2.2.2 T.aS cellS0 hcS0
  have hcellS : W.heap[T.aS]? = some cellS := hcS'
  have hout' : ∀ i, (⟨T.aS, i⟩ : Loc) ∉ locs := fun i hmem => by
    have := hlocs _ hmem cellS0 hcS0
    rw [hiss] at this; cases this
  have hknownS : cellS.vm ≠ .unknown := by
    rw [heS]; intro hu
    rw [show cellS0.vm = .unknown from hu] at hiss
    cases hiss
  have hvU : cellS.slots[T.fUnassigned.slot]? = some u0.v := by rw [hkeep _ (hout' _)]; exact hu0
  have hvSen : cellS.slots[T.fSentinel.slot]? = some sen.v := by rw [hkeep _ (hout' _)]; exact hsen
  obtain ⟨tyC, dC, hdC, hdnC⟩ := Cond.laysAt hfound hk Y.cause (a' (.lays Bundle.nN Bundle.tN "cause" "Ljava/lang/Throwable;") (by simp [Bundle.npeArmAtoms]))
  obtain ⟨tyS, dS, hdS, hdnS⟩ := Cond.laysAt hfound hk Y.stack (a' (.lays Bundle.nN Bundle.tN "stackTrace" Bundle.steD) (by simp [Bundle.npeArmAtoms]))
  obtain ⟨tyP, dP, hdP, hdnP⟩ := Cond.laysAt hfound hk Y.supp (a' (.lays Bundle.nN Bundle.tN "suppressedExceptions" Bundle.listD) (by simp [Bundle.npeArmAtoms]))
  obtain ⟨tyX, dX, hdX, hdnX⟩ := Cond.laysAt hfound hk hffS (a' (.lays Bundle.nN Bundle.nN "extendedMessageState" "I") (by simp [Bundle.npeArmAtoms, Bundle.npeAtoms]))
  obtain ⟨hnX, htX⟩ := State.fieldFound?_type hffS (t := .int) (by decide +kernel)
  have xC := Cond.laysApart hdC hdX hdnC hdnX (by rw [hnX, Y.causeName]; decide)
  have xS := Cond.laysApart hdS hdX hdnS hdnX (by rw [hnX, Y.stackName]; decide)
  have xP := Cond.laysApart hdP hdX hdnP hdnX (by rw [hnX, Y.suppName]; decide)
  have hv0 : (freshCell P1.m.cls N.kN).slots[N.fState.slot]? = some (.int 0) := by
    have := fresh_default (c := P1.m.cls) tyX
    rw [htX] at this; exact this
  obtain ⟨tyB, dB, hdB, hdnB⟩ := Cond.laysAt hfound hk hffB (a' (.lays Bundle.nN Bundle.tN "backtrace" Bundle.objD) (by simp [Bundle.npeArmAtoms]))
  have bC := Cond.laysApart hdB hdC hdnB hdnC (by rw [hnB, Y.causeName]; decide)
  have bS := Cond.laysApart hdB hdS hdnB hdnS (by rw [hnB, Y.stackName]; decide)
  have bP := Cond.laysApart hdB hdP hdnB hdnP (by rw [hnB, Y.suppName]; decide)
  have bX := Cond.laysApart hdB hdX hdnB hdnX (by rw [hnB, hnX]; decide)
  have hbk : ((npeCell N.toNpeT (preparedCellV T.toThrowableT (freshCell P1.m.cls N.kN) W.heap.size u0 sen) W.cur).withEntry W.cur).slots[fB.slot]? = some .null := by
    have := fresh_default (c := P1.m.cls) tyB
    rw [htB] at this
    simpa [npeCell, preparedCellV, Cell.setSlot, Cell.withEntry, Array.getElem?_setIfInBounds, bC, bS, bP, bX, bC.symm, bS.symm, bP.symm, bX.symm, defaultValue] using this
  have tkC := Takes.of_laid (v := .ref W.heap.size) hk hordN tyC (by rw [Y.causeType]; rfl)
  have tkS := Takes.of_laid (v := u0.v) hk hordN tyS (by rw [Y.stackType]; exact fits_refV_array _ u0)
  have tkP := Takes.of_laid (v := sen.v) hk hordN tyP (by rw [Y.suppType]; exact fits_refV_object _ sen)
  have tkX := Takes.of_laid (v := .int 1) hk hordN tyX (by rw [htX]; rfl)
  have hskip : SkipFacts T e.platform s (fun u => u) u0 ((npeCell N.toNpeT (preparedCellV T.toThrowableT (freshCell P1.m.cls N.kN) W.heap.size u0 sen) W.cur).withEntry W.cur) := ⟨{ ci198 := ci198, i198 := i198, fBack := fB }, ⟨hk198, hg198, ha198, hsB⟩, hbk, fun _ _ => rfl⟩
  obtain ⟨vm', X3, st, -⟩ := X.throwsNpeColdBareVAt hexec hg hsize T L Z LZ N LN P1 L1 [PR, PE] hLs hlink1 ⟨hlinkR, hlinkE, trivial⟩ hfound hk hinit hordN hctor hsel0 hselF hcellS hknownS hvU hvSen
    hv0 xC xS xP tkC tkS tkP tkX Y.objLocals hskip (fun _ _ hA hW _ hroom _ hrest => L.nativeOff p htr hA hW hroom hrest) (by simpa using hRframes) hRlocals (by simp) hRcells (by rw [hn]; exact hRslots)
  have hlt : W.heap.size < ((W.pushCell (freshCell P1.m.cls N.kN)).setVm vm').heap.size := by
    show W.heap.size < (W.pushCell (freshCell P1.m.cls N.kN)).heap.size
    rw [State.heap_size_pushCell]; omega
  rw [hfsz] at X3
  obtain ⟨g₁, hfrM⟩ := X3.frames_eq
  have hU : ((((W.pushCell (freshCell P1.m.cls N.kN)).setVm vm').setCell W.heap.size (npeBareV T.toThrowableT N.toNpeT (freshCell P1.m.cls N.kN) W.heap.size u0 sen)).setTop g).pushFrame (.throwing W.heap.size) = (((W.pushCell (freshCell P1.m.cls N.kN)).setVm vm').setCell W.heap.size (npeBareV T.toThrowableT N.toNpeT (freshCell P1.m.cls N.kN) W.heap.size u0 sen)).setFrames (.throwing W.heap.size :: .java g :: below) := by
    rw [State.pushFrame, State.frames_setTop _ hfrM, State.setTop_of_frames _ hfrM, State.setFrames_setFrames]
  refine ⟨_, W.heap.size, _, fun target ht => st.trans (by rw [← hU]; exact ht), X3.forget (fun y hy => ?_), heapAt_setCell_self _ hlt, hfound, rfl⟩
  simp only [List.mem_cons, List.not_mem_nil, or_false] at hy
  have hge : s.heap.size ≤ W.heap.size := X.same.2.1
  rcases hy with rfl | rfl | rfl | rfl | rfl <;> exact hge
/-- the words of a machine's NullPointerException, but the four that speak of the heap -/
def vx_atN (n : Nat) : List Cond := (Bundle.npeArmAtoms n).filter vx_no
/-- the words of a machine's throw with a message, but the four that speak of the heap -/
def vx_atM (X : String) (names : List String) : List Cond := (Bundle.messageArmAtoms X names).filter vx_no
section
variable {p : Program} {l : Launch} {e : Env} {R : Room} {s : State} {m : MethodId} {args : Array Value} {below : List Frame} {meth : Method} {c : Code} {H : Heap} {locs : List Loc} {cells slots : Nat}
/-- a frame seen from a rebased start, seen from the first start again -/
theorem vx_back9 {T S : State} {R' : Room} {k n : Nat} (X : Stand p l e R s m args below meth c T locs cells slots) (Y : Stand p l e R' ((T.setVm s.vm).setFrames (.invoking m args :: below)) m args below meth c T [] 0 0) (Z : Stand p l e R' ((T.setVm s.vm).setFrames (.invoking m args :: below)) m args below meth c S [] k n) :
    Stand p l e R s m args below meth c S locs (cells + k) (slots + n) := by
  have hW0 : s.WarmedH ((T.setVm s.vm).setFrames (.invoking m args :: below)).vm := State.WarmedH.refl s
  refine { admits := X.admits, cas := X.cas, clock := X.clock, frames := X.frames, room := X.room, hears := X.hears, method := X.method, code := X.code, here := Z.here, tail := Z.tail, warmed := State.WarmedH.trans hW0 Z.warmed, limits := Z.limits.trans (Y.limits.symm.trans X.limits), bytes := Z.bytes.trans (Y.bytes.symm.trans X.bytes), same := ?_ }
  obtain ⟨e1, e2⟩ := Z.same
  rw [State.setFrames_setFrames] at e1
  have h2 : (T.setVm s.vm).sameButNew (S.setVm s.vm) [] k n := ⟨e1, e2⟩
  have h3 := X.same.trans h2
  rw [List.append_nil] at h3
  exact h3
/-- from the machine's note that E is thrown here with this text -/
def vx_Note (p : Program) (l : Launch) (e : Env) (R : Room) (s : State) (m : MethodId) (args : Array Value) (below : List Frame) (meth : Method) (c : Code) (H : Heap) (locs : List Loc) (cells slots : Nat) (Q : State → Prop) (g : JFrame) (E text : String) : Prop :=
  ∀ T : State, T.heap = H → Stand p l e R s m args below meth c T locs cells slots → ∃ t, Steps p.tables e below ((T.setTop g).pushFrame (.throwNew E (some text) none)) t ∧ Q t
theorem vx_vm {pc : Nat} {ls : Array Slot} {rest : List Value} {Q : State → Prop} (hexec : p.tables.exec = Jvm.exec) (hl : l.stackTraces = false) {cls text : String} {names : List String} {nb : Nat} {A : Nat → Prop}
    (hcls : Bundle.fit cls = true) (hnames : ∀ n ∈ names, Bundle.fit n = true) (hsoe : (cls == "java/lang/StackOverflowError") = false) (hoom : (cls == "java/lang/OutOfMemoryError") = false)
    (hat : ∀ w ∈ vx_atM cls names, w.before args s = true) (hgood : ∀ w ∈ vx_atM cls names, vx_ot w = true)
    (hU : vx_Zq Bundle.tN "UNASSIGNED_STACK" Bundle.steD A s s.heap) (hN : vx_Zq Bundle.tN "SUPPRESSED_SENTINEL" Bundle.listD A s s.heap) (hS : va_S A s.heap H locs) (hsize : ls.size = c.maxLocals)
    (htext : (text == notModelled) = false) (hnb : (stringBytes (stringToUtf16 text)).size ≤ nb) (hnb1 : nb ≤ 1000)
    (hRframes : names.length + 4 < R.frames) (hRlocals : (rest.map fun v => v.category).sum + 10240 ≤ R.locals) (hshort : 13 * names.length + 55 ≤ 10240) (hRcells : cells + 3 ≤ R.cells) (hRslots : slots + (nb + 10) ≤ R.slots) (hlocks : meth.locks = false)
    (k : ∀ (H1 : Heap) (q9 : Addr) (ce : Cell), H.size ≤ H1.size → (∀ q : Nat, q < H.size → H1[q]? = H[q]?) → va_S A s.heap H1 locs → H1[q9]? = some ce → ce.vm = .none → s.vm.findClass cls = some ce.cls → vx_W p l e R s m args below meth c H1 locs (cells + 3) (slots + (nb + 10)) Q (F0 m pc ls rest) q9) :
    vx_Note p l e R s m args below meth c H locs cells slots Q (F0 m pc ls rest) cls text := by
  intro T hT X
  have htr : e.platform.stackTraces = false := (show e.platform.stackTraces = l.stackTraces by rw [X.admits.platform]).trans hl
  have Y := vx_rebase X (R' := { frames := R.frames, locals := R.locals, cells := 3, slots := nb + 10 }) (Nat.le_refl _) (Nat.le_refl _) hRcells hRslots
  have hhp : ((T.setVm s.vm).setFrames (.invoking m args :: below)).heap = H := hT
  have hW0 : s.WarmedH ((T.setVm s.vm).setFrames (.invoking m args :: below)).vm := State.WarmedH.refl s
  have hat' : ∀ w ∈ vx_atM cls names, w.before args ((T.setVm s.vm).setFrames (.invoking m args :: below)) = true := fun w hw => vx_ot_at hW0 rfl (hgood w hw) (hat w hw)
  have hU' : vx_Zq Bundle.tN "UNASSIGNED_STACK" Bundle.steD A ((T.setVm s.vm).setFrames (.invoking m args :: below)) ((T.setVm s.vm).setFrames (.invoking m args :: below)).heap := by rw [hhp]; exact vx_Zq.moved hW0.alike (hU.kept hS.2.1)
  have hN' : vx_Zq Bundle.tN "SUPPRESSED_SENTINEL" Bundle.listD A ((T.setVm s.vm).setFrames (.invoking m args :: below)) ((T.setVm s.vm).setFrames (.invoking m args :: below)).heap := by rw [hhp]; exact vx_Zq.moved hW0.alike (hN.kept hS.2.1)
  obtain ⟨S, q, ce, st, Z, hce, hcl', hv⟩ := vx_vmAt Y hexec htr (cls := cls) (names := names) (text := text) hcls hnames hsoe hoom (vx_own hat' (vx_isRefq hU'.1) (vx_isRefq hN'.1) hU'.2.word hN'.2.word) (fun x hx => nomatch hx) htext
    (by rw [Launch.admits_arrayLengthLimit X.admits]; omega) (by rw [Launch.admits_maxHeapBytes X.admits]; simp only [componentBytes]; omega)
    (g := F0 m pc ls rest) rfl hsize hRframes (by show 2 * 0 + (rest.map fun v => v.category).sum + 10240 ≤ R.locals; omega) hshort (by show 0 + 3 ≤ 3; omega) (by show 0 + (_ + 4 + 6) ≤ nb + 10; omega) hlocks
  obtain ⟨f1, f2⟩ := vx_frame Z.same
  have f1' : H.size ≤ S.heap.size := by rw [← hT]; exact f1
  have f2' : ∀ q : Nat, q < H.size → S.heap[q]? = H[q]? := fun q hq => by
    rw [← hT]
    exact f2 q (by rw [← hT] at hq; exact hq) (fun z hz => nomatch hz)
  have X5 := vx_back9 X Y Z
  have X6 : Stand p l e R s m args below meth c S locs (cells + 3) (slots + (nb + 10)) := { X5 with same := X5.same.mono (by omega) (by omega) }
  obtain ⟨t, a1, b1⟩ := k S.heap q ce f1' f2' ⟨Nat.le_trans hS.1 f1', fun q h1 h2 => (f2' q (Nat.lt_of_lt_of_le h1 hS.1)).trans (hS.2.1 q h1 h2), hS.2.2⟩ hce hv hcl' S rfl X6
  exact ⟨t, st t a1, b1⟩
/-- from the machine's note that NullPointerException is thrown here -/
def vx_NoteN (p : Program) (l : Launch) (e : Env) (R : Room) (s : State) (m : MethodId) (args : Array Value) (below : List Frame) (meth : Method) (c : Code) (H : Heap) (locs : List Loc) (cells slots : Nat) (Q : State → Prop) (g : JFrame) : Prop :=
  ∀ T : State, T.heap = H → Stand p l e R s m args below meth c T locs cells slots → ∃ t, Steps p.tables e below ((T.setTop g).pushFrame (.throwNew "java/lang/NullPointerException" none none)) t ∧ Q t
theorem vx_npe {pc : Nat} {ls : Array Slot} {rest : List Value} {Q : State → Prop} (hexec : p.tables.exec = Jvm.exec) (hl : l.stackTraces = false) {nb : Nat} {A : Nat → Prop}
    (hat : ∀ w ∈ vx_atN nb, w.before args s = true) (hgood : ∀ w ∈ vx_atN nb, vx_ot w = true)
    (hU : vx_Zq Bundle.tN "UNASSIGNED_STACK" Bundle.steD A s s.heap) (hN : vx_Zq Bundle.tN "SUPPRESSED_SENTINEL" Bundle.listD A s s.heap) (hS : va_S A s.heap H locs) (hsize : ls.size = c.maxLocals)
    (hRframes : 7 < R.frames) (hRlocals : (rest.map fun v => v.category).sum + 10240 ≤ R.locals) (hRcells : cells + 1 ≤ R.cells) (hRslots : slots + nb ≤ R.slots) (hlocks : meth.locks = false)
    (k : ∀ (H1 : Heap) (q9 : Addr) (ce : Cell), H.size ≤ H1.size → (∀ q : Nat, q < H.size → H1[q]? = H[q]?) → va_S A s.heap H1 locs → H1[q9]? = some ce → ce.vm = .none → s.vm.findClass "java/lang/NullPointerException" = some ce.cls → vx_W p l e R s m args below meth c H1 locs (cells + 1) (slots + nb) Q (F0 m pc ls rest) q9) :
    vx_NoteN p l e R s m args below meth c H locs cells slots Q (F0 m pc ls rest) := by
  intro T hT X
  have htr : e.platform.stackTraces = false := (show e.platform.stackTraces = l.stackTraces by rw [X.admits.platform]).trans hl
  have Y := vx_rebase X (R' := { frames := R.frames, locals := R.locals, cells := 1, slots := nb }) (Nat.le_refl _) (Nat.le_refl _) hRcells hRslots
  have hhp : ((T.setVm s.vm).setFrames (.invoking m args :: below)).heap = H := hT
  have hW0 : s.WarmedH ((T.setVm s.vm).setFrames (.invoking m args :: below)).vm := State.WarmedH.refl s
  have hat' : ∀ w ∈ vx_atN nb, w.before args ((T.setVm s.vm).setFrames (.invoking m args :: below)) = true := fun w hw => vx_ot_at hW0 rfl (hgood w hw) (hat w hw)
  have hU' : vx_Zq Bundle.tN "UNASSIGNED_STACK" Bundle.steD A ((T.setVm s.vm).setFrames (.invoking m args :: below)) ((T.setVm s.vm).setFrames (.invoking m args :: below)).heap := by rw [hhp]; exact vx_Zq.moved hW0.alike (hU.kept hS.2.1)
  have hN' : vx_Zq Bundle.tN "SUPPRESSED_SENTINEL" Bundle.listD A ((T.setVm s.vm).setFrames (.invoking m args :: below)) ((T.setVm s.vm).setFrames (.invoking m args :: below)).heap := by rw [hhp]; exact vx_Zq.moved hW0.alike (hN.kept hS.2.1)
  obtain ⟨S, q, ce, st, Z, hce, hcl', hv⟩ := vx_npeAt Y hexec htr (n := nb) (vx_own hat' (vx_isRefq hU'.1) (vx_isRefq hN'.1) hU'.2.word hN'.2.word) (fun x hx => nomatch hx)
    (g := F0 m pc ls rest) rfl hsize hRframes (by show 2 * 0 + (rest.map fun v => v.category).sum + 10240 ≤ R.locals; omega) (by show 0 + 1 ≤ 1; omega) (by show 0 + nb ≤ nb; omega) hlocks
  obtain ⟨f1, f2⟩ := vx_frame Z.same
  have f1' : H.size ≤ S.heap.size := by rw [← hT]; exact f1
  have f2' : ∀ q : Nat, q < H.size → S.heap[q]? = H[q]? := fun q hq => by
    rw [← hT]
    exact f2 q (by rw [← hT] at hq; exact hq) (fun z hz => nomatch hz)
  have X5 := vx_back9 X Y Z
  have X6 : Stand p l e R s m args below meth c S locs (cells + 1) (slots + nb) := { X5 with same := X5.same.mono (by omega) (by omega) }
  obtain ⟨t, a1, b1⟩ := k S.heap q ce f1' f2' ⟨Nat.le_trans hS.1 f1', fun q h1 h2 => (f2' q (Nat.lt_of_lt_of_le h1 hS.1)).trans (hS.2.1 q h1 h2), hS.2.2⟩ hce hv hcl' S rfl X6
  exact ⟨t, st t a1, b1⟩
variable {Q : State → Prop} {cc : ByteArray} {pc : Nat} {ls : Array Slot} {rest : List Value}
theorem vx_idivZ (hexec : p.tables.exec = Jvm.exec) (hb : c.code = cc) {a b : Int32} (h0 : b = 0) (d : decode cc pc = .ok (.idiv, 1)) (k : vx_Note p l e R s m args below meth c H locs cells slots Q (F0 m pc ls rest) "java/lang/ArithmeticException" "/ by zero") :
    W p l e R s m args below meth c H locs cells slots Q (F0 m pc ls (.int b :: .int a :: rest)) := by
  intro T hT X
  obtain ⟨t, st, q⟩ := k T hT X
  exact ⟨t, X.idivZero hexec (g := F0 m pc ls (.int b :: .int a :: rest)) rfl (a := a) (rest := rest) (by rw [h0]) (by rw [hb]; exact d) t st, q⟩
theorem vx_iremZ (hexec : p.tables.exec = Jvm.exec) (hb : c.code = cc) {a b : Int32} (h0 : b = 0) (d : decode cc pc = .ok (.irem, 1)) (k : vx_Note p l e R s m args below meth c H locs cells slots Q (F0 m pc ls rest) "java/lang/ArithmeticException" "/ by zero") :
    W p l e R s m args below meth c H locs cells slots Q (F0 m pc ls (.int b :: .int a :: rest)) := by
  intro T hT X
  obtain ⟨t, st, q⟩ := k T hT X
  exact ⟨t, X.iremZero hexec (g := F0 m pc ls (.int b :: .int a :: rest)) rfl (a := a) (rest := rest) (by rw [h0]) (by rw [hb]; exact d) t st, q⟩
theorem vx_ldivZ (hexec : p.tables.exec = Jvm.exec) (hb : c.code = cc) {a b : Int64} (h0 : b = 0) (d : decode cc pc = .ok (.ldiv, 1)) (k : vx_Note p l e R s m args below meth c H locs cells slots Q (F0 m pc ls rest) "java/lang/ArithmeticException" "/ by zero") :
    W p l e R s m args below meth c H locs cells slots Q (F0 m pc ls (.long b :: .long a :: rest)) := by
  intro T hT X
  obtain ⟨t, st, q⟩ := k T hT X
  exact ⟨t, X.ldivZero hexec (g := F0 m pc ls (.long b :: .long a :: rest)) rfl (a := a) (rest := rest) (by rw [h0]) (by rw [hb]; exact d) t st, q⟩
theorem vx_lremZ (hexec : p.tables.exec = Jvm.exec) (hb : c.code = cc) {a b : Int64} (h0 : b = 0) (d : decode cc pc = .ok (.lrem, 1)) (k : vx_Note p l e R s m args below meth c H locs cells slots Q (F0 m pc ls rest) "java/lang/ArithmeticException" "/ by zero") :
    W p l e R s m args below meth c H locs cells slots Q (F0 m pc ls (.long b :: .long a :: rest)) := by
  intro T hT X
  obtain ⟨t, st, q⟩ := k T hT X
  exact ⟨t, X.lremZero hexec (g := F0 m pc ls (.long b :: .long a :: rest)) rfl (a := a) (rest := rest) (by rw [h0]) (by rw [hb]; exact d) t st, q⟩
theorem vx_ialdZ {D : va_G} {cl : List vw_C} {ws : va_W} {tys : List (ClassId × FieldType)} {a : Nat} (hexec : p.tables.exec = Jvm.exec) (hb : c.code = cc) (hK : va_K D cl tys s) (hP : va_P D cl ws H) (q0 t0 : Nat) {cA : ClassId} {n : Nat} {f : Nat → Int32} (ha : ws[q0]? = some (a, .inl (cA, n, .inl f))) (ht : tys[t0]? = some (cA, .int)) {i : Int32} (hout : ¬ vp_in i n) (hdg : decode cc pc = .ok (.iaload, 1))
    (k : ∀ tx : String, tx = (toString "Index " ++ toString i ++ toString " out of bounds for length " ++ toString n : String) → vx_Note p l e R s m args below meth c H locs cells slots Q (F0 m pc ls rest) "java/lang/ArrayIndexOutOfBoundsException" tx) : W p l e R s m args below meth c H locs cells slots Q (F0 m pc ls (.int i :: .ref a :: rest)) := by
  intro T hT X
  obtain ⟨t, st, q⟩ := k _ rfl T hT X
  refine ⟨t, ?_, q⟩
  have h1 := X.ialoadOut hexec (by rw [hT]; exact hP q0 _ ha) ((hK.2 t0 _ ht).1 n (fun j => .int (f j))) (j := i) (by show (i < 0 ∨ (arrV _ _ _).slots.size ≤ _); rw [arrV_size]; exact Classical.byContradiction hout) (g := F0 m pc ls (.int i :: .ref a :: rest)) rfl (rest := rest) rfl (by rw [hb]; exact hdg) t
  simp only [arrV_size] at h1
  exact h1 st
theorem vx_iastZ {D : va_G} {cl : List vw_C} {ws : va_W} {tys : List (ClassId × FieldType)} {a : Nat} (hexec : p.tables.exec = Jvm.exec) (hb : c.code = cc) (hK : va_K D cl tys s) (hP : va_P D cl ws H) (q0 t0 : Nat) {cA : ClassId} {n : Nat} {f : Nat → Int32} (ha : ws[q0]? = some (a, .inl (cA, n, .inl f))) (ht : tys[t0]? = some (cA, .int)) {i : Int32} {x : Int32} (hout : ¬ vp_in i n) (hdg : decode cc pc = .ok (.iastore, 1))
    (k : ∀ tx : String, tx = (toString "Index " ++ toString i ++ toString " out of bounds for length " ++ toString n : String) → vx_Note p l e R s m args below meth c H locs cells slots Q (F0 m pc ls rest) "java/lang/ArrayIndexOutOfBoundsException" tx) : W p l e R s m args below meth c H locs cells slots Q (F0 m pc ls (.int x :: .int i :: .ref a :: rest)) := by
  intro T hT X
  obtain ⟨t, st, q⟩ := k _ rfl T hT X
  refine ⟨t, ?_, q⟩
  have h1 := X.iastoreOut hexec (by rw [hT]; exact hP q0 _ ha) ((hK.2 t0 _ ht).1 n (fun j => .int (f j))) (j := i) (by show (i < 0 ∨ (arrV _ _ _).slots.size ≤ _); rw [arrV_size]; exact Classical.byContradiction hout) (g := F0 m pc ls (.int x :: .int i :: .ref a :: rest)) rfl (rest := rest) rfl (by rw [hb]; exact hdg) t
  simp only [arrV_size] at h1
  exact h1 st
theorem vx_baldZ {D : va_G} {cl : List vw_C} {ws : va_W} {tys : List (ClassId × FieldType)} {a : Nat} (hexec : p.tables.exec = Jvm.exec) (hb : c.code = cc) (hK : va_K D cl tys s) (hP : va_P D cl ws H) (q0 t0 : Nat) {cA : ClassId} {n : Nat} {f : Nat → Int32} (ha : ws[q0]? = some (a, .inl (cA, n, .inl f))) (ht : tys[t0]? = some (cA, .byte)) {i : Int32} (hout : ¬ vp_in i n) (hdg : decode cc pc = .ok (.baload, 1))
    (k : ∀ tx : String, tx = (toString "Index " ++ toString i ++ toString " out of bounds for length " ++ toString n : String) → vx_Note p l e R s m args below meth c H locs cells slots Q (F0 m pc ls rest) "java/lang/ArrayIndexOutOfBoundsException" tx) : W p l e R s m args below meth c H locs cells slots Q (F0 m pc ls (.int i :: .ref a :: rest)) := by
  intro T hT X
  obtain ⟨t, st, q⟩ := k _ rfl T hT X
  refine ⟨t, ?_, q⟩
  have h1 := X.baloadOut hexec (by rw [hT]; exact hP q0 _ ha) ((hK.2 t0 _ ht).1 n (fun j => .int (f j))) (j := i) (by show (i < 0 ∨ (arrV _ _ _).slots.size ≤ _); rw [arrV_size]; exact Classical.byContradiction hout) (g := F0 m pc ls (.int i :: .ref a :: rest)) rfl (rest := rest) rfl (by rw [hb]; exact hdg) t
  simp only [arrV_size] at h1
  exact h1 st
theorem vx_bastZ {D : va_G} {cl : List vw_C} {ws : va_W} {tys : List (ClassId × FieldType)} {a : Nat} (hexec : p.tables.exec = Jvm.exec) (hb : c.code = cc) (hK : va_K D cl tys s) (hP : va_P D cl ws H) (q0 t0 : Nat) {cA : ClassId} {n : Nat} {f : Nat → Int32} (ha : ws[q0]? = some (a, .inl (cA, n, .inl f))) (ht : tys[t0]? = some (cA, .byte)) {i : Int32} {x : Int32} (hout : ¬ vp_in i n) (hdg : decode cc pc = .ok (.bastore, 1))
    (k : ∀ tx : String, tx = (toString "Index " ++ toString i ++ toString " out of bounds for length " ++ toString n : String) → vx_Note p l e R s m args below meth c H locs cells slots Q (F0 m pc ls rest) "java/lang/ArrayIndexOutOfBoundsException" tx) : W p l e R s m args below meth c H locs cells slots Q (F0 m pc ls (.int x :: .int i :: .ref a :: rest)) := by
  intro T hT X
  obtain ⟨t, st, q⟩ := k _ rfl T hT X
  refine ⟨t, ?_, q⟩
  have h1 := X.bastoreOut hexec (by rw [hT]; exact hP q0 _ ha) ((hK.2 t0 _ ht).1 n (fun j => .int (f j))) (j := i) (by show (i < 0 ∨ (arrV _ _ _).slots.size ≤ _); rw [arrV_size]; exact Classical.byContradiction hout) (g := F0 m pc ls (.int x :: .int i :: .ref a :: rest)) rfl (rest := rest) rfl (by rw [hb]; exact hdg) t
  simp only [arrV_size] at h1
  exact h1 st
theorem vx_zaldZ {D : va_G} {cl : List vw_C} {ws : va_W} {tys : List (ClassId × FieldType)} {a : Nat} (hexec : p.tables.exec = Jvm.exec) (hb : c.code = cc) (hK : va_K D cl tys s) (hP : va_P D cl ws H) (q0 t0 : Nat) {cA : ClassId} {n : Nat} {f : Nat → Int32} (ha : ws[q0]? = some (a, .inl (cA, n, .inl f))) (ht : tys[t0]? = some (cA, .boolean)) {i : Int32} (hout : ¬ vp_in i n) (hdg : decode cc pc = .ok (.baload, 1))
    (k : ∀ tx : String, tx = (toString "Index " ++ toString i ++ toString " out of bounds for length " ++ toString n : String) → vx_Note p l e R s m args below meth c H locs cells slots Q (F0 m pc ls rest) "java/lang/ArrayIndexOutOfBoundsException" tx) : W p l e R s m args below meth c H locs cells slots Q (F0 m pc ls (.int i :: .ref a :: rest)) := by
  intro T hT X
  obtain ⟨t, st, q⟩ := k _ rfl T hT X
  refine ⟨t, ?_, q⟩
  have h1 := X.baloadOut hexec (by rw [hT]; exact hP q0 _ ha) ((hK.2 t0 _ ht).1 n (fun j => .int (f j))) (j := i) (by show (i < 0 ∨ (arrV _ _ _).slots.size ≤ _); rw [arrV_size]; exact Classical.byContradiction hout) (g := F0 m pc ls (.int i :: .ref a :: rest)) rfl (rest := rest) rfl (by rw [hb]; exact hdg) t
  simp only [arrV_size] at h1
  exact h1 st
theorem vx_zastZ {D : va_G} {cl : List vw_C} {ws : va_W} {tys : List (ClassId × FieldType)} {a : Nat} (hexec : p.tables.exec = Jvm.exec) (hb : c.code = cc) (hK : va_K D cl tys s) (hP : va_P D cl ws H) (q0 t0 : Nat) {cA : ClassId} {n : Nat} {f : Nat → Int32} (ha : ws[q0]? = some (a, .inl (cA, n, .inl f))) (ht : tys[t0]? = some (cA, .boolean)) {i : Int32} {x : Int32} (hout : ¬ vp_in i n) (hdg : decode cc pc = .ok (.bastore, 1))
    (k : ∀ tx : String, tx = (toString "Index " ++ toString i ++ toString " out of bounds for length " ++ toString n : String) → vx_Note p l e R s m args below meth c H locs cells slots Q (F0 m pc ls rest) "java/lang/ArrayIndexOutOfBoundsException" tx) : W p l e R s m args below meth c H locs cells slots Q (F0 m pc ls (.int x :: .int i :: .ref a :: rest)) := by
  intro T hT X
  obtain ⟨t, st, q⟩ := k _ rfl T hT X
  refine ⟨t, ?_, q⟩
  have h1 := X.bastoreOut hexec (by rw [hT]; exact hP q0 _ ha) ((hK.2 t0 _ ht).1 n (fun j => .int (f j))) (j := i) (by show (i < 0 ∨ (arrV _ _ _).slots.size ≤ _); rw [arrV_size]; exact Classical.byContradiction hout) (g := F0 m pc ls (.int x :: .int i :: .ref a :: rest)) rfl (rest := rest) rfl (by rw [hb]; exact hdg) t
  simp only [arrV_size] at h1
  exact h1 st
theorem vx_caldZ {D : va_G} {cl : List vw_C} {ws : va_W} {tys : List (ClassId × FieldType)} {a : Nat} (hexec : p.tables.exec = Jvm.exec) (hb : c.code = cc) (hK : va_K D cl tys s) (hP : va_P D cl ws H) (q0 t0 : Nat) {cA : ClassId} {n : Nat} {f : Nat → Int32} (ha : ws[q0]? = some (a, .inl (cA, n, .inl f))) (ht : tys[t0]? = some (cA, .char)) {i : Int32} (hout : ¬ vp_in i n) (hdg : decode cc pc = .ok (.caload, 1))
    (k : ∀ tx : String, tx = (toString "Index " ++ toString i ++ toString " out of bounds for length " ++ toString n : String) → vx_Note p l e R s m args below meth c H locs cells slots Q (F0 m pc ls rest) "java/lang/ArrayIndexOutOfBoundsException" tx) : W p l e R s m args below meth c H locs cells slots Q (F0 m pc ls (.int i :: .ref a :: rest)) := by
  intro T hT X
  obtain ⟨t, st, q⟩ := k _ rfl T hT X
  refine ⟨t, ?_, q⟩
  have h1 := X.caloadOut hexec (by rw [hT]; exact hP q0 _ ha) ((hK.2 t0 _ ht).1 n (fun j => .int (f j))) (j := i) (by show (i < 0 ∨ (arrV _ _ _).slots.size ≤ _); rw [arrV_size]; exact Classical.byContradiction hout) (g := F0 m pc ls (.int i :: .ref a :: rest)) rfl (rest := rest) rfl (by rw [hb]; exact hdg) t
  simp only [arrV_size] at h1
  exact h1 st
theorem vx_castZ {D : va_G} {cl : List vw_C} {ws : va_W} {tys : List (ClassId × FieldType)} {a : Nat} (hexec : p.tables.exec = Jvm.exec) (hb : c.code = cc) (hK : va_K D cl tys s) (hP : va_P D cl ws H) (q0 t0 : Nat) {cA : ClassId} {n : Nat} {f : Nat → Int32} (ha : ws[q0]? = some (a, .inl (cA, n, .inl f))) (ht : tys[t0]? = some (cA, .char)) {i : Int32} {x : Int32} (hout : ¬ vp_in i n) (hdg : decode cc pc = .ok (.castore, 1))
    (k : ∀ tx : String, tx = (toString "Index " ++ toString i ++ toString " out of bounds for length " ++ toString n : String) → vx_Note p l e R s m args below meth c H locs cells slots Q (F0 m pc ls rest) "java/lang/ArrayIndexOutOfBoundsException" tx) : W p l e R s m args below meth c H locs cells slots Q (F0 m pc ls (.int x :: .int i :: .ref a :: rest)) := by
  intro T hT X
  obtain ⟨t, st, q⟩ := k _ rfl T hT X
  refine ⟨t, ?_, q⟩
  have h1 := X.castoreOut hexec (by rw [hT]; exact hP q0 _ ha) ((hK.2 t0 _ ht).1 n (fun j => .int (f j))) (j := i) (by show (i < 0 ∨ (arrV _ _ _).slots.size ≤ _); rw [arrV_size]; exact Classical.byContradiction hout) (g := F0 m pc ls (.int x :: .int i :: .ref a :: rest)) rfl (rest := rest) rfl (by rw [hb]; exact hdg) t
  simp only [arrV_size] at h1
  exact h1 st
theorem vx_saldZ {D : va_G} {cl : List vw_C} {ws : va_W} {tys : List (ClassId × FieldType)} {a : Nat} (hexec : p.tables.exec = Jvm.exec) (hb : c.code = cc) (hK : va_K D cl tys s) (hP : va_P D cl ws H) (q0 t0 : Nat) {cA : ClassId} {n : Nat} {f : Nat → Int32} (ha : ws[q0]? = some (a, .inl (cA, n, .inl f))) (ht : tys[t0]? = some (cA, .short)) {i : Int32} (hout : ¬ vp_in i n) (hdg : decode cc pc = .ok (.saload, 1))
    (k : ∀ tx : String, tx = (toString "Index " ++ toString i ++ toString " out of bounds for length " ++ toString n : String) → vx_Note p l e R s m args below meth c H locs cells slots Q (F0 m pc ls rest) "java/lang/ArrayIndexOutOfBoundsException" tx) : W p l e R s m args below meth c H locs cells slots Q (F0 m pc ls (.int i :: .ref a :: rest)) := by
  intro T hT X
  obtain ⟨t, st, q⟩ := k _ rfl T hT X
  refine ⟨t, ?_, q⟩
  have h1 := X.saloadOut hexec (by rw [hT]; exact hP q0 _ ha) ((hK.2 t0 _ ht).1 n (fun j => .int (f j))) (j := i) (by show (i < 0 ∨ (arrV _ _ _).slots.size ≤ _); rw [arrV_size]; exact Classical.byContradiction hout) (g := F0 m pc ls (.int i :: .ref a :: rest)) rfl (rest := rest) rfl (by rw [hb]; exact hdg) t
  simp only [arrV_size] at h1
  exact h1 st
theorem vx_sastZ {D : va_G} {cl : List vw_C} {ws : va_W} {tys : List (ClassId × FieldType)} {a : Nat} (hexec : p.tables.exec = Jvm.exec) (hb : c.code = cc) (hK : va_K D cl tys s) (hP : va_P D cl ws H) (q0 t0 : Nat) {cA : ClassId} {n : Nat} {f : Nat → Int32} (ha : ws[q0]? = some (a, .inl (cA, n, .inl f))) (ht : tys[t0]? = some (cA, .short)) {i : Int32} {x : Int32} (hout : ¬ vp_in i n) (hdg : decode cc pc = .ok (.sastore, 1))
    (k : ∀ tx : String, tx = (toString "Index " ++ toString i ++ toString " out of bounds for length " ++ toString n : String) → vx_Note p l e R s m args below meth c H locs cells slots Q (F0 m pc ls rest) "java/lang/ArrayIndexOutOfBoundsException" tx) : W p l e R s m args below meth c H locs cells slots Q (F0 m pc ls (.int x :: .int i :: .ref a :: rest)) := by
  intro T hT X
  obtain ⟨t, st, q⟩ := k _ rfl T hT X
  refine ⟨t, ?_, q⟩
  have h1 := X.sastoreOut hexec (by rw [hT]; exact hP q0 _ ha) ((hK.2 t0 _ ht).1 n (fun j => .int (f j))) (j := i) (by show (i < 0 ∨ (arrV _ _ _).slots.size ≤ _); rw [arrV_size]; exact Classical.byContradiction hout) (g := F0 m pc ls (.int x :: .int i :: .ref a :: rest)) rfl (rest := rest) rfl (by rw [hb]; exact hdg) t
  simp only [arrV_size] at h1
  exact h1 st
theorem vx_laldZ {D : va_G} {cl : List vw_C} {ws : va_W} {tys : List (ClassId × FieldType)} {a : Nat} (hexec : p.tables.exec = Jvm.exec) (hb : c.code = cc) (hK : va_K D cl tys s) (hP : va_P D cl ws H) (q0 t0 : Nat) {cA : ClassId} {n : Nat} {f : Nat → Int64} (ha : ws[q0]? = some (a, .inl (cA, n, .inr (.inl f)))) (ht : tys[t0]? = some (cA, .long)) {i : Int32} (hout : ¬ vp_in i n) (hdg : decode cc pc = .ok (.laload, 1))
    (k : ∀ tx : String, tx = (toString "Index " ++ toString i ++ toString " out of bounds for length " ++ toString n : String) → vx_Note p l e R s m args below meth c H locs cells slots Q (F0 m pc ls rest) "java/lang/ArrayIndexOutOfBoundsException" tx) : W p l e R s m args below meth c H locs cells slots Q (F0 m pc ls (.int i :: .ref a :: rest)) := by
  intro T hT X
  obtain ⟨t, st, q⟩ := k _ rfl T hT X
  refine ⟨t, ?_, q⟩
  have h1 := X.laloadOut hexec (by rw [hT]; exact hP q0 _ ha) ((hK.2 t0 _ ht).1 n (fun j => .long (f j))) (j := i) (by show (i < 0 ∨ (arrV _ _ _).slots.size ≤ _); rw [arrV_size]; exact Classical.byContradiction hout) (g := F0 m pc ls (.int i :: .ref a :: rest)) rfl (rest := rest) rfl (by rw [hb]; exact hdg) t
  simp only [arrV_size] at h1
  exact h1 st
theorem vx_lastZ {D : va_G} {cl : List vw_C} {ws : va_W} {tys : List (ClassId × FieldType)} {a : Nat} (hexec : p.tables.exec = Jvm.exec) (hb : c.code = cc) (hK : va_K D cl tys s) (hP : va_P D cl ws H) (q0 t0 : Nat) {cA : ClassId} {n : Nat} {f : Nat → Int64} (ha : ws[q0]? = some (a, .inl (cA, n, .inr (.inl f)))) (ht : tys[t0]? = some (cA, .long)) {i : Int32} {x : Int64} (hout : ¬ vp_in i n) (hdg : decode cc pc = .ok (.lastore, 1))
    (k : ∀ tx : String, tx = (toString "Index " ++ toString i ++ toString " out of bounds for length " ++ toString n : String) → vx_Note p l e R s m args below meth c H locs cells slots Q (F0 m pc ls rest) "java/lang/ArrayIndexOutOfBoundsException" tx) : W p l e R s m args below meth c H locs cells slots Q (F0 m pc ls (.long x :: .int i :: .ref a :: rest)) := by
  intro T hT X
  obtain ⟨t, st, q⟩ := k _ rfl T hT X
  refine ⟨t, ?_, q⟩
  have h1 := X.lastoreOut hexec (by rw [hT]; exact hP q0 _ ha) ((hK.2 t0 _ ht).1 n (fun j => .long (f j))) (j := i) (by show (i < 0 ∨ (arrV _ _ _).slots.size ≤ _); rw [arrV_size]; exact Classical.byContradiction hout) (g := F0 m pc ls (.long x :: .int i :: .ref a :: rest)) rfl (rest := rest) rfl (by rw [hb]; exact hdg) t
  simp only [arrV_size] at h1
  exact h1 st
theorem vx_faldZ {D : va_G} {cl : List vw_C} {ws : va_W} {tys : List (ClassId × FieldType)} {a : Nat} (hexec : p.tables.exec = Jvm.exec) (hb : c.code = cc) (hK : va_K D cl tys s) (hP : va_P D cl ws H) (q0 t0 : Nat) {cA : ClassId} {n : Nat} {f : Nat → UInt32} (ha : ws[q0]? = some (a, .inl (cA, n, .inr (.inr (.inl f))))) (ht : tys[t0]? = some (cA, .float)) {i : Int32} (hout : ¬ vp_in i n) (hdg : decode cc pc = .ok (.faload, 1))
    (k : ∀ tx : String, tx = (toString "Index " ++ toString i ++ toString " out of bounds for length " ++ toString n : String) → vx_Note p l e R s m args below meth c H locs cells slots Q (F0 m pc ls rest) "java/lang/ArrayIndexOutOfBoundsException" tx) : W p l e R s m args below meth c H locs cells slots Q (F0 m pc ls (.int i :: .ref a :: rest)) := by
  intro T hT X
  obtain ⟨t, st, q⟩ := k _ rfl T hT X
  refine ⟨t, ?_, q⟩
  have h1 := X.faloadOut hexec (by rw [hT]; exact hP q0 _ ha) ((hK.2 t0 _ ht).1 n (fun j => .float (f j))) (j := i) (by show (i < 0 ∨ (arrV _ _ _).slots.size ≤ _); rw [arrV_size]; exact Classical.byContradiction hout) (g := F0 m pc ls (.int i :: .ref a :: rest)) rfl (rest := rest) rfl (by rw [hb]; exact hdg) t
  simp only [arrV_size] at h1
  exact h1 st
theorem vx_fastZ {D : va_G} {cl : List vw_C} {ws : va_W} {tys : List (ClassId × FieldType)} {a : Nat} (hexec : p.tables.exec = Jvm.exec) (hb : c.code = cc) (hK : va_K D cl tys s) (hP : va_P D cl ws H) (q0 t0 : Nat) {cA : ClassId} {n : Nat} {f : Nat → UInt32} (ha : ws[q0]? = some (a, .inl (cA, n, .inr (.inr (.inl f))))) (ht : tys[t0]? = some (cA, .float)) {i : Int32} {x : UInt32} (hout : ¬ vp_in i n) (hdg : decode cc pc = .ok (.fastore, 1))
    (k : ∀ tx : String, tx = (toString "Index " ++ toString i ++ toString " out of bounds for length " ++ toString n : String) → vx_Note p l e R s m args below meth c H locs cells slots Q (F0 m pc ls rest) "java/lang/ArrayIndexOutOfBoundsException" tx) : W p l e R s m args below meth c H locs cells slots Q (F0 m pc ls (.float x :: .int i :: .ref a :: rest)) := by
  intro T hT X
  obtain ⟨t, st, q⟩ := k _ rfl T hT X
  refine ⟨t, ?_, q⟩
  have h1 := X.fastoreOut hexec (by rw [hT]; exact hP q0 _ ha) ((hK.2 t0 _ ht).1 n (fun j => .float (f j))) (j := i) (by show (i < 0 ∨ (arrV _ _ _).slots.size ≤ _); rw [arrV_size]; exact Classical.byContradiction hout) (g := F0 m pc ls (.float x :: .int i :: .ref a :: rest)) rfl (rest := rest) rfl (by rw [hb]; exact hdg) t
  simp only [arrV_size] at h1
  exact h1 st
theorem vx_daldZ {D : va_G} {cl : List vw_C} {ws : va_W} {tys : List (ClassId × FieldType)} {a : Nat} (hexec : p.tables.exec = Jvm.exec) (hb : c.code = cc) (hK : va_K D cl tys s) (hP : va_P D cl ws H) (q0 t0 : Nat) {cA : ClassId} {n : Nat} {f : Nat → UInt64} (ha : ws[q0]? = some (a, .inl (cA, n, .inr (.inr (.inr (.inl f)))))) (ht : tys[t0]? = some (cA, .double)) {i : Int32} (hout : ¬ vp_in i n) (hdg : decode cc pc = .ok (.daload, 1))
    (k : ∀ tx : String, tx = (toString "Index " ++ toString i ++ toString " out of bounds for length " ++ toString n : String) → vx_Note p l e R s m args below meth c H locs cells slots Q (F0 m pc ls rest) "java/lang/ArrayIndexOutOfBoundsException" tx) : W p l e R s m args below meth c H locs cells slots Q (F0 m pc ls (.int i :: .ref a :: rest)) := by
  intro T hT X
  obtain ⟨t, st, q⟩ := k _ rfl T hT X
  refine ⟨t, ?_, q⟩
  have h1 := X.daloadOut hexec (by rw [hT]; exact hP q0 _ ha) ((hK.2 t0 _ ht).1 n (fun j => .double (f j))) (j := i) (by show (i < 0 ∨ (arrV _ _ _).slots.size ≤ _); rw [arrV_size]; exact Classical.byContradiction hout) (g := F0 m pc ls (.int i :: .ref a :: rest)) rfl (rest := rest) rfl (by rw [hb]; exact hdg) t
  simp only [arrV_size] at h1
  exact h1 st
theorem vx_dastZ {D : va_G} {cl : List vw_C} {ws : va_W} {tys : List (ClassId × FieldType)} {a : Nat} (hexec : p.tables.exec = Jvm.exec) (hb : c.code = cc) (hK : va_K D cl tys s) (hP : va_P D cl ws H) (q0 t0 : Nat) {cA : ClassId} {n : Nat} {f : Nat → UInt64} (ha : ws[q0]? = some (a, .inl (cA, n, .inr (.inr (.inr (.inl f)))))) (ht : tys[t0]? = some (cA, .double)) {i : Int32} {x : UInt64} (hout : ¬ vp_in i n) (hdg : decode cc pc = .ok (.dastore, 1))
    (k : ∀ tx : String, tx = (toString "Index " ++ toString i ++ toString " out of bounds for length " ++ toString n : String) → vx_Note p l e R s m args below meth c H locs cells slots Q (F0 m pc ls rest) "java/lang/ArrayIndexOutOfBoundsException" tx) : W p l e R s m args below meth c H locs cells slots Q (F0 m pc ls (.double x :: .int i :: .ref a :: rest)) := by
  intro T hT X
  obtain ⟨t, st, q⟩ := k _ rfl T hT X
  refine ⟨t, ?_, q⟩
  have h1 := X.dastoreOut hexec (by rw [hT]; exact hP q0 _ ha) ((hK.2 t0 _ ht).1 n (fun j => .double (f j))) (j := i) (by show (i < 0 ∨ (arrV _ _ _).slots.size ≤ _); rw [arrV_size]; exact Classical.byContradiction hout) (g := F0 m pc ls (.double x :: .int i :: .ref a :: rest)) rfl (rest := rest) rfl (by rw [hb]; exact hdg) t
  simp only [arrV_size] at h1
  exact h1 st
theorem vx_arraylengthN (hexec : p.tables.exec = Jvm.exec) (hb : c.code = cc) (hdg : decode cc pc = .ok (.arraylength, 1)) (k : vx_NoteN p l e R s m args below meth c H locs cells slots Q (F0 m pc ls rest)) : W p l e R s m args below meth c H locs cells slots Q (F0 m pc ls (.null :: rest)) := by
  intro T hT X
  obtain ⟨t, st, q⟩ := k T hT X
  exact ⟨t, X.arraylengthNull hexec (g := F0 m pc ls (.null :: rest)) rfl (rest := rest) rfl (by rw [hb]; exact hdg) t st, q⟩
theorem vx_ialoadN (hexec : p.tables.exec = Jvm.exec) (hb : c.code = cc) {i : Int32} (hdg : decode cc pc = .ok (.iaload, 1)) (k : vx_NoteN p l e R s m args below meth c H locs cells slots Q (F0 m pc ls rest)) : W p l e R s m args below meth c H locs cells slots Q (F0 m pc ls (.int i :: .null :: rest)) := by
  intro T hT X
  obtain ⟨t, st, q⟩ := k T hT X
  exact ⟨t, X.ialoadNull hexec (g := F0 m pc ls (.int i :: .null :: rest)) rfl (rest := rest) rfl (by rw [hb]; exact hdg) t st, q⟩
theorem vx_laloadN (hexec : p.tables.exec = Jvm.exec) (hb : c.code = cc) {i : Int32} (hdg : decode cc pc = .ok (.laload, 1)) (k : vx_NoteN p l e R s m args below meth c H locs cells slots Q (F0 m pc ls rest)) : W p l e R s m args below meth c H locs cells slots Q (F0 m pc ls (.int i :: .null :: rest)) := by
  intro T hT X
  obtain ⟨t, st, q⟩ := k T hT X
  exact ⟨t, X.laloadNull hexec (g := F0 m pc ls (.int i :: .null :: rest)) rfl (rest := rest) rfl (by rw [hb]; exact hdg) t st, q⟩
theorem vx_faloadN (hexec : p.tables.exec = Jvm.exec) (hb : c.code = cc) {i : Int32} (hdg : decode cc pc = .ok (.faload, 1)) (k : vx_NoteN p l e R s m args below meth c H locs cells slots Q (F0 m pc ls rest)) : W p l e R s m args below meth c H locs cells slots Q (F0 m pc ls (.int i :: .null :: rest)) := by
  intro T hT X
  obtain ⟨t, st, q⟩ := k T hT X
  exact ⟨t, X.faloadNull hexec (g := F0 m pc ls (.int i :: .null :: rest)) rfl (rest := rest) rfl (by rw [hb]; exact hdg) t st, q⟩
theorem vx_daloadN (hexec : p.tables.exec = Jvm.exec) (hb : c.code = cc) {i : Int32} (hdg : decode cc pc = .ok (.daload, 1)) (k : vx_NoteN p l e R s m args below meth c H locs cells slots Q (F0 m pc ls rest)) : W p l e R s m args below meth c H locs cells slots Q (F0 m pc ls (.int i :: .null :: rest)) := by
  intro T hT X
  obtain ⟨t, st, q⟩ := k T hT X
  exact ⟨t, X.daloadNull hexec (g := F0 m pc ls (.int i :: .null :: rest)) rfl (rest := rest) rfl (by rw [hb]; exact hdg) t st, q⟩
theorem vx_aaloadN (hexec : p.tables.exec = Jvm.exec) (hb : c.code = cc) {i : Int32} (hdg : decode cc pc = .ok (.aaload, 1)) (k : vx_NoteN p l e R s m args below meth c H locs cells slots Q (F0 m pc ls rest)) : W p l e R s m args below meth c H locs cells slots Q (F0 m pc ls (.int i :: .null :: rest)) := by
  intro T hT X
  obtain ⟨t, st, q⟩ := k T hT X
  exact ⟨t, X.aaloadNull hexec (g := F0 m pc ls (.int i :: .null :: rest)) rfl (rest := rest) rfl (by rw [hb]; exact hdg) t st, q⟩
theorem vx_baloadN (hexec : p.tables.exec = Jvm.exec) (hb : c.code = cc) {i : Int32} (hdg : decode cc pc = .ok (.baload, 1)) (k : vx_NoteN p l e R s m args below meth c H locs cells slots Q (F0 m pc ls rest)) : W p l e R s m args below meth c H locs cells slots Q (F0 m pc ls (.int i :: .null :: rest)) := by
  intro T hT X
  obtain ⟨t, st, q⟩ := k T hT X
  exact ⟨t, X.baloadNull hexec (g := F0 m pc ls (.int i :: .null :: rest)) rfl (rest := rest) rfl (by rw [hb]; exact hdg) t st, q⟩
theorem vx_caloadN (hexec : p.tables.exec = Jvm.exec) (hb : c.code = cc) {i : Int32} (hdg : decode cc pc = .ok (.caload, 1)) (k : vx_NoteN p l e R s m args below meth c H locs cells slots Q (F0 m pc ls rest)) : W p l e R s m args below meth c H locs cells slots Q (F0 m pc ls (.int i :: .null :: rest)) := by
  intro T hT X
  obtain ⟨t, st, q⟩ := k T hT X
  exact ⟨t, X.caloadNull hexec (g := F0 m pc ls (.int i :: .null :: rest)) rfl (rest := rest) rfl (by rw [hb]; exact hdg) t st, q⟩
theorem vx_saloadN (hexec : p.tables.exec = Jvm.exec) (hb : c.code = cc) {i : Int32} (hdg : decode cc pc = .ok (.saload, 1)) (k : vx_NoteN p l e R s m args below meth c H locs cells slots Q (F0 m pc ls rest)) : W p l e R s m args below meth c H locs cells slots Q (F0 m pc ls (.int i :: .null :: rest)) := by
  intro T hT X
  obtain ⟨t, st, q⟩ := k T hT X
  exact ⟨t, X.saloadNull hexec (g := F0 m pc ls (.int i :: .null :: rest)) rfl (rest := rest) rfl (by rw [hb]; exact hdg) t st, q⟩
theorem vx_iastoreN (hexec : p.tables.exec = Jvm.exec) (hb : c.code = cc) {x : Int32} {i : Int32} (hdg : decode cc pc = .ok (.iastore, 1)) (k : vx_NoteN p l e R s m args below meth c H locs cells slots Q (F0 m pc ls rest)) : W p l e R s m args below meth c H locs cells slots Q (F0 m pc ls (.int x :: .int i :: .null :: rest)) := by
  intro T hT X
  obtain ⟨t, st, q⟩ := k T hT X
  exact ⟨t, X.iastoreNull hexec (g := F0 m pc ls (.int x :: .int i :: .null :: rest)) rfl (rest := rest) rfl (by rw [hb]; exact hdg) t st, q⟩
theorem vx_lastoreN (hexec : p.tables.exec = Jvm.exec) (hb : c.code = cc) {x : Int64} {i : Int32} (hdg : decode cc pc = .ok (.lastore, 1)) (k : vx_NoteN p l e R s m args below meth c H locs cells slots Q (F0 m pc ls rest)) : W p l e R s m args below meth c H locs cells slots Q (F0 m pc ls (.long x :: .int i :: .null :: rest)) := by
  intro T hT X
  obtain ⟨t, st, q⟩ := k T hT X
  exact ⟨t, X.lastoreNull hexec (g := F0 m pc ls (.long x :: .int i :: .null :: rest)) rfl (rest := rest) rfl (by rw [hb]; exact hdg) t st, q⟩
theorem vx_fastoreN (hexec : p.tables.exec = Jvm.exec) (hb : c.code = cc) {x : UInt32} {i : Int32} (hdg : decode cc pc = .ok (.fastore, 1)) (k : vx_NoteN p l e R s m args below meth c H locs cells slots Q (F0 m pc ls rest)) : W p l e R s m args below meth c H locs cells slots Q (F0 m pc ls (.float x :: .int i :: .null :: rest)) := by
  intro T hT X
  obtain ⟨t, st, q⟩ := k T hT X
  exact ⟨t, X.fastoreNull hexec (g := F0 m pc ls (.float x :: .int i :: .null :: rest)) rfl (rest := rest) rfl (by rw [hb]; exact hdg) t st, q⟩
theorem vx_dastoreN (hexec : p.tables.exec = Jvm.exec) (hb : c.code = cc) {x : UInt64} {i : Int32} (hdg : decode cc pc = .ok (.dastore, 1)) (k : vx_NoteN p l e R s m args below meth c H locs cells slots Q (F0 m pc ls rest)) : W p l e R s m args below meth c H locs cells slots Q (F0 m pc ls (.double x :: .int i :: .null :: rest)) := by
  intro T hT X
  obtain ⟨t, st, q⟩ := k T hT X
  exact ⟨t, X.dastoreNull hexec (g := F0 m pc ls (.double x :: .int i :: .null :: rest)) rfl (rest := rest) rfl (by rw [hb]; exact hdg) t st, q⟩
theorem vx_bastoreN (hexec : p.tables.exec = Jvm.exec) (hb : c.code = cc) {x : Int32} {i : Int32} (hdg : decode cc pc = .ok (.bastore, 1)) (k : vx_NoteN p l e R s m args below meth c H locs cells slots Q (F0 m pc ls rest)) : W p l e R s m args below meth c H locs cells slots Q (F0 m pc ls (.int x :: .int i :: .null :: rest)) := by
  intro T hT X
  obtain ⟨t, st, q⟩ := k T hT X
  exact ⟨t, X.bastoreNull hexec (g := F0 m pc ls (.int x :: .int i :: .null :: rest)) rfl (rest := rest) rfl (by rw [hb]; exact hdg) t st, q⟩
theorem vx_castoreN (hexec : p.tables.exec = Jvm.exec) (hb : c.code = cc) {x : Int32} {i : Int32} (hdg : decode cc pc = .ok (.castore, 1)) (k : vx_NoteN p l e R s m args below meth c H locs cells slots Q (F0 m pc ls rest)) : W p l e R s m args below meth c H locs cells slots Q (F0 m pc ls (.int x :: .int i :: .null :: rest)) := by
  intro T hT X
  obtain ⟨t, st, q⟩ := k T hT X
  exact ⟨t, X.castoreNull hexec (g := F0 m pc ls (.int x :: .int i :: .null :: rest)) rfl (rest := rest) rfl (by rw [hb]; exact hdg) t st, q⟩
theorem vx_sastoreN (hexec : p.tables.exec = Jvm.exec) (hb : c.code = cc) {x : Int32} {i : Int32} (hdg : decode cc pc = .ok (.sastore, 1)) (k : vx_NoteN p l e R s m args below meth c H locs cells slots Q (F0 m pc ls rest)) : W p l e R s m args below meth c H locs cells slots Q (F0 m pc ls (.int x :: .int i :: .null :: rest)) := by
  intro T hT X
  obtain ⟨t, st, q⟩ := k T hT X
  exact ⟨t, X.sastoreNull hexec (g := F0 m pc ls (.int x :: .int i :: .null :: rest)) rfl (rest := rest) rfl (by rw [hb]; exact hdg) t st, q⟩
theorem vx_invokeN {own C : String} {index maxL : Nat} {y : MethodName} {bytes : ByteArray} {ret : Option FieldType} (hexec : p.tables.exec = Jvm.exec) (hb : c.code = cc) (hown : s.vm.findClass own = some m.cls) (hlink : (Cond.methodLink own index y).before args s = true) (hinst : (Cond.instanceMethod y).before args s = true) (hcode : (Cond.code y bytes maxL ret).before args s = true) (hsel : (Cond.selects C y y).before args s = true)
    (hx : y.cls ≠ "java/lang/invoke/MethodHandle" ∧ y.cls ≠ "java/lang/invoke/VarHandle") {As : List Value} (hlen : (parseMethodDescriptor y.desc).map (fun d => d.parameters.length) = some As.length) (hdg : decode cc pc = .ok (.invokevirtual index, 3))
    (k : vx_NoteN p l e R s m args below meth c H locs cells slots Q (F0 m pc ls rest)) {st0 : List Value} (hst : st0 = As.reverse ++ .null :: rest) : W p l e R s m args below meth c H locs cells slots Q (F0 m pc ls st0) := by
  intro T hT X
  obtain ⟨r0, r, hn, hrm, hstR, hsigR⟩ := va_Decl.of hinst hcode
  obtain ⟨c2, r2, m2, q1, q2, q3, q4, kP, hkP, hkPi⟩ := Cond.selects_spec hsel
  cases hn.symm.trans q3
  have hl9 : As.length = r.sig.parameters.length := by
    rw [hsigR] at hlen
    exact (Option.some.inj hlen).symm
  obtain ⟨vm', X1, st1⟩ := X.invokevirtualNull hexec hown hlink hn hrm hstR hkP hkPi hx (g := F0 m pc ls st0) rfl (argsL := As) (rest := rest) hl9 hst (by rw [hb]; exact hdg)
  obtain ⟨t, st, q⟩ := k (T.setVm vm') hT X1
  exact ⟨t, st1 t st, q⟩
theorem vx_newarrayZ {atype : ArrayType} (hexec : p.tables.exec = Jvm.exec) (hb : c.code = cc) {n : Int32} (h0 : n < 0) (hdg : decode cc pc = .ok (.newarray atype, 2)) (k : ∀ tx : String, tx = toString n → vx_Note p l e R s m args below meth c H locs cells slots Q (F0 m pc ls rest) "java/lang/NegativeArraySizeException" tx) : W p l e R s m args below meth c H locs cells slots Q (F0 m pc ls (.int n :: rest)) := by
  intro T hT X
  obtain ⟨t, st, q⟩ := k _ rfl T hT X
  exact ⟨t, X.newarrayNegative hexec (g := F0 m pc ls (.int n :: rest)) rfl h0 (rest := rest) rfl (by rw [hb]; exact hdg) t st, q⟩
end
end VXM
/-! ===== END ===== -/
end
section
/-! ===== BEGIN a method of a class above, found by the receiver, that may throw (follows va_callVU, va_runU of this kit) ===== -/
section
variable {p : Program} {l : Launch} {e : Env} {R : Room} {s : State} {m : MethodId} {args : Array Value} {below : List Frame} {meth : Method} {c : Code} {H : Heap} {locs : List Loc} {cells slots : Nat}
theorem vx_callVU {T : State} {locs : List Loc} {cells slots : Nat} (X : Stand p l e R s m args below meth c T locs cells slots) (hexec : p.tables.exec = Jvm.exec) {own C owner : String} {index : Nat} {x y : MethodName} {bytes : ByteArray} {maxL : Nat} {ret : Option FieldType}
    (hown : s.vm.findClass own = some m.cls) (hlink : (Cond.methodLink own index x).before args s = true) (hsame : (Cond.sameMethod x.cls owner x.name x.desc).before args s = true)
    (hd0 : va_Decl s ⟨owner, x.name, x.desc⟩) (howner : owner ≠ "java/lang/invoke/MethodHandle" ∧ owner ≠ "java/lang/invoke/VarHandle")
    (hsel : (Cond.selects C x y).before args s = true) (hinst : (Cond.instanceMethod y).before args s = true) (hcode : (Cond.code y bytes maxL ret).before args s = true)
    {W : Nat} {Pre : Pt → Array Value → Prop} {Post : Pt → Array Value → Option Value → Pt → Prop} {PostX : Pt → Array Value → Addr → Pt → Prop} (hK : vx_Back l R p e below s args y 3 W Pre Post PostX)
    {b : Addr} {cellB : Cell} (hcell : T.heap[b]? = some cellB) (hobj : cellB.vm.isStatics = false) (hcls : s.vm.findClass C = some cellB.cls)
    {g : JFrame} (hg : g.method = m) (hsize : g.locals.size = c.maxLocals) {argsL rest : List Value} (hlen : ∀ sig, parseMethodDescriptor x.desc = some sig → argsL.length = sig.parameters.length)
    (hstack : g.stack = argsL.reverse ++ .ref b :: rest) (hW : 2 * g.monitorRoom + (rest.map fun v => v.category).sum ≤ W) (hdg : decode c.code g.pc = .ok (.invokevirtual index, 3))
    (hpre : ∀ vm₁, s.WarmedH vm₁ → Pre ⟨T.setVm vm₁, locs, cells, slots⟩ (Value.ref b :: argsL).toArray) :
    (∃ (v : Option Value) (vm₁ : Vm) (B : Pt), s.WarmedH vm₁ ∧ Stand p l e R s m args below meth c B.U B.locs B.cells B.slots ∧ Post ⟨T.setVm vm₁, locs, cells, slots⟩ (Value.ref b :: argsL).toArray v B ∧
      ∀ target, Steps p.tables e below (B.U.setTop { g with pc := g.pc + 3, stack := v.toList ++ rest }) target → Steps p.tables e below (T.setTop g) target) ∨
    (∃ (q : Addr) (vm₁ : Vm) (B : Pt), s.WarmedH vm₁ ∧ Stand p l e R s m args below meth c B.U B.locs B.cells B.slots ∧ PostX ⟨T.setVm vm₁, locs, cells, slots⟩ (Value.ref b :: argsL).toArray q B ∧
      Steps p.tables e below (T.setTop g) ((B.U.setTop { g with stack := rest }).pushFrame (.throwing q))) := by
  obtain ⟨r0, r, hn, hrm, hstR, hsigR⟩ := hd0
  obtain ⟨cn, ck, r1, hcn, hck, hni, hf, hn1⟩ := Cond.sameMethod_found hsame
  cases hn.symm.trans hn1
  obtain ⟨mk, methM, hnamed, hmethM, -, habM⟩ := Cond.instanceMethod_spec hinst
  obtain ⟨c2, r2, m2, q1, q2, q3, q4, kP, hkP, hkPi⟩ := Cond.selects_spec hsel
  cases hcls.symm.trans q1
  cases hf.symm.trans q2
  cases hnamed.symm.trans q3
  have hselP : selectMethod e.platform s.vm cellB.cls r0 = .method mk := by rw [Launch.admits_selectMethod X.admits]; exact q4
  obtain ⟨vm₁, X₁, hstep₁⟩ := X.invokevirtualUp hexec hown hlink hsame howner hn hrm hstR (a := b) (cell := cellB) hcell
    (fun z h => by rw [h] at hobj; cases hobj) hselP hmethM habM hkP hkPi (g := g) hg (argsL := argsL) (rest := rest) (hlen _ hsigR) hstack hdg
  rcases hK m meth c ⟨T.setVm vm₁, locs, cells, slots⟩ { g with stack := rest } (.invokevirtual index) mk (Value.ref b :: argsL).toArray X₁ hg hsize hdg hW (X₁.named hnamed) (hpre vm₁ X₁.warmed) with ⟨v, B, X', hpost, hsteps⟩ | ⟨q, B, X', hpost, hsteps⟩
  · exact Or.inl ⟨v, vm₁, B, X₁.warmed, X', hpost, fun target h => hstep₁ _ fun acts => by rw [doInvoke_state]; exact hsteps.trans h⟩
  · exact Or.inr ⟨q, vm₁, B, X₁.warmed, X', hpost, hstep₁ _ fun acts => by rw [doInvoke_state]; exact hsteps⟩
theorem vx_runU {x y : MethodName} {bytes cc : ByteArray} {maxL nL mc ms n index : Nat} {ret : Option FieldType} {ws : List Cond} {rm : Room} {Pc : Array Value → State → Prop} {Qc : Array Value → State → Outcome → State → Prop} {XC : String → State → State → Prop} {free : Addr → Prop} {Ts : List Cond} {own C owner : String} {b : Addr} {As rest : List Value} {g : JFrame}
    (S : CallFix p m c cc nL s args Ts own) (hM : vx_Met l y ws rm Pc Qc XC mc ms free) (cw : va_CU R s args own C owner index x y bytes maxL ret ws rm mc ms n) (hp : PreV s H C b Pc As)
    (hg : g.method = m) (hn : As.length = n) (hsize : g.locals.size = nL) (hstack : g.stack = As.reverse ++ .ref b :: rest) (hW : 2 * g.monitorRoom + (rest.map fun v => v.category).sum ≤ 8) (hdg : decode cc g.pc = .ok (.invokevirtual index, 3)) (hf : cells + mc ≤ R.cells ∧ slots + ms ≤ R.slots) :
    vx_Run p l e R s m args below meth c H locs cells slots mc ms g rest (Qc (Value.ref b :: As).toArray) XC free := by
  obtain ⟨hrc, hrs, hfr, hlo, hws, hcw⟩ := cw.back
  have hini := cw.init
  have hK : vx_Back l R p e below s args y 3 8 (PreOf R mc ms Pc) (PostOf Qc mc ms free) (vx_Post XC mc ms free) := vx_back (bytes := bytes) (maxL := maxL) (ret := ret) hM hp.1 hrc hrs hfr hlo hws hcw (fun a' U hW => word_at hW (Or.inl (by first | rfl | simp [Cond.onTables, Cond.keeps, Cond.steady])) hini)
  obtain ⟨hx, hb, hml, ho, -⟩ := S
  obtain ⟨-, ⟨cellB, hcB, hoB, hclB⟩, hPc⟩ := hp
  intro T hT X
  rcases vx_callVU X hx (C := C) (owner := owner) (bytes := bytes) (maxL := maxL) (ret := ret) ho cw.link cw.same cw.decl cw.notMH cw.sel cw.inst cw.code hK (by rw [hT]; exact hcB) hoB hclB hg (hsize.trans hml.symm) (argsL := As) (rest := rest) (fun sig h => hn.trans (cw.len sig h)) hstack hW (by rw [hb]; exact hdg)
    (fun vm₁ hW₁ => ⟨hf.1, hf.2, hPc (T.setVm vm₁) hT hW₁⟩) with ⟨v, vm₁, ⟨U', l2, c2, s2⟩, hW₁, X', ⟨g', mk, t, L, e1, e2, hq, h1, hL, h2, h3⟩, st⟩ | ⟨q, vm₁, ⟨U', l2, c2, s2⟩, hW₁, X', ⟨g', mk, t, L, E, ce, e1, e2, hq, hce, hcv, hcl, h1, hL, h2, h3⟩, st⟩
  · dsimp only [Pt.U, Pt.locs, Pt.cells, Pt.slots] at X' e1 e2 h1 h2 h3 st
    subst h1; subst h2; subst h3
    exact Or.inl ⟨v, (T.setVm vm₁).calling g' mk (Value.ref b :: As).toArray, t, U', L, hT, X', hL, e1, e2, hq, st⟩
  · dsimp only [Pt.U, Pt.locs, Pt.cells, Pt.slots] at X' e1 e2 h1 h2 h3 st hcl
    subst h1; subst h2; subst h3
    exact Or.inr ⟨q, (T.setVm vm₁).calling g' mk (Value.ref b :: As).toArray, t, U', L, E, ce, hT, X', hL, e1, e2, hq, hce, hcv, vx_cls hW₁ hcl, st⟩
end
/-! ===== END ===== -/
/-! ===== BEGIN super.m(..) that may throw (follows va_callSU, va_runSU) ===== -/
section
variable {p : Program} {l : Launch} {e : Env} {R : Room} {s : State} {m : MethodId} {args : Array Value} {below : List Frame} {meth : Method} {c : Code} {H : Heap} {locs : List Loc} {cells slots : Nat}
theorem vx_callSU {T : State} {locs : List Loc} {cells slots : Nat} (X : Stand p l e R s m args below meth c T locs cells slots) (hexec : p.tables.exec = Jvm.exec) {own : String} {index : Nat} {y : MethodName} {bytes : ByteArray} {maxL : Nat} {ret : Option FieldType}
    (hown : s.vm.findClass own = some m.cls) (hlink : (Cond.methodLink own index y).before args s = true) (hsame : (Cond.sameMethod y.cls y.cls y.name y.desc).before args s = true) (hsup : (Cond.superclass own y.cls).before args s = true)
    (hinst : (Cond.instanceMethod y).before args s = true) (hcode : (Cond.code y bytes maxL ret).before args s = true) (hno : y.name ≠ "<init>")
    {W : Nat} {Pre : Pt → Array Value → Prop} {Post : Pt → Array Value → Option Value → Pt → Prop} {PostX : Pt → Array Value → Addr → Pt → Prop} (hK : vx_Back l R p e below s args y 3 W Pre Post PostX)
    {b : Addr} {cellB : Cell} {kB : Class} (hcell : T.heap[b]? = some cellB) (hobj : cellB.vm.isStatics = false) (hkB : s.vm.classes[cellB.cls]? = some kB)
    {g : JFrame} (hg : g.method = m) (hsize : g.locals.size = c.maxLocals) {argsL rest : List Value} (hlen : ∀ sig, parseMethodDescriptor y.desc = some sig → argsL.length = sig.parameters.length)
    (hstack : g.stack = argsL.reverse ++ .ref b :: rest) (hW : 2 * g.monitorRoom + (rest.map fun v => v.category).sum ≤ W) (hdg : decode c.code g.pc = .ok (.invokespecial index, 3))
    (hpre : ∀ vm₁, s.WarmedH vm₁ → Pre ⟨T.setVm vm₁, locs, cells, slots⟩ (Value.ref b :: argsL).toArray) :
    (∃ (v : Option Value) (vm₁ : Vm) (B : Pt), s.WarmedH vm₁ ∧ Stand p l e R s m args below meth c B.U B.locs B.cells B.slots ∧ Post ⟨T.setVm vm₁, locs, cells, slots⟩ (Value.ref b :: argsL).toArray v B ∧
      ∀ target, Steps p.tables e below (B.U.setTop { g with pc := g.pc + 3, stack := v.toList ++ rest }) target → Steps p.tables e below (T.setTop g) target) ∨
    (∃ (q : Addr) (vm₁ : Vm) (B : Pt), s.WarmedH vm₁ ∧ Stand p l e R s m args below meth c B.U B.locs B.cells B.slots ∧ PostX ⟨T.setVm vm₁, locs, cells, slots⟩ (Value.ref b :: argsL).toArray q B ∧
      Steps p.tables e below (T.setTop g) ((B.U.setTop { g with stack := rest }).pushFrame (.throwing q))) := by
  obtain ⟨mk, methM, hnamed, hmethM, hstM, habM⟩ := Cond.instanceMethod_spec hinst
  obtain ⟨methM', cM, hmethM', -, -, -, -, -, -, hsigM⟩ := Cond.code_spec hnamed hcode
  cases hmethM.symm.trans hmethM'
  obtain ⟨ps, dk, kp, hps, hdk, hkp, hsuper, -, -, hnid⟩ := Cond.superclass_spec hown hsup
  have hn : s.methodNamed? ⟨y.cls, y.name, y.desc⟩ = some mk := hnamed
  have hpm : ps = mk.cls := Option.some.inj (hps.symm.trans (findClass_of_methodNamed hnamed))
  have hsub : s.vm.isSubclass ps mk.cls = true := by rw [hpm]; simp [Vm.isSubclass, Vm.isSubclassAux]
  obtain ⟨vm₁, X₁, hstep₁⟩ := X.invokespecialUp hexec hown hlink hsame hn hmethM hstM habM hno hdk hnid hps hsuper hsub (a := b) (cell := cellB) hcell
    (fun z h => by rw [h] at hobj; cases hobj) hkB (g := g) hg (argsL := argsL) (rest := rest) (hlen _ hsigM) hstack hdg
  rcases hK m meth c ⟨T.setVm vm₁, locs, cells, slots⟩ { g with stack := rest } (.invokespecial index) mk (Value.ref b :: argsL).toArray X₁ hg hsize hdg hW (X₁.named hnamed) (hpre vm₁ X₁.warmed) with ⟨v, B, X', hpost, hsteps⟩ | ⟨q, B, X', hpost, hsteps⟩
  · exact Or.inl ⟨v, vm₁, B, X₁.warmed, X', hpost, fun target h => hstep₁ _ (by rw [doInvoke_state]; exact hsteps.trans h)⟩
  · exact Or.inr ⟨q, vm₁, B, X₁.warmed, X', hpost, hstep₁ _ (by rw [doInvoke_state]; exact hsteps)⟩
theorem vx_runSU {y : MethodName} {bytes cc : ByteArray} {maxL nL mc ms n index : Nat} {ret : Option FieldType} {ws : List Cond} {rm : Room} {Pc : Array Value → State → Prop} {Qc : Array Value → State → Outcome → State → Prop} {XC : String → State → State → Prop} {free : Addr → Prop} {Ts : List Cond} {own C : String} {cC : ClassId} {b : Addr} {As rest : List Value} {g : JFrame}
    (hat : ClassAt s C cC) (S : CallFix p m c cc nL s args Ts own) (hM : vx_Met l y ws rm Pc Qc XC mc ms free) (cw : va_CS R s args own index y bytes maxL ret ws rm mc ms n) (hp : PreV s H C b Pc As)
    (hg : g.method = m) (hn : As.length = n) (hsize : g.locals.size = nL) (hstack : g.stack = As.reverse ++ .ref b :: rest) (hW : 2 * g.monitorRoom + (rest.map fun v => v.category).sum ≤ 8) (hdg : decode cc g.pc = .ok (.invokespecial index, 3)) (hf : cells + mc ≤ R.cells ∧ slots + ms ≤ R.slots) :
    vx_Run p l e R s m args below meth c H locs cells slots mc ms g rest (Qc (Value.ref b :: As).toArray) XC free := by
  obtain ⟨⟨hrc, hrs, hfr, hlo, hws, hcw⟩, hl1, hl2, hl3, hl4, hini, hcode, hno, hlen⟩ := cw
  have hK : vx_Back l R p e below s args y 3 8 (PreOf R mc ms Pc) (PostOf Qc mc ms free) (vx_Post XC mc ms free) := vx_back (bytes := bytes) (maxL := maxL) (ret := ret) hM hp.1 hrc hrs hfr hlo hws hcw (fun a' U hW => word_at hW (Or.inl (by first | rfl | simp [Cond.onTables, Cond.keeps, Cond.steady])) hini)
  obtain ⟨hx, hb, hml, ho, -⟩ := S
  obtain ⟨-, ⟨cellB, hcB, hoB, hclB⟩, hPc⟩ := hp
  obtain ⟨hfc, kB, hkB, -⟩ := hat
  cases hfc.symm.trans hclB
  intro T hT X
  rcases vx_callSU X hx (bytes := bytes) (maxL := maxL) (ret := ret) ho hl1 hl2 hl3 hl4 hcode hno hK (by rw [hT]; exact hcB) hoB hkB hg (hsize.trans hml.symm) (argsL := As) (rest := rest) (fun sig h => hn.trans (hlen sig h)) hstack hW (by rw [hb]; exact hdg)
    (fun vm₁ hW₁ => ⟨hf.1, hf.2, hPc (T.setVm vm₁) hT hW₁⟩) with ⟨v, vm₁, ⟨U', l2, c2, s2⟩, hW₁, X', ⟨g', mk, t, L, e1, e2, hq, h1, hL, h2, h3⟩, st⟩ | ⟨q, vm₁, ⟨U', l2, c2, s2⟩, hW₁, X', ⟨g', mk, t, L, E, ce, e1, e2, hq, hce, hcv, hcl, h1, hL, h2, h3⟩, st⟩
  · dsimp only [Pt.U, Pt.locs, Pt.cells, Pt.slots] at X' e1 e2 h1 h2 h3 st
    subst h1; subst h2; subst h3
    exact Or.inl ⟨v, (T.setVm vm₁).calling g' mk (Value.ref b :: As).toArray, t, U', L, hT, X', hL, e1, e2, hq, st⟩
  · dsimp only [Pt.U, Pt.locs, Pt.cells, Pt.slots] at X' e1 e2 h1 h2 h3 st hcl
    subst h1; subst h2; subst h3
    exact Or.inr ⟨q, (T.setVm vm₁).calling g' mk (Value.ref b :: As).toArray, t, U', L, E, ce, hT, X', hL, e1, e2, hq, hce, hcv, vx_cls hW₁ hcl, st⟩
end
/-! ===== END ===== -/
end
section
def RX0 : String := "Dotpress$Embosser"
def TX0 : u_T := fun k => match k with
  | 0 => ("Dotpress$Embosser", "wear", "LDotpress$Row;", true)
  | 1 => ("Dotpress$Embosser", "plan", "LDotpress$Row;", true)
  | _ => ("Dotpress$Embosser", "bearing", "I", false)
def tyX0 : Nat → FieldType := fun k => match k with
  | 0 => .object "Dotpress$Row"
  | 1 => .object "Dotpress$Row"
  | _ => .int
abbrev wsX00 : List Cond := u_ws RX0 TX0 3
theorem nmX0 : ∀ a, a < 3 → ∀ b, b < 3 → a ≠ b → (TX0 a).2.1 ≠ (TX0 b).2.1 := by decide +kernel
theorem tyX0_ok : ∀ k, k < 3 → parseFieldDescriptor (TX0 k).2.2.1 = some (tyX0 k) := by decide +kernel
abbrev cX0_init : ByteArray := prog_2_method_1_code
def yX0_init : MethodName := ⟨RX0, "<init>", "()V"⟩
abbrev cX0_changeBearing : ByteArray := prog_2_method_2_code
def yX0_changeBearing : MethodName := ⟨RX0, "changeBearing", "(I)I"⟩
abbrev cX0_wearOf : ByteArray := prog_2_method_3_code
def yX0_wearOf : MethodName := ⟨RX0, "wearOf", "(I)I"⟩
abbrev cX0_renewPin : ByteArray := prog_2_method_4_code
def yX0_renewPin : MethodName := ⟨RX0, "renewPin", "(I)I"⟩
abbrev cX0_forgetPlan : ByteArray := prog_2_method_6_code
def yX0_forgetPlan : MethodName := ⟨RX0, "forgetPlan", "()V"⟩
abbrev cX0_planCell : ByteArray := prog_2_method_7_code
def yX0_planCell : MethodName := ⟨RX0, "planCell", "(I)V"⟩
abbrev cX0_bearsPlan : ByteArray := prog_2_method_8_code
def yX0_bearsPlan : MethodName := ⟨RX0, "bearsPlan", "()Z"⟩
abbrev cX0_strikePlan : ByteArray := prog_2_method_9_code
def yX0_strikePlan : MethodName := ⟨RX0, "strikePlan", "()V"⟩
def RX1 : String := "Dotpress$Pieces"
def TX1 : u_T := fun k => match k with
  | 0 => ("Dotpress$Pieces", "numbers", "LDotpress$Row;", true)
  | _ => ("Dotpress$Pieces", "ends", "LDotpress$Row;", true)
def tyX1 : Nat → FieldType := fun k => match k with
  | 0 => .object "Dotpress$Row"
  | _ => .object "Dotpress$Row"
abbrev wsX10 : List Cond := u_ws RX1 TX1 2
theorem nmX1 : ∀ a, a < 2 → ∀ b, b < 2 → a ≠ b → (TX1 a).2.1 ≠ (TX1 b).2.1 := by decide +kernel
theorem tyX1_ok : ∀ k, k < 2 → parseFieldDescriptor (TX1 k).2.2.1 = some (tyX1 k) := by decide +kernel
abbrev cX1_init : ByteArray := prog_3_method_1_code
def yX1_init : MethodName := ⟨RX1, "<init>", "(II)V"⟩
abbrev cX1_uncut : ByteArray := prog_3_method_2_code
def yX1_uncut : MethodName := ⟨RX1, "uncut", "()LDotpress$Row;"⟩
abbrev cX1_count : ByteArray := prog_3_method_3_code
def yX1_count : MethodName := ⟨RX1, "count", "()I"⟩
abbrev cX1_startOf : ByteArray := prog_3_method_4_code
def yX1_startOf : MethodName := ⟨RX1, "startOf", "(I)I"⟩
abbrev cX1_endOf : ByteArray := prog_3_method_5_code
def yX1_endOf : MethodName := ⟨RX1, "endOf", "(I)I"⟩
abbrev cX1_sizeOf : ByteArray := prog_3_method_6_code
def yX1_sizeOf : MethodName := ⟨RX1, "sizeOf", "(I)I"⟩
abbrev cX1_get : ByteArray := prog_3_method_7_code
def yX1_get : MethodName := ⟨RX1, "get", "(II)I"⟩
abbrev cX1_uncutSize : ByteArray := prog_3_method_8_code
def yX1_uncutSize : MethodName := ⟨RX1, "uncutSize", "()I"⟩
abbrev cX1_add : ByteArray := prog_3_method_9_code
def yX1_add : MethodName := ⟨RX1, "add", "(I)V"⟩
abbrev cX1_cut : ByteArray := prog_3_method_10_code
def yX1_cut : MethodName := ⟨RX1, "cut", "()V"⟩
abbrev cX1_empty : ByteArray := prog_3_method_11_code
def yX1_empty : MethodName := ⟨RX1, "empty", "()V"⟩
abbrev cX1_drop : ByteArray := prog_3_method_12_code
def yX1_drop : MethodName := ⟨RX1, "drop", "(I)V"⟩
abbrev cX1_isSame : ByteArray := prog_3_method_13_code
def yX1_isSame : MethodName := ⟨RX1, "isSame", "(ILDotpress$Row;II)Z"⟩
abbrev cX1_shares : ByteArray := prog_3_method_14_code
def yX1_shares : MethodName := ⟨RX1, "shares", "(ILDotpress$Pieces;)Z"⟩
abbrev cX1_takeOver : ByteArray := prog_3_method_15_code
def yX1_takeOver : MethodName := ⟨RX1, "takeOver", "(LDotpress$Pieces;)V"⟩
def RX2 : String := "Dotpress$Row"
def TX2 : u_T := fun k => match k with
  | 0 => ("Dotpress$Row", "numbers", "[I", true)
  | _ => ("Dotpress$Row", "count", "I", false)
def tyX2 : Nat → FieldType := fun k => match k with
  | 0 => .array .int
  | _ => .int
abbrev wsX20 : List Cond := u_ws RX2 TX2 2
theorem nmX2 : ∀ a, a < 2 → ∀ b, b < 2 → a ≠ b → (TX2 a).2.1 ≠ (TX2 b).2.1 := by decide +kernel
theorem tyX2_ok : ∀ k, k < 2 → parseFieldDescriptor (TX2 k).2.2.1 = some (tyX2 k) := by decide +kernel
abbrev cX2_init : ByteArray := prog_4_method_1_code
def yX2_init : MethodName := ⟨RX2, "<init>", "(I)V"⟩
abbrev cX2_count : ByteArray := prog_4_method_2_code
def yX2_count : MethodName := ⟨RX2, "count", "()I"⟩
abbrev cX2_isFull : ByteArray := prog_4_method_3_code
def yX2_isFull : MethodName := ⟨RX2, "isFull", "()Z"⟩
abbrev cX2_get : ByteArray := prog_4_method_4_code
def yX2_get : MethodName := ⟨RX2, "get", "(I)I"⟩
abbrev cX2_set : ByteArray := prog_4_method_5_code
def yX2_set : MethodName := ⟨RX2, "set", "(II)V"⟩
abbrev cX2_add : ByteArray := prog_4_method_6_code
def yX2_add : MethodName := ⟨RX2, "add", "(I)V"⟩
abbrev cX2_insert : ByteArray := prog_4_method_7_code
def yX2_insert : MethodName := ⟨RX2, "insert", "(II)V"⟩
abbrev cX2_remove : ByteArray := prog_4_method_8_code
def yX2_remove : MethodName := ⟨RX2, "remove", "(I)V"⟩
abbrev cX2_empty : ByteArray := prog_4_method_9_code
def yX2_empty : MethodName := ⟨RX2, "empty", "()V"⟩
abbrev cX2_placeOf : ByteArray := prog_4_method_10_code
def yX2_placeOf : MethodName := ⟨RX2, "placeOf", "(I)I"⟩
abbrev cX2_takeOver : ByteArray := prog_4_method_11_code
def yX2_takeOver : MethodName := ⟨RX2, "takeOver", "(LDotpress$Row;)V"⟩
def RX3 : String := "Dotpress$RuleBook"
def TX3 : u_T := fun k => match k with
  | 0 => ("Dotpress$RuleBook", "keys", "LDotpress$Row;", true)
  | 1 => ("Dotpress$RuleBook", "grades", "LDotpress$Row;", true)
  | 2 => ("Dotpress$RuleBook", "firsts", "LDotpress$Row;", true)
  | 3 => ("Dotpress$RuleBook", "seconds", "LDotpress$Row;", true)
  | _ => ("Dotpress$RuleBook", "exceptions", "LDotpress$Pieces;", true)
def tyX3 : Nat → FieldType := fun k => match k with
  | 0 => .object "Dotpress$Row"
  | 1 => .object "Dotpress$Row"
  | 2 => .object "Dotpress$Row"
  | 3 => .object "Dotpress$Row"
  | _ => .object "Dotpress$Pieces"
abbrev wsX30 : List Cond := u_ws RX3 TX3 5
theorem nmX3 : ∀ a, a < 5 → ∀ b, b < 5 → a ≠ b → (TX3 a).2.1 ≠ (TX3 b).2.1 := by decide +kernel
theorem tyX3_ok : ∀ k, k < 5 → parseFieldDescriptor (TX3 k).2.2.1 = some (tyX3 k) := by decide +kernel
abbrev cX3_init : ByteArray := prog_5_method_1_code
def yX3_init : MethodName := ⟨RX3, "<init>", "()V"⟩
abbrev cX3_keyOf : ByteArray := prog_5_method_2_code
def yX3_keyOf : MethodName := ⟨RX3, "keyOf", "(LDotpress$Row;II)I"⟩
abbrev cX3_isFull : ByteArray := prog_5_method_4_code
def yX3_isFull : MethodName := ⟨RX3, "isFull", "()Z"⟩
abbrev cX3_placeOf : ByteArray := prog_5_method_6_code
def yX3_placeOf : MethodName := ⟨RX3, "placeOf", "(I)I"⟩
abbrev cX3_insert : ByteArray := prog_5_method_7_code
def yX3_insert : MethodName := ⟨RX3, "insert", "(IIII)I"⟩
abbrev cX3_alter : ByteArray := prog_5_method_8_code
def yX3_alter : MethodName := ⟨RX3, "alter", "(IIII)V"⟩
abbrev cX3_isInOrder : ByteArray := prog_5_method_11_code
def yX3_isInOrder : MethodName := ⟨RX3, "isInOrder", "()Z"⟩
abbrev cX3_placeOfException : ByteArray := prog_5_method_12_code
def yX3_placeOfException : MethodName := ⟨RX3, "placeOfException", "(LDotpress$Row;II)I"⟩
abbrev cX3_isFullOfExceptions : ByteArray := prog_5_method_13_code
def yX3_isFullOfExceptions : MethodName := ⟨RX3, "isFullOfExceptions", "()Z"⟩
abbrev cX3_addException : ByteArray := prog_5_method_14_code
def yX3_addException : MethodName := ⟨RX3, "addException", "(LDotpress$Row;)V"⟩
abbrev cX3_dropException : ByteArray := prog_5_method_15_code
def yX3_dropException : MethodName := ⟨RX3, "dropException", "(I)V"⟩
abbrev cX3_translate : ByteArray := prog_5_method_16_code
def yX3_translate : MethodName := ⟨RX3, "translate", "(LDotpress$Row;IIILDotpress$Pieces;)V"⟩
abbrev cX3_addCells : ByteArray := prog_5_method_17_code
def yX3_addCells : MethodName := ⟨RX3, "addCells", "(LDotpress$Row;IIILDotpress$Pieces;)I"⟩
def RX4 : String := "Dotpress$Text"
def TX4 : u_T := fun k => match k with
  | 0 => ("Dotpress$Text", "typed", "LDotpress$Pieces;", true)
  | 1 => ("Dotpress$Text", "cells", "LDotpress$Pieces;", true)
  | 2 => ("Dotpress$Text", "marks", "LDotpress$Row;", true)
  | 3 => ("Dotpress$Text", "laid", "LDotpress$Pieces;", true)
  | 4 => ("Dotpress$Text", "firstLines", "LDotpress$Row;", true)
  | 5 => ("Dotpress$Text", "embossed", "LDotpress$Pieces;", true)
  | _ => ("Dotpress$Text", "grade", "I", false)
def tyX4 : Nat → FieldType := fun k => match k with
  | 0 => .object "Dotpress$Pieces"
  | 1 => .object "Dotpress$Pieces"
  | 2 => .object "Dotpress$Row"
  | 3 => .object "Dotpress$Pieces"
  | 4 => .object "Dotpress$Row"
  | 5 => .object "Dotpress$Pieces"
  | _ => .int
abbrev wsX40 : List Cond := u_ws RX4 TX4 7
theorem nmX4 : ∀ a, a < 7 → ∀ b, b < 7 → a ≠ b → (TX4 a).2.1 ≠ (TX4 b).2.1 := by decide +kernel
theorem tyX4_ok : ∀ k, k < 7 → parseFieldDescriptor (TX4 k).2.2.1 = some (tyX4 k) := by decide +kernel
abbrev cX4_init : ByteArray := prog_6_method_1_code
def yX4_init : MethodName := ⟨RX4, "<init>", "()V"⟩
abbrev cX4_take : ByteArray := prog_6_method_2_code
def yX4_take : MethodName := ⟨RX4, "take", "(LDotpress$Row;I)V"⟩
abbrev cX4_translate : ByteArray := prog_6_method_3_code
def yX4_translate : MethodName := ⟨RX4, "translate", "(LDotpress$RuleBook;LDotpress$Pieces;)Z"⟩
abbrev cX4_lay : ByteArray := prog_6_method_4_code
def yX4_lay : MethodName := ⟨RX4, "lay", "(I)V"⟩
abbrev cX4_beginWord : ByteArray := prog_6_method_5_code
def yX4_beginWord : MethodName := ⟨RX4, "beginWord", "(II)V"⟩
abbrev cX4_wordCount : ByteArray := prog_6_method_6_code
def yX4_wordCount : MethodName := ⟨RX4, "wordCount", "()I"⟩
abbrev cX4_cellCount : ByteArray := prog_6_method_7_code
def yX4_cellCount : MethodName := ⟨RX4, "cellCount", "(I)I"⟩
abbrev cX4_cellAt : ByteArray := prog_6_method_8_code
def yX4_cellAt : MethodName := ⟨RX4, "cellAt", "(II)I"⟩
abbrev cX4_lineCount : ByteArray := prog_6_method_9_code
def yX4_lineCount : MethodName := ⟨RX4, "lineCount", "()I"⟩
abbrev cX4_lineSize : ByteArray := prog_6_method_10_code
def yX4_lineSize : MethodName := ⟨RX4, "lineSize", "(I)I"⟩
abbrev cX4_laidCellAt : ByteArray := prog_6_method_11_code
def yX4_laidCellAt : MethodName := ⟨RX4, "laidCellAt", "(II)I"⟩
abbrev cX4_firstLineOf : ByteArray := prog_6_method_12_code
def yX4_firstLineOf : MethodName := ⟨RX4, "firstLineOf", "(I)I"⟩
abbrev cX4_isOther : ByteArray := prog_6_method_13_code
def yX4_isOther : MethodName := ⟨RX4, "isOther", "(I)Z"⟩
abbrev cX4_otherLineCount : ByteArray := prog_6_method_14_code
def yX4_otherLineCount : MethodName := ⟨RX4, "otherLineCount", "()I"⟩
abbrev cX4_keepAsEmbossed : ByteArray := prog_6_method_15_code
def yX4_keepAsEmbossed : MethodName := ⟨RX4, "keepAsEmbossed", "()V"⟩
abbrev cX4_putMark : ByteArray := prog_6_method_16_code
def yX4_putMark : MethodName := ⟨RX4, "putMark", "(IIC)V"⟩
abbrev cX4_markBy : ByteArray := prog_6_method_17_code
def yX4_markBy : MethodName := ⟨RX4, "markBy", "(II)C"⟩
abbrev cX4_unmark : ByteArray := prog_6_method_18_code
def yX4_unmark : MethodName := ⟨RX4, "unmark", "(I)V"⟩
abbrev cX4_isWellLaid : ByteArray := prog_6_method_21_code
def yX4_isWellLaid : MethodName := ⟨RX4, "isWellLaid", "(I)Z"⟩
def RX5 : String := "Dotpress"
def TX5 : u_T := fun k => match k with
  | 0 => ("Dotpress", "buffer", "LDotpress$Row;", true)
  | 1 => ("Dotpress", "rules", "LDotpress$RuleBook;", true)
  | 2 => ("Dotpress", "embosser", "LDotpress$Embosser;", true)
  | 3 => ("Dotpress", "texts", "[LDotpress$Text;", true)
  | 4 => ("Dotpress", "freshCells", "LDotpress$Pieces;", true)
  | 5 => ("Dotpress", "textCount", "I", false)
  | _ => ("Dotpress", "width", "I", false)
def tyX5 : Nat → FieldType := fun k => match k with
  | 0 => .object "Dotpress$Row"
  | 1 => .object "Dotpress$RuleBook"
  | 2 => .object "Dotpress$Embosser"
  | 3 => .array (.object "Dotpress$Text")
  | 4 => .object "Dotpress$Pieces"
  | 5 => .int
  | _ => .int
abbrev wsX50 : List Cond := u_ws RX5 TX5 7
theorem nmX5 : ∀ a, a < 7 → ∀ b, b < 7 → a ≠ b → (TX5 a).2.1 ≠ (TX5 b).2.1 := by decide +kernel
theorem tyX5_ok : ∀ k, k < 7 → parseFieldDescriptor (TX5 k).2.2.1 = some (tyX5 k) := by decide +kernel
abbrev cX5_init : ByteArray := prog_1_method_1_code
def yX5_init : MethodName := ⟨RX5, "<init>", "()V"⟩
abbrev cX5_type : ByteArray := prog_1_method_2_code
def yX5_type : MethodName := ⟨RX5, "type", "(C)I"⟩
abbrev cX5_clear : ByteArray := prog_1_method_3_code
def yX5_clear : MethodName := ⟨RX5, "clear", "()I"⟩
abbrev cX5_addRule : ByteArray := prog_1_method_4_code
def yX5_addRule : MethodName := ⟨RX5, "addRule", "(III)I"⟩
abbrev cX5_mend : ByteArray := prog_1_method_5_code
def yX5_mend : MethodName := ⟨RX5, "mend", "(III)I"⟩
abbrev cX5_turnException : ByteArray := prog_1_method_8_code
def yX5_turnException : MethodName := ⟨RX5, "turnException", "()Z"⟩
abbrev cX5_setText : ByteArray := prog_1_method_9_code
def yX5_setText : MethodName := ⟨RX5, "setText", "(II)I"⟩
abbrev cX5_setWidth : ByteArray := prog_1_method_10_code
def yX5_setWidth : MethodName := ⟨RX5, "setWidth", "(I)I"⟩
abbrev cX5_words : ByteArray := prog_1_method_11_code
def yX5_words : MethodName := ⟨RX5, "words", "(I)I"⟩
abbrev cX5_length : ByteArray := prog_1_method_12_code
def yX5_length : MethodName := ⟨RX5, "length", "(II)I"⟩
abbrev cX5_cellOf : ByteArray := prog_1_method_13_code
def yX5_cellOf : MethodName := ⟨RX5, "cellOf", "(III)I"⟩
abbrev cX5_lines : ByteArray := prog_1_method_14_code
def yX5_lines : MethodName := ⟨RX5, "lines", "(I)I"⟩
abbrev cX5_lineAt : ByteArray := prog_1_method_15_code
def yX5_lineAt : MethodName := ⟨RX5, "lineAt", "(III)I"⟩
abbrev cX5_lineOf : ByteArray := prog_1_method_16_code
def yX5_lineOf : MethodName := ⟨RX5, "lineOf", "(II)I"⟩
abbrev cX5_emboss : ByteArray := prog_1_method_17_code
def yX5_emboss : MethodName := ⟨RX5, "emboss", "(I)I"⟩
abbrev cX5_changed : ByteArray := prog_1_method_18_code
def yX5_changed : MethodName := ⟨RX5, "changed", "(I)I"⟩
abbrev cX5_setBearing : ByteArray := prog_1_method_19_code
def yX5_setBearing : MethodName := ⟨RX5, "setBearing", "(I)I"⟩
abbrev cX5_replace : ByteArray := prog_1_method_20_code
def yX5_replace : MethodName := ⟨RX5, "replace", "(I)I"⟩
abbrev cX5_strikes : ByteArray := prog_1_method_21_code
def yX5_strikes : MethodName := ⟨RX5, "strikes", "(I)I"⟩
abbrev cX5_mark : ByteArray := prog_1_method_22_code
def yX5_mark : MethodName := ⟨RX5, "mark", "(IIIZ)Z"⟩
abbrev cX5_markOf : ByteArray := prog_1_method_23_code
def yX5_markOf : MethodName := ⟨RX5, "markOf", "(III)C"⟩
abbrev cX5_isSound : ByteArray := prog_1_method_27_code
def yX5_isSound : MethodName := ⟨RX5, "isSound", "()Z"⟩
abbrev cX5_isGrade : ByteArray := prog_1_method_28_code
def yX5_isGrade : MethodName := ⟨RX5, "isGrade", "(I)Z"⟩
abbrev cX5_isRule : ByteArray := prog_1_method_29_code
def yX5_isRule : MethodName := ⟨RX5, "isRule", "(III)Z"⟩
abbrev cX5_isReader : ByteArray := prog_1_method_30_code
def yX5_isReader : MethodName := ⟨RX5, "isReader", "(I)Z"⟩
abbrev cX5_typedKey : ByteArray := prog_1_method_31_code
def yX5_typedKey : MethodName := ⟨RX5, "typedKey", "()I"⟩
abbrev cX5_textNumbered : ByteArray := prog_1_method_32_code
def yX5_textNumbered : MethodName := ⟨RX5, "textNumbered", "(I)LDotpress$Text;"⟩
abbrev cX5_textWithWord : ByteArray := prog_1_method_33_code
def yX5_textWithWord : MethodName := ⟨RX5, "textWithWord", "(II)LDotpress$Text;"⟩
abbrev cX5_translateTexts : ByteArray := prog_1_method_34_code
def yX5_translateTexts : MethodName := ⟨RX5, "translateTexts", "()I"⟩
abbrev cX5_planLine : ByteArray := prog_1_method_35_code
def yX5_planLine : MethodName := ⟨RX5, "planLine", "(LDotpress$Text;I)V"⟩
def RX6 : String := "DotpressModel"
def TX6 : u_T := fun k => match k with
  | _ => ("", "", "", false)
def tyX6 : Nat → FieldType := fun k => match k with
  | _ => .int
abbrev wsX60 : List Cond := u_ws RX6 TX6 0
theorem nmX6 : ∀ a, a < 0 → ∀ b, b < 0 → a ≠ b → (TX6 a).2.1 ≠ (TX6 b).2.1 := by decide +kernel
theorem tyX6_ok : ∀ k, k < 0 → parseFieldDescriptor (TX6 k).2.2.1 = some (tyX6 k) := by decide +kernel
def RJx145de : String := "java/io/Serializable"
def TJx145de : u_T := fun k => match k with
  | _ => ("", "", "", false)
def tyJx145de : Nat → FieldType := fun k => match k with
  | _ => .int
abbrev wsJx145de0 : List Cond := u_ws RJx145de TJx145de 0
theorem nmJx145de : ∀ a, a < 0 → ∀ b, b < 0 → a ≠ b → (TJx145de a).2.1 ≠ (TJx145de b).2.1 := by decide +kernel
theorem tyJx145de_ok : ∀ k, k < 0 → parseFieldDescriptor (TJx145de k).2.2.1 = some (tyJx145de k) := by decide +kernel
def RJ5 : String := "java/lang/AbstractStringBuilder"
def TJ5 : u_T := fun k => match k with
  | _ => ("", "", "", false)
def tyJ5 : Nat → FieldType := fun k => match k with
  | _ => .int
abbrev wsJ50 : List Cond := u_ws RJ5 TJ5 0
theorem nmJ5 : ∀ a, a < 0 → ∀ b, b < 0 → a ≠ b → (TJ5 a).2.1 ≠ (TJ5 b).2.1 := by decide +kernel
theorem tyJ5_ok : ∀ k, k < 0 → parseFieldDescriptor (TJ5 k).2.2.1 = some (tyJ5 k) := by decide +kernel
abbrev cJ5_init_d00df : ByteArray := prog_10_method_2_code
def yJ5_init_d00df : MethodName := ⟨RJ5, "<init>", "(I)V"⟩
abbrev cJ5_length_8abf5 : ByteArray := prog_10_method_6_code
def yJ5_length_8abf5 : MethodName := ⟨RJ5, "length", "()I"⟩
abbrev cJ5_ensureCapacityInternal_d00df : ByteArray := prog_10_method_9_code
def yJ5_ensureCapacityInternal_d00df : MethodName := ⟨RJ5, "ensureCapacityInternal", "(I)V"⟩
abbrev cJ5_newCapacity_0f7a4 : ByteArray := prog_10_method_10_code
def yJ5_newCapacity_0f7a4 : MethodName := ⟨RJ5, "newCapacity", "(I)I"⟩
abbrev cJ5_inflate_da8c8 : ByteArray := prog_10_method_11_code
def yJ5_inflate_da8c8 : MethodName := ⟨RJ5, "inflate", "()V"⟩
abbrev cJ5_append_cf1ce : ByteArray := prog_10_method_22_code
def yJ5_append_cf1ce : MethodName := ⟨RJ5, "append", "(Ljava/lang/String;)Ljava/lang/AbstractStringBuilder;"⟩
abbrev cJ5_appendNull_278bc : ByteArray := prog_10_method_26_code
def yJ5_appendNull_278bc : MethodName := ⟨RJ5, "appendNull", "()Ljava/lang/AbstractStringBuilder;"⟩
abbrev cJ5_append_3fe6f : ByteArray := prog_10_method_31_code
def yJ5_append_3fe6f : MethodName := ⟨RJ5, "append", "(C)Ljava/lang/AbstractStringBuilder;"⟩
abbrev cJ5_getValue_6d5f1 : ByteArray := prog_10_method_64_code
def yJ5_getValue_6d5f1 : MethodName := ⟨RJ5, "getValue", "()[B"⟩
abbrev cJ5_isLatin1_aae02 : ByteArray := prog_10_method_68_code
def yJ5_isLatin1_aae02 : MethodName := ⟨RJ5, "isLatin1", "()Z"⟩
abbrev cJ5_inflateIfNeededFor_a7421 : ByteArray := prog_10_method_71_code
def yJ5_inflateIfNeededFor_a7421 : MethodName := ⟨RJ5, "inflateIfNeededFor", "(Ljava/lang/String;)V"⟩
abbrev cJ5_putStringAt_47b60 : ByteArray := prog_10_method_73_code
def yJ5_putStringAt_47b60 : MethodName := ⟨RJ5, "putStringAt", "(ILjava/lang/String;)V"⟩
def RJx2cfe8 : String := "java/lang/Appendable"
def TJx2cfe8 : u_T := fun k => match k with
  | _ => ("", "", "", false)
def tyJx2cfe8 : Nat → FieldType := fun k => match k with
  | _ => .int
abbrev wsJx2cfe80 : List Cond := u_ws RJx2cfe8 TJx2cfe8 0
theorem nmJx2cfe8 : ∀ a, a < 0 → ∀ b, b < 0 → a ≠ b → (TJx2cfe8 a).2.1 ≠ (TJx2cfe8 b).2.1 := by decide +kernel
theorem tyJx2cfe8_ok : ∀ k, k < 0 → parseFieldDescriptor (TJx2cfe8 k).2.2.1 = some (tyJx2cfe8 k) := by decide +kernel
def RJx9f9b0 : String := "java/lang/CharSequence"
def TJx9f9b0 : u_T := fun k => match k with
  | _ => ("", "", "", false)
def tyJx9f9b0 : Nat → FieldType := fun k => match k with
  | _ => .int
abbrev wsJx9f9b00 : List Cond := u_ws RJx9f9b0 TJx9f9b0 0
theorem nmJx9f9b0 : ∀ a, a < 0 → ∀ b, b < 0 → a ≠ b → (TJx9f9b0 a).2.1 ≠ (TJx9f9b0 b).2.1 := by decide +kernel
theorem tyJx9f9b0_ok : ∀ k, k < 0 → parseFieldDescriptor (TJx9f9b0 k).2.2.1 = some (tyJx9f9b0 k) := by decide +kernel
def RJx8e188 : String := "java/lang/Cloneable"
def TJx8e188 : u_T := fun k => match k with
  | _ => ("", "", "", false)
def tyJx8e188 : Nat → FieldType := fun k => match k with
  | _ => .int
abbrev wsJx8e1880 : List Cond := u_ws RJx8e188 TJx8e188 0
theorem nmJx8e188 : ∀ a, a < 0 → ∀ b, b < 0 → a ≠ b → (TJx8e188 a).2.1 ≠ (TJx8e188 b).2.1 := by decide +kernel
theorem tyJx8e188_ok : ∀ k, k < 0 → parseFieldDescriptor (TJx8e188 k).2.2.1 = some (tyJx8e188 k) := by decide +kernel
def RJxb160c : String := "java/lang/Comparable"
def TJxb160c : u_T := fun k => match k with
  | _ => ("", "", "", false)
def tyJxb160c : Nat → FieldType := fun k => match k with
  | _ => .int
abbrev wsJxb160c0 : List Cond := u_ws RJxb160c TJxb160c 0
theorem nmJxb160c : ∀ a, a < 0 → ∀ b, b < 0 → a ≠ b → (TJxb160c a).2.1 ≠ (TJxb160c b).2.1 := by decide +kernel
theorem tyJxb160c_ok : ∀ k, k < 0 → parseFieldDescriptor (TJxb160c k).2.2.1 = some (tyJxb160c k) := by decide +kernel
def RJ9 : String := "java/lang/Math"
def TJ9 : u_T := fun k => match k with
  | _ => ("", "", "", false)
def tyJ9 : Nat → FieldType := fun k => match k with
  | _ => .int
abbrev wsJ90 : List Cond := u_ws RJ9 TJ9 0
theorem nmJ9 : ∀ a, a < 0 → ∀ b, b < 0 → a ≠ b → (TJ9 a).2.1 ≠ (TJ9 b).2.1 := by decide +kernel
theorem tyJ9_ok : ∀ k, k < 0 → parseFieldDescriptor (TJ9 k).2.2.1 = some (tyJ9 k) := by decide +kernel
abbrev cJ9_max_7cf53 : ByteArray := prog_19_method_65_code
def yJ9_max_7cf53 : MethodName := ⟨RJ9, "max", "(II)I"⟩
abbrev cJ9_min_7cf53 : ByteArray := prog_19_method_69_code
def yJ9_min_7cf53 : MethodName := ⟨RJ9, "min", "(II)I"⟩
def RJ0 : String := "java/lang/String"
def TJ0 : u_T := fun k => match k with
  | 0 => ("java/lang/String", "value", "[B", true)
  | 1 => ("java/lang/String", "coder", "B", true)
  | 2 => ("java/lang/String", "hash", "I", false)
  | _ => ("java/lang/String", "hashIsZero", "Z", false)
def tyJ0 : Nat → FieldType := fun k => match k with
  | 0 => .array .byte
  | 1 => .byte
  | 2 => .int
  | _ => .boolean
abbrev wsJ00 : List Cond := u_ws RJ0 TJ0 4
theorem nmJ0 : ∀ a, a < 4 → ∀ b, b < 4 → a ≠ b → (TJ0 a).2.1 ≠ (TJ0 b).2.1 := by decide +kernel
theorem tyJ0_ok : ∀ k, k < 4 → parseFieldDescriptor (TJ0 k).2.2.1 = some (tyJ0 k) := by decide +kernel
abbrev cJ0_init_81219 : ByteArray := prog_21_method_53_code
def yJ0_init_81219 : MethodName := ⟨RJ0, "<init>", "(Ljava/lang/StringBuilder;)V"⟩
abbrev cJ0_length_8abf5 : ByteArray := prog_21_method_54_code
def yJ0_length_8abf5 : MethodName := ⟨RJ0, "length", "()I"⟩
abbrev cJ0_charAt_5068e : ByteArray := prog_21_method_56_code
def yJ0_charAt_5068e : MethodName := ⟨RJ0, "charAt", "(I)C"⟩
abbrev cJ0_getBytes_840e7 : ByteArray := prog_21_method_147_code
def yJ0_getBytes_840e7 : MethodName := ⟨RJ0, "getBytes", "([BIB)V"⟩
abbrev cJ0_init_db425 : ByteArray := prog_21_method_150_code
def yJ0_init_db425 : MethodName := ⟨RJ0, "<init>", "(Ljava/lang/AbstractStringBuilder;Ljava/lang/Void;)V"⟩
abbrev cJ0_coder_7d493 : ByteArray := prog_21_method_152_code
def yJ0_coder_7d493 : MethodName := ⟨RJ0, "coder", "()B"⟩
abbrev cJ0_isLatin1_aae02 : ByteArray := prog_21_method_154_code
def yJ0_isLatin1_aae02 : MethodName := ⟨RJ0, "isLatin1", "()Z"⟩
abbrev cJ0_checkIndex_df160 : ByteArray := prog_21_method_155_code
def yJ0_checkIndex_df160 : MethodName := ⟨RJ0, "checkIndex", "(II)V"⟩
abbrev cJ0_checkBoundsOffCount_cabcc : ByteArray := prog_21_method_157_code
def yJ0_checkBoundsOffCount_cabcc : MethodName := ⟨RJ0, "checkBoundsOffCount", "(III)I"⟩
abbrev cJ0_checkBoundsBeginEnd_23922 : ByteArray := prog_21_method_158_code
def yJ0_checkBoundsBeginEnd_23922 : MethodName := ⟨RJ0, "checkBoundsBeginEnd", "(III)V"⟩
def RJ4 : String := "java/lang/StringBuilder"
def TJ4 : u_T := fun k => match k with
  | 0 => ("java/lang/AbstractStringBuilder", "value", "[B", false)
  | 1 => ("java/lang/AbstractStringBuilder", "coder", "B", false)
  | 2 => ("java/lang/AbstractStringBuilder", "maybeLatin1", "Z", false)
  | _ => ("java/lang/AbstractStringBuilder", "count", "I", false)
def tyJ4 : Nat → FieldType := fun k => match k with
  | 0 => .array .byte
  | 1 => .byte
  | 2 => .boolean
  | _ => .int
abbrev wsJ40 : List Cond := u_ws RJ4 TJ4 4
theorem nmJ4 : ∀ a, a < 4 → ∀ b, b < 4 → a ≠ b → (TJ4 a).2.1 ≠ (TJ4 b).2.1 := by decide +kernel
theorem tyJ4_ok : ∀ k, k < 4 → parseFieldDescriptor (TJ4 k).2.2.1 = some (tyJ4 k) := by decide +kernel
abbrev cJ4_init_da8c8 : ByteArray := prog_22_method_1_code
def yJ4_init_da8c8 : MethodName := ⟨RJ4, "<init>", "()V"⟩
abbrev cJ4_append_15ec4 : ByteArray := prog_22_method_7_code
def yJ4_append_15ec4 : MethodName := ⟨RJ4, "append", "(Ljava/lang/String;)Ljava/lang/StringBuilder;"⟩
abbrev cJ4_append_cf468 : ByteArray := prog_22_method_14_code
def yJ4_append_cf468 : MethodName := ⟨RJ4, "append", "(C)Ljava/lang/StringBuilder;"⟩
abbrev cJ4_toString_0e30d : ByteArray := prog_22_method_42_code
def yJ4_toString_0e30d : MethodName := ⟨RJ4, "toString", "()Ljava/lang/String;"⟩
abbrev cJ4_length_8abf5 : ByteArray := prog_22_method_93_code
def yJ4_length_8abf5 : MethodName := ⟨RJ4, "length", "()I"⟩
def RJ1 : String := "java/lang/StringLatin1"
def TJ1 : u_T := fun k => match k with
  | _ => ("", "", "", false)
def tyJ1 : Nat → FieldType := fun k => match k with
  | _ => .int
abbrev wsJ10 : List Cond := u_ws RJ1 TJ1 0
theorem nmJ1 : ∀ a, a < 0 → ∀ b, b < 0 → a ≠ b → (TJ1 a).2.1 ≠ (TJ1 b).2.1 := by decide +kernel
theorem tyJ1_ok : ∀ k, k < 0 → parseFieldDescriptor (TJ1 k).2.2.1 = some (tyJ1 k) := by decide +kernel
abbrev cJ1_charAt_3b067 : ByteArray := prog_23_method_2_code
def yJ1_charAt_3b067 : MethodName := ⟨RJ1, "charAt", "([BI)C"⟩
abbrev cJ1_canEncode_fc78d : ByteArray := prog_23_method_3_code
def yJ1_canEncode_fc78d : MethodName := ⟨RJ1, "canEncode", "(C)Z"⟩
abbrev cJ1_inflate_0e8fd : ByteArray := prog_23_method_50_code
def yJ1_inflate_0e8fd : MethodName := ⟨RJ1, "inflate", "([BI[BII)V"⟩
def RJ2 : String := "java/lang/StringUTF16"
def TJ2 : u_T := fun k => match k with
  | _ => ("", "", "", false)
def tyJ2 : Nat → FieldType := fun k => match k with
  | _ => .int
abbrev wsJ20 : List Cond := u_ws RJ2 TJ2 0
theorem nmJ2 : ∀ a, a < 0 → ∀ b, b < 0 → a ≠ b → (TJ2 a).2.1 ≠ (TJ2 b).2.1 := by decide +kernel
theorem tyJ2_ok : ∀ k, k < 0 → parseFieldDescriptor (TJ2 k).2.2.1 = some (tyJ2 k) := by decide +kernel
abbrev cJ2_newBytesFor_77867 : ByteArray := prog_24_method_2_code
def yJ2_newBytesFor_77867 : MethodName := ⟨RJ2, "newBytesFor", "(I)[B"⟩
abbrev cJ2_newBytesLength_0f7a4 : ByteArray := prog_24_method_3_code
def yJ2_newBytesLength_0f7a4 : MethodName := ⟨RJ2, "newBytesLength", "(I)I"⟩
abbrev cJ2_putChar_b72d1 : ByteArray := prog_24_method_4_code
def yJ2_putChar_b72d1 : MethodName := ⟨RJ2, "putChar", "([BII)V"⟩
abbrev cJ2_getChar_3b067 : ByteArray := prog_24_method_5_code
def yJ2_getChar_3b067 : MethodName := ⟨RJ2, "getChar", "([BI)C"⟩
abbrev cJ2_length_9d52b : ByteArray := prog_24_method_6_code
def yJ2_length_9d52b : MethodName := ⟨RJ2, "length", "([B)I"⟩
abbrev cJ2_coderFromArrayLen_85cad : ByteArray := prog_24_method_15_code
def yJ2_coderFromArrayLen_85cad : MethodName := ⟨RJ2, "coderFromArrayLen", "([BI)B"⟩
abbrev cJ2_compress_39247 : ByteArray := prog_24_method_17_code
def yJ2_compress_39247 : MethodName := ⟨RJ2, "compress", "([BII)[B"⟩
abbrev cJ2_compress_5af95 : ByteArray := prog_24_method_22_code
def yJ2_compress_5af95 : MethodName := ⟨RJ2, "compress", "([BI[BII)I"⟩
abbrev cJ2_putCharSB_b72d1 : ByteArray := prog_24_method_71_code
def yJ2_putCharSB_b72d1 : MethodName := ⟨RJ2, "putCharSB", "([BII)V"⟩
abbrev cJ2_putCharsAt_cd4e5 : ByteArray := prog_24_method_81_code
def yJ2_putCharsAt_cd4e5 : MethodName := ⟨RJ2, "putCharsAt", "([BICCCC)I"⟩
abbrev cJ2_charAt_3b067 : ByteArray := prog_24_method_83_code
def yJ2_charAt_3b067 : MethodName := ⟨RJ2, "charAt", "([BI)C"⟩
abbrev cJ2_inflate_0e8fd : ByteArray := prog_24_method_86_code
def yJ2_inflate_0e8fd : MethodName := ⟨RJ2, "inflate", "([BI[BII)V"⟩
abbrev cJ2_checkIndex_2214a : ByteArray := prog_24_method_91_code
def yJ2_checkIndex_2214a : MethodName := ⟨RJ2, "checkIndex", "(I[B)V"⟩
abbrev cJ2_checkBoundsBeginEnd_d044e : ByteArray := prog_24_method_93_code
def yJ2_checkBoundsBeginEnd_d044e : MethodName := ⟨RJ2, "checkBoundsBeginEnd", "(II[B)V"⟩
abbrev cJ2_checkBoundsOffCount_d044e : ByteArray := prog_24_method_94_code
def yJ2_checkBoundsOffCount_d044e : MethodName := ⟨RJ2, "checkBoundsOffCount", "(II[B)V"⟩
def RJ10 : String := "java/lang/System"
def TJ10 : u_T := fun k => match k with
  | _ => ("", "", "", false)
def tyJ10 : Nat → FieldType := fun k => match k with
  | _ => .int
abbrev wsJ100 : List Cond := u_ws RJ10 TJ10 0
theorem nmJ10 : ∀ a, a < 0 → ∀ b, b < 0 → a ≠ b → (TJ10 a).2.1 ≠ (TJ10 b).2.1 := by decide +kernel
theorem tyJ10_ok : ∀ k, k < 0 → parseFieldDescriptor (TJ10 k).2.2.1 = some (tyJ10 k) := by decide +kernel
def RJxfd54e : String := "java/lang/constant/Constable"
def TJxfd54e : u_T := fun k => match k with
  | _ => ("", "", "", false)
def tyJxfd54e : Nat → FieldType := fun k => match k with
  | _ => .int
abbrev wsJxfd54e0 : List Cond := u_ws RJxfd54e TJxfd54e 0
theorem nmJxfd54e : ∀ a, a < 0 → ∀ b, b < 0 → a ≠ b → (TJxfd54e a).2.1 ≠ (TJxfd54e b).2.1 := by decide +kernel
theorem tyJxfd54e_ok : ∀ k, k < 0 → parseFieldDescriptor (TJxfd54e k).2.2.1 = some (tyJxfd54e k) := by decide +kernel
def RJx3cf43 : String := "java/lang/constant/ConstantDesc"
def TJx3cf43 : u_T := fun k => match k with
  | _ => ("", "", "", false)
def tyJx3cf43 : Nat → FieldType := fun k => match k with
  | _ => .int
abbrev wsJx3cf430 : List Cond := u_ws RJx3cf43 TJx3cf43 0
theorem nmJx3cf43 : ∀ a, a < 0 → ∀ b, b < 0 → a ≠ b → (TJx3cf43 a).2.1 ≠ (TJx3cf43 b).2.1 := by decide +kernel
theorem tyJx3cf43_ok : ∀ k, k < 0 → parseFieldDescriptor (TJx3cf43 k).2.2.1 = some (tyJx3cf43 k) := by decide +kernel
def RJ7 : String := "java/util/Arrays"
def TJ7 : u_T := fun k => match k with
  | _ => ("", "", "", false)
def tyJ7 : Nat → FieldType := fun k => match k with
  | _ => .int
abbrev wsJ70 : List Cond := u_ws RJ7 TJ7 0
theorem nmJ7 : ∀ a, a < 0 → ∀ b, b < 0 → a ≠ b → (TJ7 a).2.1 ≠ (TJ7 b).2.1 := by decide +kernel
theorem tyJ7_ok : ∀ k, k < 0 → parseFieldDescriptor (TJ7 k).2.2.1 = some (tyJ7 k) := by decide +kernel
abbrev cJ7_copyOf_9075b : ByteArray := prog_30_method_121_code
def yJ7_copyOf_9075b : MethodName := ⟨RJ7, "copyOf", "([BI)[B"⟩
abbrev cJ7_checkLength_df160 : ByteArray := prog_30_method_131_code
def yJ7_checkLength_df160 : MethodName := ⟨RJ7, "checkLength", "(II)V"⟩
abbrev cJ7_copyOfRange_39247 : ByteArray := prog_30_method_132_code
def yJ7_copyOfRange_39247 : MethodName := ⟨RJ7, "copyOfRange", "([BII)[B"⟩
abbrev cJ7_copyOfRangeByte_39247 : ByteArray := prog_30_method_133_code
def yJ7_copyOfRangeByte_39247 : MethodName := ⟨RJ7, "copyOfRangeByte", "([BII)[B"⟩
def RJ8 : String := "jdk/internal/util/ArraysSupport"
def TJ8 : u_T := fun k => match k with
  | _ => ("", "", "", false)
def tyJ8 : Nat → FieldType := fun k => match k with
  | _ => .int
abbrev wsJ80 : List Cond := u_ws RJ8 TJ8 0
theorem nmJ8 : ∀ a, a < 0 → ∀ b, b < 0 → a ≠ b → (TJ8 a).2.1 ≠ (TJ8 b).2.1 := by decide +kernel
theorem tyJ8_ok : ∀ k, k < 0 → parseFieldDescriptor (TJ8 k).2.2.1 = some (tyJ8 k) := by decide +kernel
abbrev cJ8_newLength_cabcc : ByteArray := prog_32_method_27_code
def yJ8_newLength_cabcc : MethodName := ⟨RJ8, "newLength", "(III)I"⟩
abbrev cJ8_hugeLength_7cf53 : ByteArray := prog_32_method_28_code
def yJ8_hugeLength_7cf53 : MethodName := ⟨RJ8, "hugeLength", "(II)I"⟩
def RJ3 : String := "jdk/internal/util/Preconditions"
def TJ3 : u_T := fun k => match k with
  | _ => ("", "", "", false)
def tyJ3 : Nat → FieldType := fun k => match k with
  | _ => .int
abbrev wsJ30 : List Cond := u_ws RJ3 TJ3 0
theorem nmJ3 : ∀ a, a < 0 → ∀ b, b < 0 → a ≠ b → (TJ3 a).2.1 ≠ (TJ3 b).2.1 := by decide +kernel
theorem tyJ3_ok : ∀ k, k < 0 → parseFieldDescriptor (TJ3 k).2.2.1 = some (tyJ3 k) := by decide +kernel
abbrev cJ3_checkIndex_8e157 : ByteArray := prog_33_method_11_code
def yJ3_checkIndex_8e157 : MethodName := ⟨RJ3, "checkIndex", "(IILjava/util/function/BiFunction;)I"⟩
abbrev cJ3_checkFromToIndex_8c36e : ByteArray := prog_33_method_12_code
def yJ3_checkFromToIndex_8c36e : MethodName := ⟨RJ3, "checkFromToIndex", "(IIILjava/util/function/BiFunction;)I"⟩
abbrev cJ3_checkFromIndexSize_8c36e : ByteArray := prog_33_method_13_code
def yJ3_checkFromIndexSize_8c36e : MethodName := ⟨RJ3, "checkFromIndexSize", "(IIILjava/util/function/BiFunction;)I"⟩
def RL : String := "DotpressLaw"
abbrev cL_cell : ByteArray := method_2_code
def yL_cell : MethodName := ⟨RL, "cell", "([II)I"⟩
abbrev cL_low : ByteArray := method_3_code
def yL_low : MethodName := ⟨RL, "low", "(II)I"⟩
abbrev cL_types : ByteArray := method_4_code
def yL_types : MethodName := ⟨RL, "types", "(LDotpress;IIZ)V"⟩
abbrev cL_rule : ByteArray := method_5_code
def yL_rule : MethodName := ⟨RL, "rule", "(LDotpress;III)I"⟩
abbrev cL_mend : ByteArray := method_6_code
def yL_mend : MethodName := ⟨RL, "mend", "(LDotpress;III)I"⟩
abbrev cL_turns : ByteArray := method_7_code
def yL_turns : MethodName := ⟨RL, "turns", "(LDotpress;)Z"⟩
abbrev cL_emboss : ByteArray := method_8_code
def yL_emboss : MethodName := ⟨RL, "emboss", "(LDotpress;I)I"⟩
abbrev cL_line : ByteArray := method_9_code
def yL_line : MethodName := ⟨RL, "line", "(LDotpress;II)Ljava/lang/String;"⟩
abbrev cL_word : ByteArray := method_10_code
def yL_word : MethodName := ⟨RL, "word", "(LDotpress;II)Ljava/lang/String;"⟩
abbrev cL_areAlike : ByteArray := method_11_code
def yL_areAlike : MethodName := ⟨RL, "areAlike", "(Ljava/lang/String;Ljava/lang/String;)Z"⟩
abbrev cL_isSet : ByteArray := method_12_code
def yL_isSet : MethodName := ⟨RL, "isSet", "(LDotpress;II)Z"⟩
abbrev cL_isEmbossed : ByteArray := method_13_code
def yL_isEmbossed : MethodName := ⟨RL, "isEmbossed", "(LDotpress;I[Ljava/lang/String;)Z"⟩
abbrev cL_acts : ByteArray := method_14_code
def yL_acts : MethodName := ⟨RL, "acts", "(LDotpress;II[[Ljava/lang/String;)Z"⟩
abbrev cL_law : ByteArray := code
def yL_law : MethodName := ⟨RL, "law", "([I)Z"⟩
abbrev jCl : List vw_C := [(RX0, TX0, 3), (RX1, TX1, 2), (RX2, TX2, 2), (RX3, TX3, 5), (RX4, TX4, 7), (RX5, TX5, 7), (RJ4, TJ4, 4), (RJ0, TJ0, 4)]
end
section
/-! the words of the tables by their places (program: wip/gen/words.py) -/
/-- the private methods of AbstractStringBuilder, as a StringBuilder calls them -/
def jPr : List MethodName := [yJ5_ensureCapacityInternal_d00df, yJ5_newCapacity_0f7a4, yJ5_putStringAt_47b60, yJ5_inflateIfNeededFor_a7421]
def jTbl : List Cond := (jPr.map fun y => Cond.selects RJ4 y y) ++ lw_tbl
def gT : List Cond := jTbl.filter goodWord
theorem gT_mem {i : Nat} {w : Cond} (h : jTbl[i]? = some w) (hg : goodWord w = true) : w ∈ gT := List.mem_filter.mpr ⟨List.mem_of_getElem? h, hg⟩
theorem gT_sub : ∀ w ∈ gT, w ∈ jTbl := fun _ h => (List.mem_filter.mp h).1
theorem gT_good : ∀ w ∈ gT, goodWord w = true := fun _ h => (List.mem_filter.mp h).2
theorem ini_L : Cond.initialized RL ∈ gT := gT_mem (i := 13) (by decide +kernel) (by decide +kernel)
theorem ini_X5 : Cond.initialized RX5 ∈ gT := gT_mem (i := 14) (by decide +kernel) (by decide +kernel)
theorem ini_X2 : Cond.initialized RX2 ∈ gT := gT_mem (i := 15) (by decide +kernel) (by decide +kernel)
theorem ini_X3 : Cond.initialized RX3 ∈ gT := gT_mem (i := 16) (by decide +kernel) (by decide +kernel)
theorem ini_X1 : Cond.initialized RX1 ∈ gT := gT_mem (i := 17) (by decide +kernel) (by decide +kernel)
theorem ini_X0 : Cond.initialized RX0 ∈ gT := gT_mem (i := 18) (by decide +kernel) (by decide +kernel)
theorem ini_Throwable : Cond.initialized "java/lang/Throwable" ∈ gT := gT_mem (i := 19) (by decide +kernel) (by decide +kernel)
theorem ini_Exception : Cond.initialized "java/lang/Exception" ∈ gT := gT_mem (i := 20) (by decide +kernel) (by decide +kernel)
theorem ini_RuntimeException : Cond.initialized "java/lang/RuntimeException" ∈ gT := gT_mem (i := 21) (by decide +kernel) (by decide +kernel)
theorem ini_IllegalArgumentException : Cond.initialized "java/lang/IllegalArgumentException" ∈ gT := gT_mem (i := 22) (by decide +kernel) (by decide +kernel)
theorem ini_J0 : Cond.initialized RJ0 ∈ gT := gT_mem (i := 23) (by decide +kernel) (by decide +kernel)
theorem ini_J1 : Cond.initialized RJ1 ∈ gT := gT_mem (i := 24) (by decide +kernel) (by decide +kernel)
theorem ini_J3 : Cond.initialized RJ3 ∈ gT := gT_mem (i := 25) (by decide +kernel) (by decide +kernel)
theorem ini_J2 : Cond.initialized RJ2 ∈ gT := gT_mem (i := 26) (by decide +kernel) (by decide +kernel)
theorem ini_IllegalStateException : Cond.initialized "java/lang/IllegalStateException" ∈ gT := gT_mem (i := 27) (by decide +kernel) (by decide +kernel)
theorem ini_IndexOutOfBoundsException : Cond.initialized "java/lang/IndexOutOfBoundsException" ∈ gT := gT_mem (i := 28) (by decide +kernel) (by decide +kernel)
theorem ini_X4 : Cond.initialized RX4 ∈ gT := gT_mem (i := 29) (by decide +kernel) (by decide +kernel)
theorem ini_J9 : Cond.initialized RJ9 ∈ gT := gT_mem (i := 30) (by decide +kernel) (by decide +kernel)
theorem ini_J5 : Cond.initialized RJ5 ∈ gT := gT_mem (i := 31) (by decide +kernel) (by decide +kernel)
theorem ini_J4 : Cond.initialized RJ4 ∈ gT := gT_mem (i := 32) (by decide +kernel) (by decide +kernel)
theorem ini_J8 : Cond.initialized RJ8 ∈ gT := gT_mem (i := 33) (by decide +kernel) (by decide +kernel)
theorem ini_J7 : Cond.initialized RJ7 ∈ gT := gT_mem (i := 34) (by decide +kernel) (by decide +kernel)
theorem ini_J10 : Cond.initialized RJ10 ∈ gT := gT_mem (i := 35) (by decide +kernel) (by decide +kernel)
theorem ini_NoSuchElementException : Cond.initialized "java/util/NoSuchElementException" ∈ gT := gT_mem (i := 36) (by decide +kernel) (by decide +kernel)
theorem ini_UnsupportedOperationException : Cond.initialized "java/lang/UnsupportedOperationException" ∈ gT := gT_mem (i := 37) (by decide +kernel) (by decide +kernel)
theorem cl_L_10 : Cond.classLink RL 10 RX5 ∈ gT := gT_mem (i := 38) (by decide +kernel) (by decide +kernel)
theorem ins_X5 : Cond.instantiable RX5 7 ∈ gT := gT_mem (i := 39) (by decide +kernel) (by decide +kernel)
theorem ml_L_150 : Cond.methodLink RL 150 yX5_init ∈ gT := gT_mem (i := 40) (by decide +kernel) (by decide +kernel)
theorem im_yX5_init : Cond.instanceMethod yX5_init ∈ gT := gT_mem (i := 41) (by decide +kernel) (by decide +kernel)
theorem cd_yX5_init : Cond.code yX5_init cX5_init 1 none ∈ gT := gT_mem (i := 42) (by decide +kernel) (by decide +kernel)
theorem ml_X5_3 : Cond.methodLink RX5 3 ⟨"java/lang/Object", "<init>", "()V"⟩ ∈ gT := gT_mem (i := 43) (by decide +kernel) (by decide +kernel)
theorem cl_X5_9 : Cond.classLink RX5 9 RX2 ∈ gT := gT_mem (i := 46) (by decide +kernel) (by decide +kernel)
theorem ins_X2 : Cond.instantiable RX2 2 ∈ gT := gT_mem (i := 47) (by decide +kernel) (by decide +kernel)
theorem ml_X5_11 : Cond.methodLink RX5 11 yX2_init ∈ gT := gT_mem (i := 48) (by decide +kernel) (by decide +kernel)
theorem im_yX2_init : Cond.instanceMethod yX2_init ∈ gT := gT_mem (i := 49) (by decide +kernel) (by decide +kernel)
theorem cd_yX2_init : Cond.code yX2_init cX2_init 2 none ∈ gT := gT_mem (i := 50) (by decide +kernel) (by decide +kernel)
theorem ml_X2_3 : Cond.methodLink RX2 3 ⟨"java/lang/Object", "<init>", "()V"⟩ ∈ gT := gT_mem (i := 51) (by decide +kernel) (by decide +kernel)
theorem fl_X2_15 : Cond.fieldLink RX2 15 "Dotpress$Row" "numbers" "[I" ∈ gT := gT_mem (i := 52) (by decide +kernel) (by decide +kernel)
theorem fl_X2_9 : Cond.fieldLink RX2 9 "Dotpress$Row" "count" "I" ∈ gT := gT_mem (i := 53) (by decide +kernel) (by decide +kernel)
theorem su_X2 : Cond.superclass RX2 "java/lang/Object" ∈ gT := gT_mem (i := 58) (by decide +kernel) (by decide +kernel)
theorem ac_int : Cond.arrayClass .int ∈ gT := gT_mem (i := 59) (by decide +kernel) (by decide +kernel)
theorem cl_X5_18 : Cond.classLink RX5 18 RX3 ∈ gT := gT_mem (i := 60) (by decide +kernel) (by decide +kernel)
theorem ins_X3 : Cond.instantiable RX3 5 ∈ gT := gT_mem (i := 61) (by decide +kernel) (by decide +kernel)
theorem mn_X5_20 : Cond.methodLinkNest RX5 20 yX3_init RX5 ∈ jTbl := List.mem_of_getElem? (i := 62) (by decide +kernel)
theorem im_yX3_init : Cond.instanceMethod yX3_init ∈ gT := gT_mem (i := 63) (by decide +kernel) (by decide +kernel)
theorem cd_yX3_init : Cond.code yX3_init cX3_init 1 none ∈ gT := gT_mem (i := 64) (by decide +kernel) (by decide +kernel)
theorem ml_X3_5 : Cond.methodLink RX3 5 ⟨"java/lang/Object", "<init>", "()V"⟩ ∈ gT := gT_mem (i := 65) (by decide +kernel) (by decide +kernel)
theorem cl_X3_11 : Cond.classLink RX3 11 RX2 ∈ gT := gT_mem (i := 66) (by decide +kernel) (by decide +kernel)
theorem ml_X3_13 : Cond.methodLink RX3 13 yX2_init ∈ gT := gT_mem (i := 67) (by decide +kernel) (by decide +kernel)
theorem cl_X3_29 : Cond.classLink RX3 29 RX1 ∈ gT := gT_mem (i := 68) (by decide +kernel) (by decide +kernel)
theorem ins_X1 : Cond.instantiable RX1 2 ∈ gT := gT_mem (i := 69) (by decide +kernel) (by decide +kernel)
theorem ml_X3_31 : Cond.methodLink RX3 31 yX1_init ∈ gT := gT_mem (i := 70) (by decide +kernel) (by decide +kernel)
theorem im_yX1_init : Cond.instanceMethod yX1_init ∈ gT := gT_mem (i := 71) (by decide +kernel) (by decide +kernel)
theorem cd_yX1_init : Cond.code yX1_init cX1_init 3 none ∈ gT := gT_mem (i := 72) (by decide +kernel) (by decide +kernel)
theorem ml_X1_1 : Cond.methodLink RX1 1 ⟨"java/lang/Object", "<init>", "()V"⟩ ∈ gT := gT_mem (i := 73) (by decide +kernel) (by decide +kernel)
theorem cl_X1_7 : Cond.classLink RX1 7 RX2 ∈ gT := gT_mem (i := 74) (by decide +kernel) (by decide +kernel)
theorem ml_X1_9 : Cond.methodLink RX1 9 yX2_init ∈ gT := gT_mem (i := 75) (by decide +kernel) (by decide +kernel)
theorem fl_X1_12 : Cond.fieldLink RX1 12 "Dotpress$Pieces" "numbers" "LDotpress$Row;" ∈ gT := gT_mem (i := 76) (by decide +kernel) (by decide +kernel)
theorem fl_X1_18 : Cond.fieldLink RX1 18 "Dotpress$Pieces" "ends" "LDotpress$Row;" ∈ gT := gT_mem (i := 77) (by decide +kernel) (by decide +kernel)
theorem su_X1 : Cond.superclass RX1 "java/lang/Object" ∈ gT := gT_mem (i := 82) (by decide +kernel) (by decide +kernel)
theorem fl_X3_16 : Cond.fieldLink RX3 16 "Dotpress$RuleBook" "keys" "LDotpress$Row;" ∈ gT := gT_mem (i := 83) (by decide +kernel) (by decide +kernel)
theorem fl_X3_20 : Cond.fieldLink RX3 20 "Dotpress$RuleBook" "grades" "LDotpress$Row;" ∈ gT := gT_mem (i := 84) (by decide +kernel) (by decide +kernel)
theorem fl_X3_23 : Cond.fieldLink RX3 23 "Dotpress$RuleBook" "firsts" "LDotpress$Row;" ∈ gT := gT_mem (i := 85) (by decide +kernel) (by decide +kernel)
theorem fl_X3_26 : Cond.fieldLink RX3 26 "Dotpress$RuleBook" "seconds" "LDotpress$Row;" ∈ gT := gT_mem (i := 86) (by decide +kernel) (by decide +kernel)
theorem fl_X3_34 : Cond.fieldLink RX3 34 "Dotpress$RuleBook" "exceptions" "LDotpress$Pieces;" ∈ gT := gT_mem (i := 87) (by decide +kernel) (by decide +kernel)
theorem su_X3 : Cond.superclass RX3 "java/lang/Object" ∈ gT := gT_mem (i := 98) (by decide +kernel) (by decide +kernel)
theorem cl_X5_25 : Cond.classLink RX5 25 RX0 ∈ gT := gT_mem (i := 99) (by decide +kernel) (by decide +kernel)
theorem ins_X0 : Cond.instantiable RX0 3 ∈ gT := gT_mem (i := 100) (by decide +kernel) (by decide +kernel)
theorem ml_X5_27 : Cond.methodLink RX5 27 yX0_init ∈ gT := gT_mem (i := 101) (by decide +kernel) (by decide +kernel)
theorem im_yX0_init : Cond.instanceMethod yX0_init ∈ gT := gT_mem (i := 102) (by decide +kernel) (by decide +kernel)
theorem cd_yX0_init : Cond.code yX0_init cX0_init 2 none ∈ gT := gT_mem (i := 103) (by decide +kernel) (by decide +kernel)
theorem ml_X0_3 : Cond.methodLink RX0 3 ⟨"java/lang/Object", "<init>", "()V"⟩ ∈ gT := gT_mem (i := 104) (by decide +kernel) (by decide +kernel)
theorem cl_X0_9 : Cond.classLink RX0 9 RX2 ∈ gT := gT_mem (i := 105) (by decide +kernel) (by decide +kernel)
theorem ml_X0_11 : Cond.methodLink RX0 11 yX2_init ∈ gT := gT_mem (i := 106) (by decide +kernel) (by decide +kernel)
theorem ml_X0_27 : Cond.methodLink RX0 27 yX2_add ∈ gT := gT_mem (i := 107) (by decide +kernel) (by decide +kernel)
theorem im_yX2_add : Cond.instanceMethod yX2_add ∈ gT := gT_mem (i := 108) (by decide +kernel) (by decide +kernel)
theorem se_yX2_add : Cond.selects RX2 yX2_add yX2_add ∈ gT := gT_mem (i := 109) (by decide +kernel) (by decide +kernel)
theorem cd_yX2_add : Cond.code yX2_add cX2_add 2 none ∈ gT := gT_mem (i := 110) (by decide +kernel) (by decide +kernel)
theorem fl_X0_14 : Cond.fieldLink RX0 14 "Dotpress$Embosser" "wear" "LDotpress$Row;" ∈ gT := gT_mem (i := 111) (by decide +kernel) (by decide +kernel)
theorem fl_X0_20 : Cond.fieldLink RX0 20 "Dotpress$Embosser" "plan" "LDotpress$Row;" ∈ gT := gT_mem (i := 112) (by decide +kernel) (by decide +kernel)
theorem fl_X0_23 : Cond.fieldLink RX0 23 "Dotpress$Embosser" "bearing" "I" ∈ gT := gT_mem (i := 113) (by decide +kernel) (by decide +kernel)
theorem su_X0 : Cond.superclass RX0 "java/lang/Object" ∈ gT := gT_mem (i := 120) (by decide +kernel) (by decide +kernel)
theorem cl_X5_32 : Cond.classLink RX5 32 RX4 ∈ gT := gT_mem (i := 121) (by decide +kernel) (by decide +kernel)
theorem ao_Text : Cond.arrayOver (.object RX4) ∈ jTbl := List.mem_of_getElem? (i := 122) (by decide +kernel)
theorem cl_X5_38 : Cond.classLink RX5 38 RX1 ∈ gT := gT_mem (i := 123) (by decide +kernel) (by decide +kernel)
theorem ml_X5_40 : Cond.methodLink RX5 40 yX1_init ∈ gT := gT_mem (i := 124) (by decide +kernel) (by decide +kernel)
theorem fl_X5_14 : Cond.fieldLink RX5 14 "Dotpress" "buffer" "LDotpress$Row;" ∈ gT := gT_mem (i := 125) (by decide +kernel) (by decide +kernel)
theorem fl_X5_21 : Cond.fieldLink RX5 21 "Dotpress" "rules" "LDotpress$RuleBook;" ∈ gT := gT_mem (i := 126) (by decide +kernel) (by decide +kernel)
theorem fl_X5_28 : Cond.fieldLink RX5 28 "Dotpress" "embosser" "LDotpress$Embosser;" ∈ gT := gT_mem (i := 127) (by decide +kernel) (by decide +kernel)
theorem fl_X5_34 : Cond.fieldLink RX5 34 "Dotpress" "texts" "[LDotpress$Text;" ∈ gT := gT_mem (i := 128) (by decide +kernel) (by decide +kernel)
theorem fl_X5_43 : Cond.fieldLink RX5 43 "Dotpress" "freshCells" "LDotpress$Pieces;" ∈ gT := gT_mem (i := 129) (by decide +kernel) (by decide +kernel)
theorem fl_X5_47 : Cond.fieldLink RX5 47 "Dotpress" "textCount" "I" ∈ gT := gT_mem (i := 130) (by decide +kernel) (by decide +kernel)
theorem fl_X5_51 : Cond.fieldLink RX5 51 "Dotpress" "width" "I" ∈ gT := gT_mem (i := 131) (by decide +kernel) (by decide +kernel)
theorem su_X5 : Cond.superclass RX5 "java/lang/Object" ∈ gT := gT_mem (i := 146) (by decide +kernel) (by decide +kernel)
theorem ml_L_132 : Cond.methodLink RL 132 yX5_setText ∈ gT := gT_mem (i := 147) (by decide +kernel) (by decide +kernel)
theorem im_yX5_setText : Cond.instanceMethod yX5_setText ∈ gT := gT_mem (i := 148) (by decide +kernel) (by decide +kernel)
theorem se_yX5_setText : Cond.selects RX5 yX5_setText yX5_setText ∈ gT := gT_mem (i := 149) (by decide +kernel) (by decide +kernel)
theorem cd_yX5_setText : Cond.code yX5_setText cX5_setText 4 (some FieldType.int) ∈ gT := gT_mem (i := 150) (by decide +kernel) (by decide +kernel)
theorem cl_X5_123 : Cond.classLink RX5 123 "java/lang/IndexOutOfBoundsException" ∈ gT := gT_mem (i := 151) (by decide +kernel) (by decide +kernel)
theorem ml_X5_127 : Cond.methodLink RX5 127 ⟨"java/lang/IndexOutOfBoundsException", "<init>", "(Ljava/lang/String;)V"⟩ ∈ gT := gT_mem (i := 195) (by decide +kernel) (by decide +kernel)
theorem ac_byte : Cond.arrayClass .byte ∈ gT := gT_mem (i := 220) (by decide +kernel) (by decide +kernel)
theorem ml_X5_159 : Cond.methodLink RX5 159 yX5_isGrade ∈ gT := gT_mem (i := 221) (by decide +kernel) (by decide +kernel)
theorem st_yX5_isGrade : Cond.static yX5_isGrade ∈ gT := gT_mem (i := 222) (by decide +kernel) (by decide +kernel)
theorem cd_yX5_isGrade : Cond.code yX5_isGrade cX5_isGrade 1 (some FieldType.boolean) ∈ gT := gT_mem (i := 223) (by decide +kernel) (by decide +kernel)
theorem cl_X5_54 : Cond.classLink RX5 54 "java/lang/IllegalArgumentException" ∈ gT := gT_mem (i := 224) (by decide +kernel) (by decide +kernel)
theorem ml_X5_58 : Cond.methodLink RX5 58 ⟨"java/lang/IllegalArgumentException", "<init>", "(Ljava/lang/String;)V"⟩ ∈ gT := gT_mem (i := 234) (by decide +kernel) (by decide +kernel)
theorem ins_X4 : Cond.instantiable RX4 7 ∈ gT := gT_mem (i := 240) (by decide +kernel) (by decide +kernel)
theorem mn_X5_164 : Cond.methodLinkNest RX5 164 yX4_init RX5 ∈ jTbl := List.mem_of_getElem? (i := 241) (by decide +kernel)
theorem im_yX4_init : Cond.instanceMethod yX4_init ∈ gT := gT_mem (i := 242) (by decide +kernel) (by decide +kernel)
theorem cd_yX4_init : Cond.code yX4_init cX4_init 1 none ∈ gT := gT_mem (i := 243) (by decide +kernel) (by decide +kernel)
theorem ml_X4_3 : Cond.methodLink RX4 3 ⟨"java/lang/Object", "<init>", "()V"⟩ ∈ gT := gT_mem (i := 244) (by decide +kernel) (by decide +kernel)
theorem cl_X4_9 : Cond.classLink RX4 9 RX1 ∈ gT := gT_mem (i := 245) (by decide +kernel) (by decide +kernel)
theorem ml_X4_11 : Cond.methodLink RX4 11 yX1_init ∈ gT := gT_mem (i := 246) (by decide +kernel) (by decide +kernel)
theorem cl_X4_23 : Cond.classLink RX4 23 RX2 ∈ gT := gT_mem (i := 247) (by decide +kernel) (by decide +kernel)
theorem ml_X4_25 : Cond.methodLink RX4 25 yX2_init ∈ gT := gT_mem (i := 248) (by decide +kernel) (by decide +kernel)
theorem fl_X4_14 : Cond.fieldLink RX4 14 "Dotpress$Text" "typed" "LDotpress$Pieces;" ∈ gT := gT_mem (i := 249) (by decide +kernel) (by decide +kernel)
theorem fl_X4_20 : Cond.fieldLink RX4 20 "Dotpress$Text" "cells" "LDotpress$Pieces;" ∈ gT := gT_mem (i := 250) (by decide +kernel) (by decide +kernel)
theorem fl_X4_28 : Cond.fieldLink RX4 28 "Dotpress$Text" "marks" "LDotpress$Row;" ∈ gT := gT_mem (i := 251) (by decide +kernel) (by decide +kernel)
theorem fl_X4_32 : Cond.fieldLink RX4 32 "Dotpress$Text" "laid" "LDotpress$Pieces;" ∈ gT := gT_mem (i := 252) (by decide +kernel) (by decide +kernel)
theorem fl_X4_35 : Cond.fieldLink RX4 35 "Dotpress$Text" "firstLines" "LDotpress$Row;" ∈ gT := gT_mem (i := 253) (by decide +kernel) (by decide +kernel)
theorem fl_X4_38 : Cond.fieldLink RX4 38 "Dotpress$Text" "embossed" "LDotpress$Pieces;" ∈ gT := gT_mem (i := 254) (by decide +kernel) (by decide +kernel)
theorem fl_X4_41 : Cond.fieldLink RX4 41 "Dotpress$Text" "grade" "I" ∈ gT := gT_mem (i := 255) (by decide +kernel) (by decide +kernel)
theorem su_X4 : Cond.superclass RX4 "java/lang/Object" ∈ gT := gT_mem (i := 270) (by decide +kernel) (by decide +kernel)
theorem ml_X5_165 : Cond.methodLink RX5 165 yX4_take ∈ gT := gT_mem (i := 271) (by decide +kernel) (by decide +kernel)
theorem im_yX4_take : Cond.instanceMethod yX4_take ∈ gT := gT_mem (i := 272) (by decide +kernel) (by decide +kernel)
theorem se_yX4_take : Cond.selects RX4 yX4_take yX4_take ∈ gT := gT_mem (i := 273) (by decide +kernel) (by decide +kernel)
theorem cd_yX4_take : Cond.code yX4_take cX4_take 4 none ∈ gT := gT_mem (i := 274) (by decide +kernel) (by decide +kernel)
theorem ml_X4_45 : Cond.methodLink RX4 45 yX1_empty ∈ gT := gT_mem (i := 275) (by decide +kernel) (by decide +kernel)
theorem im_yX1_empty : Cond.instanceMethod yX1_empty ∈ gT := gT_mem (i := 276) (by decide +kernel) (by decide +kernel)
theorem se_yX1_empty : Cond.selects RX1 yX1_empty yX1_empty ∈ gT := gT_mem (i := 277) (by decide +kernel) (by decide +kernel)
theorem cd_yX1_empty : Cond.code yX1_empty cX1_empty 1 none ∈ gT := gT_mem (i := 278) (by decide +kernel) (by decide +kernel)
theorem ml_X1_42 : Cond.methodLink RX1 42 yX2_empty ∈ gT := gT_mem (i := 279) (by decide +kernel) (by decide +kernel)
theorem im_yX2_empty : Cond.instanceMethod yX2_empty ∈ gT := gT_mem (i := 280) (by decide +kernel) (by decide +kernel)
theorem se_yX2_empty : Cond.selects RX2 yX2_empty yX2_empty ∈ gT := gT_mem (i := 281) (by decide +kernel) (by decide +kernel)
theorem cd_yX2_empty : Cond.code yX2_empty cX2_empty 1 none ∈ gT := gT_mem (i := 282) (by decide +kernel) (by decide +kernel)
theorem ml_X4_48 : Cond.methodLink RX4 48 yX2_count ∈ gT := gT_mem (i := 283) (by decide +kernel) (by decide +kernel)
theorem im_yX2_count : Cond.instanceMethod yX2_count ∈ gT := gT_mem (i := 284) (by decide +kernel) (by decide +kernel)
theorem se_yX2_count : Cond.selects RX2 yX2_count yX2_count ∈ gT := gT_mem (i := 285) (by decide +kernel) (by decide +kernel)
theorem cd_yX2_count : Cond.code yX2_count cX2_count 1 (some FieldType.int) ∈ gT := gT_mem (i := 286) (by decide +kernel) (by decide +kernel)
theorem ml_X4_52 : Cond.methodLink RX4 52 yX2_get ∈ gT := gT_mem (i := 287) (by decide +kernel) (by decide +kernel)
theorem im_yX2_get : Cond.instanceMethod yX2_get ∈ gT := gT_mem (i := 288) (by decide +kernel) (by decide +kernel)
theorem se_yX2_get : Cond.selects RX2 yX2_get yX2_get ∈ gT := gT_mem (i := 289) (by decide +kernel) (by decide +kernel)
theorem cd_yX2_get : Cond.code yX2_get cX2_get 2 (some FieldType.int) ∈ gT := gT_mem (i := 290) (by decide +kernel) (by decide +kernel)
theorem ml_X4_56 : Cond.methodLink RX4 56 yX1_cut ∈ gT := gT_mem (i := 291) (by decide +kernel) (by decide +kernel)
theorem im_yX1_cut : Cond.instanceMethod yX1_cut ∈ gT := gT_mem (i := 292) (by decide +kernel) (by decide +kernel)
theorem se_yX1_cut : Cond.selects RX1 yX1_cut yX1_cut ∈ gT := gT_mem (i := 293) (by decide +kernel) (by decide +kernel)
theorem cd_yX1_cut : Cond.code yX1_cut cX1_cut 1 none ∈ gT := gT_mem (i := 294) (by decide +kernel) (by decide +kernel)
theorem ml_X1_39 : Cond.methodLink RX1 39 yX1_uncutSize ∈ gT := gT_mem (i := 295) (by decide +kernel) (by decide +kernel)
theorem im_yX1_uncutSize : Cond.instanceMethod yX1_uncutSize ∈ gT := gT_mem (i := 296) (by decide +kernel) (by decide +kernel)
theorem se_yX1_uncutSize : Cond.selects RX1 yX1_uncutSize yX1_uncutSize ∈ gT := gT_mem (i := 297) (by decide +kernel) (by decide +kernel)
theorem cd_yX1_uncutSize : Cond.code yX1_uncutSize cX1_uncutSize 1 (some FieldType.int) ∈ gT := gT_mem (i := 298) (by decide +kernel) (by decide +kernel)
theorem ml_X1_21 : Cond.methodLink RX1 21 yX2_count ∈ gT := gT_mem (i := 299) (by decide +kernel) (by decide +kernel)
theorem ml_X1_35 : Cond.methodLink RX1 35 yX1_count ∈ gT := gT_mem (i := 300) (by decide +kernel) (by decide +kernel)
theorem im_yX1_count : Cond.instanceMethod yX1_count ∈ gT := gT_mem (i := 301) (by decide +kernel) (by decide +kernel)
theorem se_yX1_count : Cond.selects RX1 yX1_count yX1_count ∈ gT := gT_mem (i := 302) (by decide +kernel) (by decide +kernel)
theorem cd_yX1_count : Cond.code yX1_count cX1_count 1 (some FieldType.int) ∈ gT := gT_mem (i := 303) (by decide +kernel) (by decide +kernel)
theorem ml_X1_32 : Cond.methodLink RX1 32 yX1_startOf ∈ gT := gT_mem (i := 304) (by decide +kernel) (by decide +kernel)
theorem im_yX1_startOf : Cond.instanceMethod yX1_startOf ∈ gT := gT_mem (i := 305) (by decide +kernel) (by decide +kernel)
theorem se_yX1_startOf : Cond.selects RX1 yX1_startOf yX1_startOf ∈ gT := gT_mem (i := 306) (by decide +kernel) (by decide +kernel)
theorem cd_yX1_startOf : Cond.code yX1_startOf cX1_startOf 2 (some FieldType.int) ∈ gT := gT_mem (i := 307) (by decide +kernel) (by decide +kernel)
theorem ml_X1_25 : Cond.methodLink RX1 25 yX2_get ∈ gT := gT_mem (i := 308) (by decide +kernel) (by decide +kernel)
theorem ml_X1_36 : Cond.methodLink RX1 36 yX2_add ∈ gT := gT_mem (i := 309) (by decide +kernel) (by decide +kernel)
theorem ml_X4_59 : Cond.methodLink RX4 59 yX1_add ∈ gT := gT_mem (i := 310) (by decide +kernel) (by decide +kernel)
theorem im_yX1_add : Cond.instanceMethod yX1_add ∈ gT := gT_mem (i := 311) (by decide +kernel) (by decide +kernel)
theorem se_yX1_add : Cond.selects RX1 yX1_add yX1_add ∈ gT := gT_mem (i := 312) (by decide +kernel) (by decide +kernel)
theorem cd_yX1_add : Cond.code yX1_add cX1_add 2 none ∈ gT := gT_mem (i := 313) (by decide +kernel) (by decide +kernel)
theorem ml_X4_62 : Cond.methodLink RX4 62 yX2_empty ∈ gT := gT_mem (i := 314) (by decide +kernel) (by decide +kernel)
theorem ml_X4_63 : Cond.methodLink RX4 63 yX1_count ∈ gT := gT_mem (i := 315) (by decide +kernel) (by decide +kernel)
theorem ml_X4_64 : Cond.methodLink RX4 64 yX2_add ∈ gT := gT_mem (i := 316) (by decide +kernel) (by decide +kernel)
theorem ml_X5_169 : Cond.methodLink RX5 169 yX4_translate ∈ gT := gT_mem (i := 317) (by decide +kernel) (by decide +kernel)
theorem im_yX4_translate : Cond.instanceMethod yX4_translate ∈ gT := gT_mem (i := 318) (by decide +kernel) (by decide +kernel)
theorem se_yX4_translate : Cond.selects RX4 yX4_translate yX4_translate ∈ gT := gT_mem (i := 319) (by decide +kernel) (by decide +kernel)
theorem cd_yX4_translate : Cond.code yX4_translate cX4_translate 5 (some FieldType.boolean) ∈ gT := gT_mem (i := 320) (by decide +kernel) (by decide +kernel)
theorem ml_X4_65 : Cond.methodLink RX4 65 yX1_uncut ∈ gT := gT_mem (i := 321) (by decide +kernel) (by decide +kernel)
theorem im_yX1_uncut : Cond.instanceMethod yX1_uncut ∈ gT := gT_mem (i := 322) (by decide +kernel) (by decide +kernel)
theorem se_yX1_uncut : Cond.selects RX1 yX1_uncut yX1_uncut ∈ gT := gT_mem (i := 323) (by decide +kernel) (by decide +kernel)
theorem cd_yX1_uncut : Cond.code yX1_uncut cX1_uncut 1 (some (FieldType.object "Dotpress$Row")) ∈ gT := gT_mem (i := 324) (by decide +kernel) (by decide +kernel)
theorem ml_X4_69 : Cond.methodLink RX4 69 yX1_startOf ∈ gT := gT_mem (i := 325) (by decide +kernel) (by decide +kernel)
theorem ml_X4_72 : Cond.methodLink RX4 72 yX1_endOf ∈ gT := gT_mem (i := 326) (by decide +kernel) (by decide +kernel)
theorem im_yX1_endOf : Cond.instanceMethod yX1_endOf ∈ gT := gT_mem (i := 327) (by decide +kernel) (by decide +kernel)
theorem se_yX1_endOf : Cond.selects RX1 yX1_endOf yX1_endOf ∈ gT := gT_mem (i := 328) (by decide +kernel) (by decide +kernel)
theorem cd_yX1_endOf : Cond.code yX1_endOf cX1_endOf 2 (some FieldType.int) ∈ gT := gT_mem (i := 329) (by decide +kernel) (by decide +kernel)
theorem ml_X4_75 : Cond.methodLink RX4 75 yX3_translate ∈ gT := gT_mem (i := 330) (by decide +kernel) (by decide +kernel)
theorem im_yX3_translate : Cond.instanceMethod yX3_translate ∈ gT := gT_mem (i := 331) (by decide +kernel) (by decide +kernel)
theorem se_yX3_translate : Cond.selects RX3 yX3_translate yX3_translate ∈ gT := gT_mem (i := 332) (by decide +kernel) (by decide +kernel)
theorem cd_yX3_translate : Cond.code yX3_translate cX3_translate 11 none ∈ gT := gT_mem (i := 333) (by decide +kernel) (by decide +kernel)
theorem ml_X3_76 : Cond.methodLink RX3 76 yX3_placeOfException ∈ gT := gT_mem (i := 334) (by decide +kernel) (by decide +kernel)
theorem im_yX3_placeOfException : Cond.instanceMethod yX3_placeOfException ∈ gT := gT_mem (i := 335) (by decide +kernel) (by decide +kernel)
theorem se_yX3_placeOfException : Cond.selects RX3 yX3_placeOfException yX3_placeOfException ∈ gT := gT_mem (i := 336) (by decide +kernel) (by decide +kernel)
theorem cd_yX3_placeOfException : Cond.code yX3_placeOfException cX3_placeOfException 5 (some FieldType.int) ∈ gT := gT_mem (i := 337) (by decide +kernel) (by decide +kernel)
theorem ml_X3_62 : Cond.methodLink RX3 62 yX1_count ∈ gT := gT_mem (i := 338) (by decide +kernel) (by decide +kernel)
theorem ml_X3_63 : Cond.methodLink RX3 63 yX1_isSame ∈ gT := gT_mem (i := 339) (by decide +kernel) (by decide +kernel)
theorem im_yX1_isSame : Cond.instanceMethod yX1_isSame ∈ gT := gT_mem (i := 340) (by decide +kernel) (by decide +kernel)
theorem se_yX1_isSame : Cond.selects RX1 yX1_isSame yX1_isSame ∈ gT := gT_mem (i := 341) (by decide +kernel) (by decide +kernel)
theorem cd_yX1_isSame : Cond.code yX1_isSame cX1_isSame 7 (some FieldType.boolean) ∈ gT := gT_mem (i := 342) (by decide +kernel) (by decide +kernel)
theorem ml_X3_80 : Cond.methodLink RX3 80 yJ9_min_7cf53 ∈ gT := gT_mem (i := 343) (by decide +kernel) (by decide +kernel)
theorem st_yJ9_min_7cf53 : Cond.static yJ9_min_7cf53 ∈ gT := gT_mem (i := 344) (by decide +kernel) (by decide +kernel)
theorem cd_yJ9_min_7cf53 : Cond.code yJ9_min_7cf53 cJ9_min_7cf53 2 (some FieldType.int) ∈ gT := gT_mem (i := 345) (by decide +kernel) (by decide +kernel)
theorem ml_X3_86 : Cond.methodLink RX3 86 yX3_addCells ∈ gT := gT_mem (i := 346) (by decide +kernel) (by decide +kernel)
theorem im_yX3_addCells : Cond.instanceMethod yX3_addCells ∈ gT := gT_mem (i := 348) (by decide +kernel) (by decide +kernel)
theorem cd_yX3_addCells : Cond.code yX3_addCells cX3_addCells 8 (some FieldType.int) ∈ gT := gT_mem (i := 349) (by decide +kernel) (by decide +kernel)
theorem ml_X3_90 : Cond.methodLink RX3 90 yX3_keyOf ∈ gT := gT_mem (i := 350) (by decide +kernel) (by decide +kernel)
theorem st_yX3_keyOf : Cond.static yX3_keyOf ∈ gT := gT_mem (i := 351) (by decide +kernel) (by decide +kernel)
theorem cd_yX3_keyOf : Cond.code yX3_keyOf cX3_keyOf 6 (some FieldType.int) ∈ gT := gT_mem (i := 352) (by decide +kernel) (by decide +kernel)
theorem ml_X3_38 : Cond.methodLink RX3 38 yX2_get ∈ gT := gT_mem (i := 353) (by decide +kernel) (by decide +kernel)
theorem ml_X3_50 : Cond.methodLink RX3 50 yX2_placeOf ∈ gT := gT_mem (i := 354) (by decide +kernel) (by decide +kernel)
theorem im_yX2_placeOf : Cond.instanceMethod yX2_placeOf ∈ gT := gT_mem (i := 355) (by decide +kernel) (by decide +kernel)
theorem se_yX2_placeOf : Cond.selects RX2 yX2_placeOf yX2_placeOf ∈ gT := gT_mem (i := 356) (by decide +kernel) (by decide +kernel)
theorem cd_yX2_placeOf : Cond.code yX2_placeOf cX2_placeOf 3 (some FieldType.int) ∈ gT := gT_mem (i := 357) (by decide +kernel) (by decide +kernel)
theorem ml_X2_25 : Cond.methodLink RX2 25 yX2_get ∈ gT := gT_mem (i := 358) (by decide +kernel) (by decide +kernel)
theorem ml_X3_67 : Cond.methodLink RX3 67 yX1_add ∈ gT := gT_mem (i := 359) (by decide +kernel) (by decide +kernel)
theorem ml_X4_81 : Cond.methodLink RX4 81 yX1_shares ∈ gT := gT_mem (i := 360) (by decide +kernel) (by decide +kernel)
theorem im_yX1_shares : Cond.instanceMethod yX1_shares ∈ gT := gT_mem (i := 361) (by decide +kernel) (by decide +kernel)
theorem se_yX1_shares : Cond.selects RX1 yX1_shares yX1_shares ∈ gT := gT_mem (i := 362) (by decide +kernel) (by decide +kernel)
theorem cd_yX1_shares : Cond.code yX1_shares cX1_shares 3 (some FieldType.boolean) ∈ gT := gT_mem (i := 363) (by decide +kernel) (by decide +kernel)
theorem ml_X1_29 : Cond.methodLink RX1 29 yX1_endOf ∈ gT := gT_mem (i := 364) (by decide +kernel) (by decide +kernel)
theorem ml_X1_55 : Cond.methodLink RX1 55 yX1_isSame ∈ gT := gT_mem (i := 365) (by decide +kernel) (by decide +kernel)
theorem ml_X4_85 : Cond.methodLink RX4 85 yX4_unmark ∈ gT := gT_mem (i := 366) (by decide +kernel) (by decide +kernel)
theorem im_yX4_unmark : Cond.instanceMethod yX4_unmark ∈ gT := gT_mem (i := 368) (by decide +kernel) (by decide +kernel)
theorem cd_yX4_unmark : Cond.code yX4_unmark cX4_unmark 3 none ∈ gT := gT_mem (i := 369) (by decide +kernel) (by decide +kernel)
theorem ml_X4_116 : Cond.methodLink RX4 116 yX4_putMark ∈ gT := gT_mem (i := 370) (by decide +kernel) (by decide +kernel)
theorem im_yX4_putMark : Cond.instanceMethod yX4_putMark ∈ gT := gT_mem (i := 371) (by decide +kernel) (by decide +kernel)
theorem se_yX4_putMark : Cond.selects RX4 yX4_putMark yX4_putMark ∈ gT := gT_mem (i := 372) (by decide +kernel) (by decide +kernel)
theorem cd_yX4_putMark : Cond.code yX4_putMark cX4_putMark 4 none ∈ gT := gT_mem (i := 373) (by decide +kernel) (by decide +kernel)
theorem ml_X4_113 : Cond.methodLink RX4 113 yX2_set ∈ gT := gT_mem (i := 374) (by decide +kernel) (by decide +kernel)
theorem im_yX2_set : Cond.instanceMethod yX2_set ∈ gT := gT_mem (i := 375) (by decide +kernel) (by decide +kernel)
theorem se_yX2_set : Cond.selects RX2 yX2_set yX2_set ∈ gT := gT_mem (i := 376) (by decide +kernel) (by decide +kernel)
theorem cd_yX2_set : Cond.code yX2_set cX2_set 3 none ∈ gT := gT_mem (i := 377) (by decide +kernel) (by decide +kernel)
theorem ml_X4_88 : Cond.methodLink RX4 88 yX1_takeOver ∈ gT := gT_mem (i := 378) (by decide +kernel) (by decide +kernel)
theorem im_yX1_takeOver : Cond.instanceMethod yX1_takeOver ∈ gT := gT_mem (i := 379) (by decide +kernel) (by decide +kernel)
theorem se_yX1_takeOver : Cond.selects RX1 yX1_takeOver yX1_takeOver ∈ gT := gT_mem (i := 380) (by decide +kernel) (by decide +kernel)
theorem cd_yX1_takeOver : Cond.code yX1_takeOver cX1_takeOver 2 none ∈ gT := gT_mem (i := 381) (by decide +kernel) (by decide +kernel)
theorem ml_X1_59 : Cond.methodLink RX1 59 yX2_takeOver ∈ gT := gT_mem (i := 382) (by decide +kernel) (by decide +kernel)
theorem im_yX2_takeOver : Cond.instanceMethod yX2_takeOver ∈ gT := gT_mem (i := 383) (by decide +kernel) (by decide +kernel)
theorem se_yX2_takeOver : Cond.selects RX2 yX2_takeOver yX2_takeOver ∈ gT := gT_mem (i := 384) (by decide +kernel) (by decide +kernel)
theorem cd_yX2_takeOver : Cond.code yX2_takeOver cX2_takeOver 3 none ∈ gT := gT_mem (i := 385) (by decide +kernel) (by decide +kernel)
theorem ml_X2_29 : Cond.methodLink RX2 29 yX2_empty ∈ gT := gT_mem (i := 386) (by decide +kernel) (by decide +kernel)
theorem ml_X2_32 : Cond.methodLink RX2 32 yX2_count ∈ gT := gT_mem (i := 387) (by decide +kernel) (by decide +kernel)
theorem ml_X2_35 : Cond.methodLink RX2 35 yX2_add ∈ gT := gT_mem (i := 388) (by decide +kernel) (by decide +kernel)
theorem ml_X5_173 : Cond.methodLink RX5 173 yX4_lay ∈ gT := gT_mem (i := 389) (by decide +kernel) (by decide +kernel)
theorem im_yX4_lay : Cond.instanceMethod yX4_lay ∈ gT := gT_mem (i := 390) (by decide +kernel) (by decide +kernel)
theorem se_yX4_lay : Cond.selects RX4 yX4_lay yX4_lay ∈ gT := gT_mem (i := 391) (by decide +kernel) (by decide +kernel)
theorem cd_yX4_lay : Cond.code yX4_lay cX4_lay 4 none ∈ gT := gT_mem (i := 392) (by decide +kernel) (by decide +kernel)
theorem ml_X4_92 : Cond.methodLink RX4 92 yX1_sizeOf ∈ gT := gT_mem (i := 393) (by decide +kernel) (by decide +kernel)
theorem im_yX1_sizeOf : Cond.instanceMethod yX1_sizeOf ∈ gT := gT_mem (i := 394) (by decide +kernel) (by decide +kernel)
theorem se_yX1_sizeOf : Cond.selects RX1 yX1_sizeOf yX1_sizeOf ∈ gT := gT_mem (i := 395) (by decide +kernel) (by decide +kernel)
theorem cd_yX1_sizeOf : Cond.code yX1_sizeOf cX1_sizeOf 2 (some FieldType.int) ∈ gT := gT_mem (i := 396) (by decide +kernel) (by decide +kernel)
theorem ml_X4_95 : Cond.methodLink RX4 95 yX4_beginWord ∈ gT := gT_mem (i := 397) (by decide +kernel) (by decide +kernel)
theorem im_yX4_beginWord : Cond.instanceMethod yX4_beginWord ∈ gT := gT_mem (i := 399) (by decide +kernel) (by decide +kernel)
theorem cd_yX4_beginWord : Cond.code yX4_beginWord cX4_beginWord 4 none ∈ gT := gT_mem (i := 400) (by decide +kernel) (by decide +kernel)
theorem ml_X4_98 : Cond.methodLink RX4 98 yX1_uncutSize ∈ gT := gT_mem (i := 401) (by decide +kernel) (by decide +kernel)
theorem ml_X4_101 : Cond.methodLink RX4 101 yX1_get ∈ gT := gT_mem (i := 402) (by decide +kernel) (by decide +kernel)
theorem im_yX1_get : Cond.instanceMethod yX1_get ∈ gT := gT_mem (i := 403) (by decide +kernel) (by decide +kernel)
theorem se_yX1_get : Cond.selects RX1 yX1_get yX1_get ∈ gT := gT_mem (i := 404) (by decide +kernel) (by decide +kernel)
theorem cd_yX1_get : Cond.code yX1_get cX1_get 3 (some FieldType.int) ∈ gT := gT_mem (i := 405) (by decide +kernel) (by decide +kernel)
theorem ml_X5_77 : Cond.methodLink RX5 77 yX2_empty ∈ gT := gT_mem (i := 406) (by decide +kernel) (by decide +kernel)
theorem ml_X5_176 : Cond.methodLink RX5 176 yX4_wordCount ∈ gT := gT_mem (i := 407) (by decide +kernel) (by decide +kernel)
theorem im_yX4_wordCount : Cond.instanceMethod yX4_wordCount ∈ gT := gT_mem (i := 408) (by decide +kernel) (by decide +kernel)
theorem se_yX4_wordCount : Cond.selects RX4 yX4_wordCount yX4_wordCount ∈ gT := gT_mem (i := 409) (by decide +kernel) (by decide +kernel)
theorem cd_yX4_wordCount : Cond.code yX4_wordCount cX4_wordCount 1 (some FieldType.int) ∈ gT := gT_mem (i := 410) (by decide +kernel) (by decide +kernel)
theorem ml_L_88 : Cond.methodLink RL 88 yX5_words ∈ gT := gT_mem (i := 411) (by decide +kernel) (by decide +kernel)
theorem im_yX5_words : Cond.instanceMethod yX5_words ∈ gT := gT_mem (i := 412) (by decide +kernel) (by decide +kernel)
theorem se_yX5_words : Cond.selects RX5 yX5_words yX5_words ∈ gT := gT_mem (i := 413) (by decide +kernel) (by decide +kernel)
theorem cd_yX5_words : Cond.code yX5_words cX5_words 2 (some FieldType.int) ∈ gT := gT_mem (i := 414) (by decide +kernel) (by decide +kernel)
theorem ml_X5_181 : Cond.methodLink RX5 181 yX5_textNumbered ∈ gT := gT_mem (i := 415) (by decide +kernel) (by decide +kernel)
theorem im_yX5_textNumbered : Cond.instanceMethod yX5_textNumbered ∈ gT := gT_mem (i := 417) (by decide +kernel) (by decide +kernel)
theorem cd_yX5_textNumbered : Cond.code yX5_textNumbered cX5_textNumbered 3 (some (FieldType.object "Dotpress$Text")) ∈ gT := gT_mem (i := 418) (by decide +kernel) (by decide +kernel)
theorem ml_L_157 : Cond.methodLink RL 157 yX5_setBearing ∈ gT := gT_mem (i := 420) (by decide +kernel) (by decide +kernel)
theorem im_yX5_setBearing : Cond.instanceMethod yX5_setBearing ∈ gT := gT_mem (i := 421) (by decide +kernel) (by decide +kernel)
theorem se_yX5_setBearing : Cond.selects RX5 yX5_setBearing yX5_setBearing ∈ gT := gT_mem (i := 422) (by decide +kernel) (by decide +kernel)
theorem cd_yX5_setBearing : Cond.code yX5_setBearing cX5_setBearing 2 (some FieldType.int) ∈ gT := gT_mem (i := 423) (by decide +kernel) (by decide +kernel)
theorem ml_X5_239 : Cond.methodLink RX5 239 yX0_changeBearing ∈ gT := gT_mem (i := 425) (by decide +kernel) (by decide +kernel)
theorem im_yX0_changeBearing : Cond.instanceMethod yX0_changeBearing ∈ gT := gT_mem (i := 426) (by decide +kernel) (by decide +kernel)
theorem se_yX0_changeBearing : Cond.selects RX0 yX0_changeBearing yX0_changeBearing ∈ gT := gT_mem (i := 427) (by decide +kernel) (by decide +kernel)
theorem cd_yX0_changeBearing : Cond.code yX0_changeBearing cX0_changeBearing 3 (some FieldType.int) ∈ gT := gT_mem (i := 428) (by decide +kernel) (by decide +kernel)
theorem ml_L_142 : Cond.methodLink RL 142 yX5_markOf ∈ gT := gT_mem (i := 429) (by decide +kernel) (by decide +kernel)
theorem im_yX5_markOf : Cond.instanceMethod yX5_markOf ∈ gT := gT_mem (i := 430) (by decide +kernel) (by decide +kernel)
theorem se_yX5_markOf : Cond.selects RX5 yX5_markOf yX5_markOf ∈ gT := gT_mem (i := 431) (by decide +kernel) (by decide +kernel)
theorem cd_yX5_markOf : Cond.code yX5_markOf cX5_markOf 4 (some FieldType.char) ∈ gT := gT_mem (i := 432) (by decide +kernel) (by decide +kernel)
theorem ml_X5_250 : Cond.methodLink RX5 250 yX5_isReader ∈ gT := gT_mem (i := 433) (by decide +kernel) (by decide +kernel)
theorem st_yX5_isReader : Cond.static yX5_isReader ∈ gT := gT_mem (i := 434) (by decide +kernel) (by decide +kernel)
theorem cd_yX5_isReader : Cond.code yX5_isReader cX5_isReader 1 (some FieldType.boolean) ∈ gT := gT_mem (i := 435) (by decide +kernel) (by decide +kernel)
theorem ml_X5_185 : Cond.methodLink RX5 185 yX5_textWithWord ∈ gT := gT_mem (i := 437) (by decide +kernel) (by decide +kernel)
theorem im_yX5_textWithWord : Cond.instanceMethod yX5_textWithWord ∈ gT := gT_mem (i := 439) (by decide +kernel) (by decide +kernel)
theorem cd_yX5_textWithWord : Cond.code yX5_textWithWord cX5_textWithWord 4 (some (FieldType.object "Dotpress$Text")) ∈ gT := gT_mem (i := 440) (by decide +kernel) (by decide +kernel)
theorem ml_X5_259 : Cond.methodLink RX5 259 yX4_markBy ∈ gT := gT_mem (i := 442) (by decide +kernel) (by decide +kernel)
theorem im_yX4_markBy : Cond.instanceMethod yX4_markBy ∈ gT := gT_mem (i := 443) (by decide +kernel) (by decide +kernel)
theorem se_yX4_markBy : Cond.selects RX4 yX4_markBy yX4_markBy ∈ gT := gT_mem (i := 444) (by decide +kernel) (by decide +kernel)
theorem cd_yX4_markBy : Cond.code yX4_markBy cX4_markBy 3 (some FieldType.char) ∈ gT := gT_mem (i := 445) (by decide +kernel) (by decide +kernel)
theorem ml_L_168 : Cond.methodLink RL 168 yX5_isSound ∈ gT := gT_mem (i := 446) (by decide +kernel) (by decide +kernel)
theorem im_yX5_isSound : Cond.instanceMethod yX5_isSound ∈ gT := gT_mem (i := 447) (by decide +kernel) (by decide +kernel)
theorem se_yX5_isSound : Cond.selects RX5 yX5_isSound yX5_isSound ∈ gT := gT_mem (i := 448) (by decide +kernel) (by decide +kernel)
theorem cd_yX5_isSound : Cond.code yX5_isSound cX5_isSound 5 (some FieldType.boolean) ∈ gT := gT_mem (i := 449) (by decide +kernel) (by decide +kernel)
theorem ml_X5_280 : Cond.methodLink RX5 280 yX4_isWellLaid ∈ gT := gT_mem (i := 450) (by decide +kernel) (by decide +kernel)
theorem im_yX4_isWellLaid : Cond.instanceMethod yX4_isWellLaid ∈ gT := gT_mem (i := 451) (by decide +kernel) (by decide +kernel)
theorem se_yX4_isWellLaid : Cond.selects RX4 yX4_isWellLaid yX4_isWellLaid ∈ gT := gT_mem (i := 452) (by decide +kernel) (by decide +kernel)
theorem cd_yX4_isWellLaid : Cond.code yX4_isWellLaid cX4_isWellLaid 5 (some FieldType.boolean) ∈ gT := gT_mem (i := 453) (by decide +kernel) (by decide +kernel)
theorem ml_X5_283 : Cond.methodLink RX5 283 yX3_isInOrder ∈ gT := gT_mem (i := 454) (by decide +kernel) (by decide +kernel)
theorem im_yX3_isInOrder : Cond.instanceMethod yX3_isInOrder ∈ gT := gT_mem (i := 455) (by decide +kernel) (by decide +kernel)
theorem se_yX3_isInOrder : Cond.selects RX3 yX3_isInOrder yX3_isInOrder ∈ gT := gT_mem (i := 456) (by decide +kernel) (by decide +kernel)
theorem cd_yX3_isInOrder : Cond.code yX3_isInOrder cX3_isInOrder 2 (some FieldType.boolean) ∈ gT := gT_mem (i := 457) (by decide +kernel) (by decide +kernel)
theorem ml_X3_42 : Cond.methodLink RX3 42 yX2_count ∈ gT := gT_mem (i := 458) (by decide +kernel) (by decide +kernel)
theorem ml_L_153 : Cond.methodLink RL 153 yL_cell ∈ gT := gT_mem (i := 459) (by decide +kernel) (by decide +kernel)
theorem st_yL_cell : Cond.static yL_cell ∈ gT := gT_mem (i := 460) (by decide +kernel) (by decide +kernel)
theorem cd_yL_cell : Cond.code yL_cell cL_cell 2 (some FieldType.int) ∈ gT := gT_mem (i := 461) (by decide +kernel) (by decide +kernel)
theorem kc_L_7 : Cond.constant RL 7 (40503) ∈ gT := gT_mem (i := 462) (by decide +kernel) (by decide +kernel)
theorem ml_L_15 : Cond.methodLink RL 15 yL_low ∈ gT := gT_mem (i := 463) (by decide +kernel) (by decide +kernel)
theorem st_yL_low : Cond.static yL_low ∈ gT := gT_mem (i := 464) (by decide +kernel) (by decide +kernel)
theorem cd_yL_low : Cond.code yL_low cL_low 2 (some FieldType.int) ∈ gT := gT_mem (i := 465) (by decide +kernel) (by decide +kernel)
theorem kc_L_8 : Cond.constant RL 8 (2147483647) ∈ gT := gT_mem (i := 466) (by decide +kernel) (by decide +kernel)
theorem ml_L_115 : Cond.methodLink RL 115 yL_types ∈ gT := gT_mem (i := 467) (by decide +kernel) (by decide +kernel)
theorem st_yL_types : Cond.static yL_types ∈ gT := gT_mem (i := 468) (by decide +kernel) (by decide +kernel)
theorem cd_yL_types : Cond.code yL_types cL_types 9 none ∈ gT := gT_mem (i := 469) (by decide +kernel) (by decide +kernel)
theorem ml_L_9 : Cond.methodLink RL 9 yX5_clear ∈ gT := gT_mem (i := 470) (by decide +kernel) (by decide +kernel)
theorem im_yX5_clear : Cond.instanceMethod yX5_clear ∈ gT := gT_mem (i := 471) (by decide +kernel) (by decide +kernel)
theorem se_yX5_clear : Cond.selects RX5 yX5_clear yX5_clear ∈ gT := gT_mem (i := 472) (by decide +kernel) (by decide +kernel)
theorem cd_yX5_clear : Cond.code yX5_clear cX5_clear 2 (some FieldType.int) ∈ gT := gT_mem (i := 473) (by decide +kernel) (by decide +kernel)
theorem ml_X5_73 : Cond.methodLink RX5 73 yX2_count ∈ gT := gT_mem (i := 474) (by decide +kernel) (by decide +kernel)
theorem ml_L_23 : Cond.methodLink RL 23 yJ0_charAt_5068e ∈ gT := gT_mem (i := 476) (by decide +kernel) (by decide +kernel)
theorem im_yJ0_charAt_5068e : Cond.instanceMethod yJ0_charAt_5068e ∈ gT := gT_mem (i := 477) (by decide +kernel) (by decide +kernel)
theorem se_yJ0_charAt_5068e : Cond.selects RJ0 yJ0_charAt_5068e yJ0_charAt_5068e ∈ gT := gT_mem (i := 478) (by decide +kernel) (by decide +kernel)
theorem cd_yJ0_charAt_5068e : Cond.code yJ0_charAt_5068e cJ0_charAt_5068e 2 (some FieldType.char) ∈ gT := gT_mem (i := 479) (by decide +kernel) (by decide +kernel)
theorem ml_J0_492 : Cond.methodLink RJ0 492 yJ0_isLatin1_aae02 ∈ gT := gT_mem (i := 480) (by decide +kernel) (by decide +kernel)
theorem im_yJ0_isLatin1_aae02 : Cond.instanceMethod yJ0_isLatin1_aae02 ∈ gT := gT_mem (i := 481) (by decide +kernel) (by decide +kernel)
theorem se_yJ0_isLatin1_aae02 : Cond.selects RJ0 yJ0_isLatin1_aae02 yJ0_isLatin1_aae02 ∈ gT := gT_mem (i := 482) (by decide +kernel) (by decide +kernel)
theorem cd_yJ0_isLatin1_aae02 : Cond.code yJ0_isLatin1_aae02 cJ0_isLatin1_aae02 1 (some FieldType.boolean) ∈ gT := gT_mem (i := 483) (by decide +kernel) (by decide +kernel)
theorem fl_J0_38 : Cond.fieldLink RJ0 38 "java/lang/String" "COMPACT_STRINGS" "Z" ∈ gT := gT_mem (i := 484) (by decide +kernel) (by decide +kernel)
theorem ls_J0_COMPACT_STRINGS : Cond.laysStatic RJ0 "COMPACT_STRINGS" "Z" ∈ jTbl := List.mem_of_getElem? (i := 485) (by decide +kernel)
theorem ml_J0_495 : Cond.methodLink RJ0 495 yJ1_charAt_3b067 ∈ gT := gT_mem (i := 486) (by decide +kernel) (by decide +kernel)
theorem st_yJ1_charAt_3b067 : Cond.static yJ1_charAt_3b067 ∈ gT := gT_mem (i := 487) (by decide +kernel) (by decide +kernel)
theorem cd_yJ1_charAt_3b067 : Cond.code yJ1_charAt_3b067 cJ1_charAt_3b067 2 (some FieldType.char) ∈ gT := gT_mem (i := 488) (by decide +kernel) (by decide +kernel)
theorem ml_J1_9 : Cond.methodLink RJ1 9 yJ0_checkIndex_df160 ∈ gT := gT_mem (i := 489) (by decide +kernel) (by decide +kernel)
theorem st_yJ0_checkIndex_df160 : Cond.static yJ0_checkIndex_df160 ∈ gT := gT_mem (i := 490) (by decide +kernel) (by decide +kernel)
theorem cd_yJ0_checkIndex_df160 : Cond.code yJ0_checkIndex_df160 cJ0_checkIndex_df160 2 none ∈ gT := gT_mem (i := 491) (by decide +kernel) (by decide +kernel)
theorem fl_J0_1053 : Cond.fieldLink RJ0 1053 "jdk/internal/util/Preconditions" "SIOOBE_FORMATTER" "Ljava/util/function/BiFunction;" ∈ gT := gT_mem (i := 492) (by decide +kernel) (by decide +kernel)
theorem ls_J3_SIOOBE_FORMATTER : Cond.laysStatic RJ3 "SIOOBE_FORMATTER" "Ljava/util/function/BiFunction;" ∈ jTbl := List.mem_of_getElem? (i := 493) (by decide +kernel)
theorem ml_J0_1059 : Cond.methodLink RJ0 1059 yJ3_checkIndex_8e157 ∈ gT := gT_mem (i := 494) (by decide +kernel) (by decide +kernel)
theorem st_yJ3_checkIndex_8e157 : Cond.static yJ3_checkIndex_8e157 ∈ gT := gT_mem (i := 495) (by decide +kernel) (by decide +kernel)
theorem cd_yJ3_checkIndex_8e157 : Cond.code yJ3_checkIndex_8e157 cJ3_checkIndex_8e157 3 (some FieldType.int) ∈ gT := gT_mem (i := 496) (by decide +kernel) (by decide +kernel)
theorem ml_J0_498 : Cond.methodLink RJ0 498 yJ2_charAt_3b067 ∈ gT := gT_mem (i := 497) (by decide +kernel) (by decide +kernel)
theorem st_yJ2_charAt_3b067 : Cond.static yJ2_charAt_3b067 ∈ gT := gT_mem (i := 498) (by decide +kernel) (by decide +kernel)
theorem cd_yJ2_charAt_3b067 : Cond.code yJ2_charAt_3b067 cJ2_charAt_3b067 2 (some FieldType.char) ∈ gT := gT_mem (i := 499) (by decide +kernel) (by decide +kernel)
theorem ml_J2_67 : Cond.methodLink RJ2 67 yJ2_checkIndex_2214a ∈ gT := gT_mem (i := 500) (by decide +kernel) (by decide +kernel)
theorem st_yJ2_checkIndex_2214a : Cond.static yJ2_checkIndex_2214a ∈ gT := gT_mem (i := 501) (by decide +kernel) (by decide +kernel)
theorem cd_yJ2_checkIndex_2214a : Cond.code yJ2_checkIndex_2214a cJ2_checkIndex_2214a 2 none ∈ gT := gT_mem (i := 502) (by decide +kernel) (by decide +kernel)
theorem ml_J2_48 : Cond.methodLink RJ2 48 yJ2_length_9d52b ∈ gT := gT_mem (i := 503) (by decide +kernel) (by decide +kernel)
theorem st_yJ2_length_9d52b : Cond.static yJ2_length_9d52b ∈ gT := gT_mem (i := 504) (by decide +kernel) (by decide +kernel)
theorem cd_yJ2_length_9d52b : Cond.code yJ2_length_9d52b cJ2_length_9d52b 1 (some FieldType.int) ∈ gT := gT_mem (i := 505) (by decide +kernel) (by decide +kernel)
theorem ml_J2_414 : Cond.methodLink RJ2 414 yJ0_checkIndex_df160 ∈ gT := gT_mem (i := 506) (by decide +kernel) (by decide +kernel)
theorem ml_J2_71 : Cond.methodLink RJ2 71 yJ2_getChar_3b067 ∈ gT := gT_mem (i := 507) (by decide +kernel) (by decide +kernel)
theorem st_yJ2_getChar_3b067 : Cond.static yJ2_getChar_3b067 ∈ gT := gT_mem (i := 508) (by decide +kernel) (by decide +kernel)
theorem cd_yJ2_getChar_3b067 : Cond.code yJ2_getChar_3b067 cJ2_getChar_3b067 2 (some FieldType.char) ∈ gT := gT_mem (i := 509) (by decide +kernel) (by decide +kernel)
theorem fl_J2_44 : Cond.fieldLink RJ2 44 "java/lang/StringUTF16" "$assertionsDisabled" "Z" ∈ gT := gT_mem (i := 510) (by decide +kernel) (by decide +kernel)
theorem fl_J2_59 : Cond.fieldLink RJ2 59 "java/lang/StringUTF16" "HI_BYTE_SHIFT" "I" ∈ gT := gT_mem (i := 512) (by decide +kernel) (by decide +kernel)
theorem fl_J2_63 : Cond.fieldLink RJ2 63 "java/lang/StringUTF16" "LO_BYTE_SHIFT" "I" ∈ gT := gT_mem (i := 514) (by decide +kernel) (by decide +kernel)
theorem ml_L_29 : Cond.methodLink RL 29 yX5_type ∈ gT := gT_mem (i := 516) (by decide +kernel) (by decide +kernel)
theorem im_yX5_type : Cond.instanceMethod yX5_type ∈ gT := gT_mem (i := 517) (by decide +kernel) (by decide +kernel)
theorem se_yX5_type : Cond.selects RX5 yX5_type yX5_type ∈ gT := gT_mem (i := 518) (by decide +kernel) (by decide +kernel)
theorem cd_yX5_type : Cond.code yX5_type cX5_type 2 (some FieldType.int) ∈ gT := gT_mem (i := 519) (by decide +kernel) (by decide +kernel)
theorem ml_X5_61 : Cond.methodLink RX5 61 yX2_isFull ∈ gT := gT_mem (i := 521) (by decide +kernel) (by decide +kernel)
theorem im_yX2_isFull : Cond.instanceMethod yX2_isFull ∈ gT := gT_mem (i := 522) (by decide +kernel) (by decide +kernel)
theorem se_yX2_isFull : Cond.selects RX2 yX2_isFull yX2_isFull ∈ gT := gT_mem (i := 523) (by decide +kernel) (by decide +kernel)
theorem cd_yX2_isFull : Cond.code yX2_isFull cX2_isFull 1 (some FieldType.boolean) ∈ gT := gT_mem (i := 524) (by decide +kernel) (by decide +kernel)
theorem cl_X5_65 : Cond.classLink RX5 65 "java/lang/IllegalStateException" ∈ gT := gT_mem (i := 525) (by decide +kernel) (by decide +kernel)
theorem ml_X5_69 : Cond.methodLink RX5 69 ⟨"java/lang/IllegalStateException", "<init>", "(Ljava/lang/String;)V"⟩ ∈ gT := gT_mem (i := 535) (by decide +kernel) (by decide +kernel)
theorem ml_X5_70 : Cond.methodLink RX5 70 yX2_add ∈ gT := gT_mem (i := 541) (by decide +kernel) (by decide +kernel)
theorem ml_L_91 : Cond.methodLink RL 91 yL_word ∈ gT := gT_mem (i := 542) (by decide +kernel) (by decide +kernel)
theorem st_yL_word : Cond.static yL_word ∈ gT := gT_mem (i := 543) (by decide +kernel) (by decide +kernel)
theorem cd_yL_word : Cond.code yL_word cL_word 5 (some (FieldType.object "java/lang/String")) ∈ gT := gT_mem (i := 544) (by decide +kernel) (by decide +kernel)
theorem ml_L_73 : Cond.methodLink RL 73 yX5_length ∈ gT := gT_mem (i := 546) (by decide +kernel) (by decide +kernel)
theorem im_yX5_length : Cond.instanceMethod yX5_length ∈ gT := gT_mem (i := 547) (by decide +kernel) (by decide +kernel)
theorem se_yX5_length : Cond.selects RX5 yX5_length yX5_length ∈ gT := gT_mem (i := 548) (by decide +kernel) (by decide +kernel)
theorem cd_yX5_length : Cond.code yX5_length cX5_length 3 (some FieldType.int) ∈ gT := gT_mem (i := 549) (by decide +kernel) (by decide +kernel)
theorem ml_X5_189 : Cond.methodLink RX5 189 yX4_cellCount ∈ gT := gT_mem (i := 550) (by decide +kernel) (by decide +kernel)
theorem im_yX4_cellCount : Cond.instanceMethod yX4_cellCount ∈ gT := gT_mem (i := 551) (by decide +kernel) (by decide +kernel)
theorem se_yX4_cellCount : Cond.selects RX4 yX4_cellCount yX4_cellCount ∈ gT := gT_mem (i := 552) (by decide +kernel) (by decide +kernel)
theorem cd_yX4_cellCount : Cond.code yX4_cellCount cX4_cellCount 2 (some FieldType.int) ∈ gT := gT_mem (i := 553) (by decide +kernel) (by decide +kernel)
theorem cl_L_56 : Cond.classLink RL 56 RJ4 ∈ gT := gT_mem (i := 554) (by decide +kernel) (by decide +kernel)
theorem ins_J4 : Cond.instantiable RJ4 4 ∈ gT := gT_mem (i := 555) (by decide +kernel) (by decide +kernel)
theorem ml_L_58 : Cond.methodLink RL 58 yJ4_init_da8c8 ∈ gT := gT_mem (i := 556) (by decide +kernel) (by decide +kernel)
theorem im_yJ4_init_da8c8 : Cond.instanceMethod yJ4_init_da8c8 ∈ gT := gT_mem (i := 557) (by decide +kernel) (by decide +kernel)
theorem cd_yJ4_init_da8c8 : Cond.code yJ4_init_da8c8 cJ4_init_da8c8 1 none ∈ gT := gT_mem (i := 558) (by decide +kernel) (by decide +kernel)
theorem ml_J4_1 : Cond.methodLink RJ4 1 yJ5_init_d00df ∈ gT := gT_mem (i := 559) (by decide +kernel) (by decide +kernel)
theorem im_yJ5_init_d00df : Cond.instanceMethod yJ5_init_d00df ∈ gT := gT_mem (i := 560) (by decide +kernel) (by decide +kernel)
theorem cd_yJ5_init_d00df : Cond.code yJ5_init_d00df cJ5_init_d00df 2 none ∈ gT := gT_mem (i := 561) (by decide +kernel) (by decide +kernel)
theorem ml_J5_3 : Cond.methodLink RJ5 3 ⟨"java/lang/Object", "<init>", "()V"⟩ ∈ gT := gT_mem (i := 562) (by decide +kernel) (by decide +kernel)
theorem fl_J5_18 : Cond.fieldLink RJ5 18 "java/lang/String" "COMPACT_STRINGS" "Z" ∈ gT := gT_mem (i := 563) (by decide +kernel) (by decide +kernel)
theorem ml_J5_26 : Cond.methodLink RJ5 26 yJ2_newBytesFor_77867 ∈ gT := gT_mem (i := 564) (by decide +kernel) (by decide +kernel)
theorem st_yJ2_newBytesFor_77867 : Cond.static yJ2_newBytesFor_77867 ∈ gT := gT_mem (i := 565) (by decide +kernel) (by decide +kernel)
theorem cd_yJ2_newBytesFor_77867 : Cond.code yJ2_newBytesFor_77867 cJ2_newBytesFor_77867 1 (some (FieldType.array FieldType.byte)) ∈ gT := gT_mem (i := 566) (by decide +kernel) (by decide +kernel)
theorem ml_J2_11 : Cond.methodLink RJ2 11 yJ2_newBytesLength_0f7a4 ∈ gT := gT_mem (i := 567) (by decide +kernel) (by decide +kernel)
theorem st_yJ2_newBytesLength_0f7a4 : Cond.static yJ2_newBytesLength_0f7a4 ∈ gT := gT_mem (i := 568) (by decide +kernel) (by decide +kernel)
theorem cd_yJ2_newBytesLength_0f7a4 : Cond.code yJ2_newBytesLength_0f7a4 cJ2_newBytesLength_0f7a4 1 (some FieldType.int) ∈ gT := gT_mem (i := 569) (by decide +kernel) (by decide +kernel)
theorem kc_J2_20 : Cond.constant RJ2 20 (1073741823) ∈ gT := gT_mem (i := 570) (by decide +kernel) (by decide +kernel)
theorem fl_J5_15 : Cond.fieldLink RJ5 15 "java/lang/AbstractStringBuilder" "value" "[B" ∈ gT := gT_mem (i := 571) (by decide +kernel) (by decide +kernel)
theorem fl_J5_22 : Cond.fieldLink RJ5 22 "java/lang/AbstractStringBuilder" "coder" "B" ∈ gT := gT_mem (i := 572) (by decide +kernel) (by decide +kernel)
theorem fl_J0_1048 : Cond.fieldLink RJ0 1048 "java/lang/AbstractStringBuilder" "maybeLatin1" "Z" ∈ gT := gT_mem (i := 573) (by decide +kernel) (by decide +kernel)
theorem fl_J5_79 : Cond.fieldLink RJ5 79 "java/lang/AbstractStringBuilder" "count" "I" ∈ gT := gT_mem (i := 574) (by decide +kernel) (by decide +kernel)
theorem su_J4 : Cond.superclass RJ4 RJ5 ∈ gT := gT_mem (i := 583) (by decide +kernel) (by decide +kernel)
theorem ml_L_59 : Cond.methodLink RL 59 yJ4_append_15ec4 ∈ gT := gT_mem (i := 584) (by decide +kernel) (by decide +kernel)
theorem im_yJ4_append_15ec4 : Cond.instanceMethod yJ4_append_15ec4 ∈ gT := gT_mem (i := 585) (by decide +kernel) (by decide +kernel)
theorem se_yJ4_append_15ec4 : Cond.selects RJ4 yJ4_append_15ec4 yJ4_append_15ec4 ∈ gT := gT_mem (i := 586) (by decide +kernel) (by decide +kernel)
theorem cd_yJ4_append_15ec4 : Cond.code yJ4_append_15ec4 cJ4_append_15ec4 2 (some (FieldType.object "java/lang/StringBuilder")) ∈ gT := gT_mem (i := 587) (by decide +kernel) (by decide +kernel)
theorem ml_J4_29 : Cond.methodLink RJ4 29 yJ5_append_cf1ce ∈ gT := gT_mem (i := 588) (by decide +kernel) (by decide +kernel)
theorem im_yJ5_append_cf1ce : Cond.instanceMethod yJ5_append_cf1ce ∈ gT := gT_mem (i := 589) (by decide +kernel) (by decide +kernel)
theorem cd_yJ5_append_cf1ce : Cond.code yJ5_append_cf1ce cJ5_append_cf1ce 3 (some (FieldType.object "java/lang/AbstractStringBuilder")) ∈ gT := gT_mem (i := 590) (by decide +kernel) (by decide +kernel)
theorem ml_J5_204 : Cond.methodLink RJ5 204 yJ5_appendNull_278bc ∈ gT := gT_mem (i := 591) (by decide +kernel) (by decide +kernel)
theorem im_yJ5_appendNull_278bc : Cond.instanceMethod yJ5_appendNull_278bc ∈ gT := gT_mem (i := 593) (by decide +kernel) (by decide +kernel)
theorem cd_yJ5_appendNull_278bc : Cond.code yJ5_appendNull_278bc cJ5_appendNull_278bc 3 (some (FieldType.object "java/lang/AbstractStringBuilder")) ∈ gT := gT_mem (i := 594) (by decide +kernel) (by decide +kernel)
theorem ml_J5_100 : Cond.methodLink RJ5 100 yJ5_ensureCapacityInternal_d00df ∈ gT := gT_mem (i := 595) (by decide +kernel) (by decide +kernel)
theorem im_yJ5_ensureCapacityInternal_d00df : Cond.instanceMethod yJ5_ensureCapacityInternal_d00df ∈ gT := gT_mem (i := 597) (by decide +kernel) (by decide +kernel)
theorem cd_yJ5_ensureCapacityInternal_d00df : Cond.code yJ5_ensureCapacityInternal_d00df cJ5_ensureCapacityInternal_d00df 3 none ∈ gT := gT_mem (i := 598) (by decide +kernel) (by decide +kernel)
theorem ml_J5_104 : Cond.methodLink RJ5 104 yJ5_newCapacity_0f7a4 ∈ gT := gT_mem (i := 599) (by decide +kernel) (by decide +kernel)
theorem im_yJ5_newCapacity_0f7a4 : Cond.instanceMethod yJ5_newCapacity_0f7a4 ∈ gT := gT_mem (i := 601) (by decide +kernel) (by decide +kernel)
theorem cd_yJ5_newCapacity_0f7a4 : Cond.code yJ5_newCapacity_0f7a4 cJ5_newCapacity_0f7a4 6 (some FieldType.int) ∈ gT := gT_mem (i := 602) (by decide +kernel) (by decide +kernel)
theorem ml_J5_114 : Cond.methodLink RJ5 114 yJ8_newLength_cabcc ∈ gT := gT_mem (i := 603) (by decide +kernel) (by decide +kernel)
theorem st_yJ8_newLength_cabcc : Cond.static yJ8_newLength_cabcc ∈ gT := gT_mem (i := 604) (by decide +kernel) (by decide +kernel)
theorem cd_yJ8_newLength_cabcc : Cond.code yJ8_newLength_cabcc cJ8_newLength_cabcc 4 (some FieldType.int) ∈ gT := gT_mem (i := 605) (by decide +kernel) (by decide +kernel)
theorem ml_J8_194 : Cond.methodLink RJ8 194 yJ9_max_7cf53 ∈ gT := gT_mem (i := 606) (by decide +kernel) (by decide +kernel)
theorem st_yJ9_max_7cf53 : Cond.static yJ9_max_7cf53 ∈ gT := gT_mem (i := 607) (by decide +kernel) (by decide +kernel)
theorem cd_yJ9_max_7cf53 : Cond.code yJ9_max_7cf53 cJ9_max_7cf53 2 (some FieldType.int) ∈ gT := gT_mem (i := 608) (by decide +kernel) (by decide +kernel)
theorem kc_J8_200 : Cond.constant RJ8 200 (2147483639) ∈ gT := gT_mem (i := 609) (by decide +kernel) (by decide +kernel)
theorem ml_J8_201 : Cond.methodLink RJ8 201 yJ8_hugeLength_7cf53 ∈ gT := gT_mem (i := 610) (by decide +kernel) (by decide +kernel)
theorem st_yJ8_hugeLength_7cf53 : Cond.static yJ8_hugeLength_7cf53 ∈ gT := gT_mem (i := 611) (by decide +kernel) (by decide +kernel)
theorem cd_yJ8_hugeLength_7cf53 : Cond.code yJ8_hugeLength_7cf53 cJ8_hugeLength_7cf53 3 (some FieldType.int) ∈ gT := gT_mem (i := 612) (by decide +kernel) (by decide +kernel)
theorem kc_J5_39 : Cond.constant RJ5 39 (2147483647) ∈ gT := gT_mem (i := 613) (by decide +kernel) (by decide +kernel)
theorem ml_J5_108 : Cond.methodLink RJ5 108 yJ7_copyOf_9075b ∈ gT := gT_mem (i := 614) (by decide +kernel) (by decide +kernel)
theorem st_yJ7_copyOf_9075b : Cond.static yJ7_copyOf_9075b ∈ gT := gT_mem (i := 615) (by decide +kernel) (by decide +kernel)
theorem cd_yJ7_copyOf_9075b : Cond.code yJ7_copyOf_9075b cJ7_copyOf_9075b 3 (some (FieldType.array FieldType.byte)) ∈ gT := gT_mem (i := 616) (by decide +kernel) (by decide +kernel)
theorem ml_J7_310 : Cond.methodLink RJ7 310 ⟨"[B", "clone", "()Ljava/lang/Object;"⟩ ∈ gT := gT_mem (i := 617) (by decide +kernel) (by decide +kernel)
theorem sm_B_clone : Cond.sameMethod "[B" "java/lang/Object" "clone" "()Ljava/lang/Object;" ∈ gT := gT_mem (i := 618) (by decide +kernel) (by decide +kernel)
theorem nat_clone : Cond.native ⟨"java/lang/Object", "clone", "()Ljava/lang/Object;"⟩ ∈ gT := gT_mem (i := 619) (by decide +kernel) (by decide +kernel)
theorem im_clone : Cond.instanceMethod ⟨"java/lang/Object", "clone", "()Ljava/lang/Object;"⟩ ∈ gT := gT_mem (i := 620) (by decide +kernel) (by decide +kernel)
theorem se_B_clone : Cond.selects "[B" ⟨"[B", "clone", "()Ljava/lang/Object;"⟩ ⟨"java/lang/Object", "clone", "()Ljava/lang/Object;"⟩ ∈ gT := gT_mem (i := 621) (by decide +kernel) (by decide +kernel)
theorem ca_B : Cond.castable "[B" "java/lang/Cloneable" ∈ jTbl := List.mem_of_getElem? (i := 622) (by decide +kernel)
theorem cl_J7_311 : Cond.classLink RJ7 311 "[B" ∈ gT := gT_mem (i := 623) (by decide +kernel) (by decide +kernel)
theorem ml_J7_304 : Cond.methodLink RJ7 304 yJ9_min_7cf53 ∈ gT := gT_mem (i := 624) (by decide +kernel) (by decide +kernel)
theorem ml_J7_150 : Cond.methodLink RJ7 150 ⟨"java/lang/System", "arraycopy", "(Ljava/lang/Object;ILjava/lang/Object;II)V"⟩ ∈ gT := gT_mem (i := 625) (by decide +kernel) (by decide +kernel)
theorem nat_copy : Cond.native ⟨"java/lang/System", "arraycopy", "(Ljava/lang/Object;ILjava/lang/Object;II)V"⟩ ∈ gT := gT_mem (i := 627) (by decide +kernel) (by decide +kernel)
theorem ml_J5_83 : Cond.methodLink RJ5 83 yJ5_isLatin1_aae02 ∈ gT := gT_mem (i := 628) (by decide +kernel) (by decide +kernel)
theorem im_yJ5_isLatin1_aae02 : Cond.instanceMethod yJ5_isLatin1_aae02 ∈ gT := gT_mem (i := 629) (by decide +kernel) (by decide +kernel)
theorem sm_J5_yJ5_isLatin1_aae02 : Cond.sameMethod RJ5 RJ5 "isLatin1" "()Z" ∈ gT := gT_mem (i := 630) (by decide +kernel) (by decide +kernel)
theorem se_J4_yJ5_isLatin1_aae02 : Cond.selects RJ4 yJ5_isLatin1_aae02 yJ5_isLatin1_aae02 ∈ gT := gT_mem (i := 631) (by decide +kernel) (by decide +kernel)
theorem cd_yJ5_isLatin1_aae02 : Cond.code yJ5_isLatin1_aae02 cJ5_isLatin1_aae02 1 (some FieldType.boolean) ∈ gT := gT_mem (i := 632) (by decide +kernel) (by decide +kernel)
theorem ml_J5_226 : Cond.methodLink RJ5 226 yJ2_putCharsAt_cd4e5 ∈ gT := gT_mem (i := 633) (by decide +kernel) (by decide +kernel)
theorem st_yJ2_putCharsAt_cd4e5 : Cond.static yJ2_putCharsAt_cd4e5 ∈ gT := gT_mem (i := 634) (by decide +kernel) (by decide +kernel)
theorem cd_yJ2_putCharsAt_cd4e5 : Cond.code yJ2_putCharsAt_cd4e5 cJ2_putCharsAt_cd4e5 7 (some FieldType.int) ∈ gT := gT_mem (i := 635) (by decide +kernel) (by decide +kernel)
theorem ml_J2_96 : Cond.methodLink RJ2 96 yJ2_checkBoundsBeginEnd_d044e ∈ gT := gT_mem (i := 636) (by decide +kernel) (by decide +kernel)
theorem st_yJ2_checkBoundsBeginEnd_d044e : Cond.static yJ2_checkBoundsBeginEnd_d044e ∈ gT := gT_mem (i := 637) (by decide +kernel) (by decide +kernel)
theorem cd_yJ2_checkBoundsBeginEnd_d044e : Cond.code yJ2_checkBoundsBeginEnd_d044e cJ2_checkBoundsBeginEnd_d044e 3 none ∈ gT := gT_mem (i := 638) (by decide +kernel) (by decide +kernel)
theorem ml_J2_241 : Cond.methodLink RJ2 241 yJ0_checkBoundsBeginEnd_23922 ∈ gT := gT_mem (i := 639) (by decide +kernel) (by decide +kernel)
theorem st_yJ0_checkBoundsBeginEnd_23922 : Cond.static yJ0_checkBoundsBeginEnd_23922 ∈ gT := gT_mem (i := 640) (by decide +kernel) (by decide +kernel)
theorem cd_yJ0_checkBoundsBeginEnd_23922 : Cond.code yJ0_checkBoundsBeginEnd_23922 cJ0_checkBoundsBeginEnd_23922 3 none ∈ gT := gT_mem (i := 641) (by decide +kernel) (by decide +kernel)
theorem ml_J0_1062 : Cond.methodLink RJ0 1062 yJ3_checkFromToIndex_8c36e ∈ gT := gT_mem (i := 642) (by decide +kernel) (by decide +kernel)
theorem st_yJ3_checkFromToIndex_8c36e : Cond.static yJ3_checkFromToIndex_8c36e ∈ gT := gT_mem (i := 643) (by decide +kernel) (by decide +kernel)
theorem cd_yJ3_checkFromToIndex_8c36e : Cond.code yJ3_checkFromToIndex_8c36e cJ3_checkFromToIndex_8c36e 4 (some FieldType.int) ∈ gT := gT_mem (i := 644) (by decide +kernel) (by decide +kernel)
theorem ml_J2_111 : Cond.methodLink RJ2 111 yJ2_putChar_b72d1 ∈ gT := gT_mem (i := 645) (by decide +kernel) (by decide +kernel)
theorem st_yJ2_putChar_b72d1 : Cond.static yJ2_putChar_b72d1 ∈ gT := gT_mem (i := 646) (by decide +kernel) (by decide +kernel)
theorem cd_yJ2_putChar_b72d1 : Cond.code yJ2_putChar_b72d1 cJ2_putChar_b72d1 3 none ∈ gT := gT_mem (i := 647) (by decide +kernel) (by decide +kernel)
theorem ml_J5_32 : Cond.methodLink RJ5 32 yJ0_length_8abf5 ∈ gT := gT_mem (i := 648) (by decide +kernel) (by decide +kernel)
theorem im_yJ0_length_8abf5 : Cond.instanceMethod yJ0_length_8abf5 ∈ gT := gT_mem (i := 649) (by decide +kernel) (by decide +kernel)
theorem se_yJ0_length_8abf5 : Cond.selects RJ0 yJ0_length_8abf5 yJ0_length_8abf5 ∈ gT := gT_mem (i := 650) (by decide +kernel) (by decide +kernel)
theorem cd_yJ0_length_8abf5 : Cond.code yJ0_length_8abf5 cJ0_length_8abf5 1 (some FieldType.int) ∈ gT := gT_mem (i := 651) (by decide +kernel) (by decide +kernel)
theorem ml_J0_335 : Cond.methodLink RJ0 335 yJ0_coder_7d493 ∈ gT := gT_mem (i := 652) (by decide +kernel) (by decide +kernel)
theorem im_yJ0_coder_7d493 : Cond.instanceMethod yJ0_coder_7d493 ∈ gT := gT_mem (i := 653) (by decide +kernel) (by decide +kernel)
theorem se_yJ0_coder_7d493 : Cond.selects RJ0 yJ0_coder_7d493 yJ0_coder_7d493 ∈ gT := gT_mem (i := 654) (by decide +kernel) (by decide +kernel)
theorem cd_yJ0_coder_7d493 : Cond.code yJ0_coder_7d493 cJ0_coder_7d493 1 (some FieldType.byte) ∈ gT := gT_mem (i := 655) (by decide +kernel) (by decide +kernel)
theorem ml_J5_208 : Cond.methodLink RJ5 208 yJ5_putStringAt_47b60 ∈ gT := gT_mem (i := 656) (by decide +kernel) (by decide +kernel)
theorem im_yJ5_putStringAt_47b60 : Cond.instanceMethod yJ5_putStringAt_47b60 ∈ gT := gT_mem (i := 658) (by decide +kernel) (by decide +kernel)
theorem cd_yJ5_putStringAt_47b60 : Cond.code yJ5_putStringAt_47b60 cJ5_putStringAt_47b60 3 none ∈ gT := gT_mem (i := 659) (by decide +kernel) (by decide +kernel)
theorem ml_J5_397 : Cond.methodLink RJ5 397 yJ5_inflateIfNeededFor_a7421 ∈ gT := gT_mem (i := 660) (by decide +kernel) (by decide +kernel)
theorem im_yJ5_inflateIfNeededFor_a7421 : Cond.instanceMethod yJ5_inflateIfNeededFor_a7421 ∈ gT := gT_mem (i := 662) (by decide +kernel) (by decide +kernel)
theorem cd_yJ5_inflateIfNeededFor_a7421 : Cond.code yJ5_inflateIfNeededFor_a7421 cJ5_inflateIfNeededFor_a7421 2 none ∈ gT := gT_mem (i := 663) (by decide +kernel) (by decide +kernel)
theorem ml_J5_40 : Cond.methodLink RJ5 40 yJ0_coder_7d493 ∈ gT := gT_mem (i := 664) (by decide +kernel) (by decide +kernel)
theorem ml_J5_195 : Cond.methodLink RJ5 195 yJ5_inflate_da8c8 ∈ gT := gT_mem (i := 665) (by decide +kernel) (by decide +kernel)
theorem im_yJ5_inflate_da8c8 : Cond.instanceMethod yJ5_inflate_da8c8 ∈ gT := gT_mem (i := 667) (by decide +kernel) (by decide +kernel)
theorem cd_yJ5_inflate_da8c8 : Cond.code yJ5_inflate_da8c8 cJ5_inflate_da8c8 2 none ∈ gT := gT_mem (i := 668) (by decide +kernel) (by decide +kernel)
theorem ml_J5_125 : Cond.methodLink RJ5 125 yJ1_inflate_0e8fd ∈ gT := gT_mem (i := 669) (by decide +kernel) (by decide +kernel)
theorem st_yJ1_inflate_0e8fd : Cond.static yJ1_inflate_0e8fd ∈ gT := gT_mem (i := 670) (by decide +kernel) (by decide +kernel)
theorem cd_yJ1_inflate_0e8fd : Cond.code yJ1_inflate_0e8fd cJ1_inflate_0e8fd 5 none ∈ gT := gT_mem (i := 671) (by decide +kernel) (by decide +kernel)
theorem ml_J1_240 : Cond.methodLink RJ1 240 yJ2_inflate_0e8fd ∈ gT := gT_mem (i := 672) (by decide +kernel) (by decide +kernel)
theorem st_yJ2_inflate_0e8fd : Cond.static yJ2_inflate_0e8fd ∈ gT := gT_mem (i := 673) (by decide +kernel) (by decide +kernel)
theorem cd_yJ2_inflate_0e8fd : Cond.code yJ2_inflate_0e8fd cJ2_inflate_0e8fd 6 none ∈ gT := gT_mem (i := 674) (by decide +kernel) (by decide +kernel)
theorem ml_J2_173 : Cond.methodLink RJ2 173 yJ2_checkBoundsOffCount_d044e ∈ gT := gT_mem (i := 675) (by decide +kernel) (by decide +kernel)
theorem st_yJ2_checkBoundsOffCount_d044e : Cond.static yJ2_checkBoundsOffCount_d044e ∈ gT := gT_mem (i := 676) (by decide +kernel) (by decide +kernel)
theorem cd_yJ2_checkBoundsOffCount_d044e : Cond.code yJ2_checkBoundsOffCount_d044e cJ2_checkBoundsOffCount_d044e 3 none ∈ gT := gT_mem (i := 677) (by decide +kernel) (by decide +kernel)
theorem ml_J2_419 : Cond.methodLink RJ2 419 yJ0_checkBoundsOffCount_cabcc ∈ gT := gT_mem (i := 678) (by decide +kernel) (by decide +kernel)
theorem st_yJ0_checkBoundsOffCount_cabcc : Cond.static yJ0_checkBoundsOffCount_cabcc ∈ gT := gT_mem (i := 679) (by decide +kernel) (by decide +kernel)
theorem cd_yJ0_checkBoundsOffCount_cabcc : Cond.code yJ0_checkBoundsOffCount_cabcc cJ0_checkBoundsOffCount_cabcc 3 (some FieldType.int) ∈ gT := gT_mem (i := 680) (by decide +kernel) (by decide +kernel)
theorem ml_J0_1065 : Cond.methodLink RJ0 1065 yJ3_checkFromIndexSize_8c36e ∈ gT := gT_mem (i := 681) (by decide +kernel) (by decide +kernel)
theorem st_yJ3_checkFromIndexSize_8c36e : Cond.static yJ3_checkFromIndexSize_8c36e ∈ gT := gT_mem (i := 682) (by decide +kernel) (by decide +kernel)
theorem cd_yJ3_checkFromIndexSize_8c36e : Cond.code yJ3_checkFromIndexSize_8c36e cJ3_checkFromIndexSize_8c36e 4 (some FieldType.int) ∈ gT := gT_mem (i := 683) (by decide +kernel) (by decide +kernel)
theorem ml_J5_399 : Cond.methodLink RJ5 399 yJ0_getBytes_840e7 ∈ gT := gT_mem (i := 684) (by decide +kernel) (by decide +kernel)
theorem im_yJ0_getBytes_840e7 : Cond.instanceMethod yJ0_getBytes_840e7 ∈ gT := gT_mem (i := 685) (by decide +kernel) (by decide +kernel)
theorem se_yJ0_getBytes_840e7 : Cond.selects RJ0 yJ0_getBytes_840e7 yJ0_getBytes_840e7 ∈ gT := gT_mem (i := 686) (by decide +kernel) (by decide +kernel)
theorem cd_yJ0_getBytes_840e7 : Cond.code yJ0_getBytes_840e7 cJ0_getBytes_840e7 4 none ∈ gT := gT_mem (i := 687) (by decide +kernel) (by decide +kernel)
theorem ml_J0_212 : Cond.methodLink RJ0 212 ⟨"java/lang/System", "arraycopy", "(Ljava/lang/Object;ILjava/lang/Object;II)V"⟩ ∈ gT := gT_mem (i := 688) (by decide +kernel) (by decide +kernel)
theorem ml_J0_106 : Cond.methodLink RJ0 106 yJ1_inflate_0e8fd ∈ gT := gT_mem (i := 689) (by decide +kernel) (by decide +kernel)
theorem ml_L_76 : Cond.methodLink RL 76 yX5_cellOf ∈ gT := gT_mem (i := 690) (by decide +kernel) (by decide +kernel)
theorem im_yX5_cellOf : Cond.instanceMethod yX5_cellOf ∈ gT := gT_mem (i := 691) (by decide +kernel) (by decide +kernel)
theorem se_yX5_cellOf : Cond.selects RX5 yX5_cellOf yX5_cellOf ∈ gT := gT_mem (i := 692) (by decide +kernel) (by decide +kernel)
theorem cd_yX5_cellOf : Cond.code yX5_cellOf cX5_cellOf 5 (some FieldType.int) ∈ gT := gT_mem (i := 693) (by decide +kernel) (by decide +kernel)
theorem cl_X5_110 : Cond.classLink RX5 110 "java/util/NoSuchElementException" ∈ gT := gT_mem (i := 694) (by decide +kernel) (by decide +kernel)
theorem ml_X5_114 : Cond.methodLink RX5 114 ⟨"java/util/NoSuchElementException", "<init>", "(Ljava/lang/String;)V"⟩ ∈ gT := gT_mem (i := 704) (by decide +kernel) (by decide +kernel)
theorem ml_X5_194 : Cond.methodLink RX5 194 yX4_cellAt ∈ gT := gT_mem (i := 710) (by decide +kernel) (by decide +kernel)
theorem im_yX4_cellAt : Cond.instanceMethod yX4_cellAt ∈ gT := gT_mem (i := 711) (by decide +kernel) (by decide +kernel)
theorem se_yX4_cellAt : Cond.selects RX4 yX4_cellAt yX4_cellAt ∈ gT := gT_mem (i := 712) (by decide +kernel) (by decide +kernel)
theorem cd_yX4_cellAt : Cond.code yX4_cellAt cX4_cellAt 3 (some FieldType.int) ∈ gT := gT_mem (i := 713) (by decide +kernel) (by decide +kernel)
theorem ml_L_66 : Cond.methodLink RL 66 yJ4_append_cf468 ∈ gT := gT_mem (i := 714) (by decide +kernel) (by decide +kernel)
theorem im_yJ4_append_cf468 : Cond.instanceMethod yJ4_append_cf468 ∈ gT := gT_mem (i := 715) (by decide +kernel) (by decide +kernel)
theorem se_yJ4_append_cf468 : Cond.selects RJ4 yJ4_append_cf468 yJ4_append_cf468 ∈ gT := gT_mem (i := 716) (by decide +kernel) (by decide +kernel)
theorem cd_yJ4_append_cf468 : Cond.code yJ4_append_cf468 cJ4_append_cf468 2 (some (FieldType.object "java/lang/StringBuilder")) ∈ gT := gT_mem (i := 717) (by decide +kernel) (by decide +kernel)
theorem ml_J4_50 : Cond.methodLink RJ4 50 yJ5_append_3fe6f ∈ gT := gT_mem (i := 718) (by decide +kernel) (by decide +kernel)
theorem im_yJ5_append_3fe6f : Cond.instanceMethod yJ5_append_3fe6f ∈ gT := gT_mem (i := 719) (by decide +kernel) (by decide +kernel)
theorem cd_yJ5_append_3fe6f : Cond.code yJ5_append_3fe6f cJ5_append_3fe6f 2 (some (FieldType.object "java/lang/AbstractStringBuilder")) ∈ gT := gT_mem (i := 720) (by decide +kernel) (by decide +kernel)
theorem ml_J5_191 : Cond.methodLink RJ5 191 yJ1_canEncode_fc78d ∈ gT := gT_mem (i := 721) (by decide +kernel) (by decide +kernel)
theorem st_yJ1_canEncode_fc78d : Cond.static yJ1_canEncode_fc78d ∈ gT := gT_mem (i := 722) (by decide +kernel) (by decide +kernel)
theorem cd_yJ1_canEncode_fc78d : Cond.code yJ1_canEncode_fc78d cJ1_canEncode_fc78d 1 (some FieldType.boolean) ∈ gT := gT_mem (i := 723) (by decide +kernel) (by decide +kernel)
theorem ml_J5_197 : Cond.methodLink RJ5 197 yJ2_putCharSB_b72d1 ∈ gT := gT_mem (i := 724) (by decide +kernel) (by decide +kernel)
theorem st_yJ2_putCharSB_b72d1 : Cond.static yJ2_putCharSB_b72d1 ∈ gT := gT_mem (i := 725) (by decide +kernel) (by decide +kernel)
theorem cd_yJ2_putCharSB_b72d1 : Cond.code yJ2_putCharSB_b72d1 cJ2_putCharSB_b72d1 3 none ∈ gT := gT_mem (i := 726) (by decide +kernel) (by decide +kernel)
theorem ml_L_69 : Cond.methodLink RL 69 yJ4_toString_0e30d ∈ gT := gT_mem (i := 727) (by decide +kernel) (by decide +kernel)
theorem im_yJ4_toString_0e30d : Cond.instanceMethod yJ4_toString_0e30d ∈ gT := gT_mem (i := 728) (by decide +kernel) (by decide +kernel)
theorem se_yJ4_toString_0e30d : Cond.selects RJ4 yJ4_toString_0e30d yJ4_toString_0e30d ∈ gT := gT_mem (i := 729) (by decide +kernel) (by decide +kernel)
theorem cd_yJ4_toString_0e30d : Cond.code yJ4_toString_0e30d cJ4_toString_0e30d 1 (some (FieldType.object "java/lang/String")) ∈ gT := gT_mem (i := 730) (by decide +kernel) (by decide +kernel)
theorem cl_J4_18 : Cond.classLink RJ4 18 RJ0 ∈ gT := gT_mem (i := 731) (by decide +kernel) (by decide +kernel)
theorem ins_J0 : Cond.instantiable RJ0 4 ∈ gT := gT_mem (i := 732) (by decide +kernel) (by decide +kernel)
theorem ml_J4_137 : Cond.methodLink RJ4 137 yJ0_init_81219 ∈ gT := gT_mem (i := 733) (by decide +kernel) (by decide +kernel)
theorem im_yJ0_init_81219 : Cond.instanceMethod yJ0_init_81219 ∈ gT := gT_mem (i := 734) (by decide +kernel) (by decide +kernel)
theorem cd_yJ0_init_81219 : Cond.code yJ0_init_81219 cJ0_init_81219 2 none ∈ gT := gT_mem (i := 735) (by decide +kernel) (by decide +kernel)
theorem ml_J0_489 : Cond.methodLink RJ0 489 yJ0_init_db425 ∈ gT := gT_mem (i := 736) (by decide +kernel) (by decide +kernel)
theorem im_yJ0_init_db425 : Cond.instanceMethod yJ0_init_db425 ∈ gT := gT_mem (i := 737) (by decide +kernel) (by decide +kernel)
theorem cd_yJ0_init_db425 : Cond.code yJ0_init_db425 cJ0_init_db425 5 none ∈ gT := gT_mem (i := 738) (by decide +kernel) (by decide +kernel)
theorem ml_J0_1 : Cond.methodLink RJ0 1 ⟨"java/lang/Object", "<init>", "()V"⟩ ∈ gT := gT_mem (i := 739) (by decide +kernel) (by decide +kernel)
theorem ml_J0_552 : Cond.methodLink RJ0 552 yJ5_getValue_6d5f1 ∈ gT := gT_mem (i := 740) (by decide +kernel) (by decide +kernel)
theorem im_yJ5_getValue_6d5f1 : Cond.instanceMethod yJ5_getValue_6d5f1 ∈ gT := gT_mem (i := 741) (by decide +kernel) (by decide +kernel)
theorem sm_J5_yJ5_getValue_6d5f1 : Cond.sameMethod RJ5 RJ5 "getValue" "()[B" ∈ gT := gT_mem (i := 742) (by decide +kernel) (by decide +kernel)
theorem se_J4_yJ5_getValue_6d5f1 : Cond.selects RJ4 yJ5_getValue_6d5f1 yJ5_getValue_6d5f1 ∈ gT := gT_mem (i := 743) (by decide +kernel) (by decide +kernel)
theorem cd_yJ5_getValue_6d5f1 : Cond.code yJ5_getValue_6d5f1 cJ5_getValue_6d5f1 1 (some (FieldType.array FieldType.byte)) ∈ gT := gT_mem (i := 744) (by decide +kernel) (by decide +kernel)
theorem ml_J0_549 : Cond.methodLink RJ0 549 yJ5_length_8abf5 ∈ gT := gT_mem (i := 745) (by decide +kernel) (by decide +kernel)
theorem im_yJ5_length_8abf5 : Cond.instanceMethod yJ5_length_8abf5 ∈ gT := gT_mem (i := 746) (by decide +kernel) (by decide +kernel)
theorem sm_J5_yJ5_length_8abf5 : Cond.sameMethod RJ5 RJ5 "length" "()I" ∈ gT := gT_mem (i := 747) (by decide +kernel) (by decide +kernel)
theorem se_J4_yJ5_length_8abf5 : Cond.selects RJ4 yJ5_length_8abf5 yJ4_length_8abf5 ∈ gT := gT_mem (i := 748) (by decide +kernel) (by decide +kernel)
theorem im_yJ4_length_8abf5 : Cond.instanceMethod yJ4_length_8abf5 ∈ gT := gT_mem (i := 749) (by decide +kernel) (by decide +kernel)
theorem cd_yJ4_length_8abf5 : Cond.code yJ4_length_8abf5 cJ4_length_8abf5 1 (some FieldType.int) ∈ gT := gT_mem (i := 750) (by decide +kernel) (by decide +kernel)
theorem ml_J4_343 : Cond.methodLink RJ4 343 yJ5_length_8abf5 ∈ gT := gT_mem (i := 751) (by decide +kernel) (by decide +kernel)
theorem cd_yJ5_length_8abf5 : Cond.code yJ5_length_8abf5 cJ5_length_8abf5 1 (some FieldType.int) ∈ gT := gT_mem (i := 752) (by decide +kernel) (by decide +kernel)
theorem ml_J0_1047 : Cond.methodLink RJ0 1047 yJ5_isLatin1_aae02 ∈ gT := gT_mem (i := 753) (by decide +kernel) (by decide +kernel)
theorem ml_J0_54 : Cond.methodLink RJ0 54 yJ7_copyOfRange_39247 ∈ gT := gT_mem (i := 754) (by decide +kernel) (by decide +kernel)
theorem st_yJ7_copyOfRange_39247 : Cond.static yJ7_copyOfRange_39247 ∈ gT := gT_mem (i := 755) (by decide +kernel) (by decide +kernel)
theorem cd_yJ7_copyOfRange_39247 : Cond.code yJ7_copyOfRange_39247 cJ7_copyOfRange_39247 3 (some (FieldType.array FieldType.byte)) ∈ gT := gT_mem (i := 756) (by decide +kernel) (by decide +kernel)
theorem ml_J7_339 : Cond.methodLink RJ7 339 yJ7_copyOfRangeByte_39247 ∈ gT := gT_mem (i := 757) (by decide +kernel) (by decide +kernel)
theorem st_yJ7_copyOfRangeByte_39247 : Cond.static yJ7_copyOfRangeByte_39247 ∈ gT := gT_mem (i := 758) (by decide +kernel) (by decide +kernel)
theorem cd_yJ7_copyOfRangeByte_39247 : Cond.code yJ7_copyOfRangeByte_39247 cJ7_copyOfRangeByte_39247 5 (some (FieldType.array FieldType.byte)) ∈ gT := gT_mem (i := 759) (by decide +kernel) (by decide +kernel)
theorem ml_J7_343 : Cond.methodLink RJ7 343 yJ7_checkLength_df160 ∈ gT := gT_mem (i := 760) (by decide +kernel) (by decide +kernel)
theorem st_yJ7_checkLength_df160 : Cond.static yJ7_checkLength_df160 ∈ gT := gT_mem (i := 761) (by decide +kernel) (by decide +kernel)
theorem cd_yJ7_checkLength_df160 : Cond.code yJ7_checkLength_df160 cJ7_checkLength_df160 2 none ∈ gT := gT_mem (i := 762) (by decide +kernel) (by decide +kernel)
theorem ml_J0_1051 : Cond.methodLink RJ0 1051 yJ2_compress_39247 ∈ gT := gT_mem (i := 763) (by decide +kernel) (by decide +kernel)
theorem st_yJ2_compress_39247 : Cond.static yJ2_compress_39247 ∈ gT := gT_mem (i := 764) (by decide +kernel) (by decide +kernel)
theorem cd_yJ2_compress_39247 : Cond.code yJ2_compress_39247 cJ2_compress_39247 6 (some (FieldType.array FieldType.byte)) ∈ gT := gT_mem (i := 765) (by decide +kernel) (by decide +kernel)
theorem ml_J2_123 : Cond.methodLink RJ2 123 yJ2_compress_5af95 ∈ gT := gT_mem (i := 766) (by decide +kernel) (by decide +kernel)
theorem st_yJ2_compress_5af95 : Cond.static yJ2_compress_5af95 ∈ gT := gT_mem (i := 767) (by decide +kernel) (by decide +kernel)
theorem cd_yJ2_compress_5af95 : Cond.code yJ2_compress_5af95 cJ2_compress_5af95 7 (some FieldType.int) ∈ gT := gT_mem (i := 768) (by decide +kernel) (by decide +kernel)
theorem ml_J2_126 : Cond.methodLink RJ2 126 yJ7_copyOfRange_39247 ∈ gT := gT_mem (i := 769) (by decide +kernel) (by decide +kernel)
theorem ml_J0_47 : Cond.methodLink RJ0 47 yJ2_coderFromArrayLen_85cad ∈ gT := gT_mem (i := 770) (by decide +kernel) (by decide +kernel)
theorem st_yJ2_coderFromArrayLen_85cad : Cond.static yJ2_coderFromArrayLen_85cad ∈ gT := gT_mem (i := 771) (by decide +kernel) (by decide +kernel)
theorem cd_yJ2_coderFromArrayLen_85cad : Cond.code yJ2_coderFromArrayLen_85cad cJ2_coderFromArrayLen_85cad 2 (some FieldType.byte) ∈ gT := gT_mem (i := 772) (by decide +kernel) (by decide +kernel)
theorem fl_J0_9 : Cond.fieldLink RJ0 9 "java/lang/String" "value" "[B" ∈ gT := gT_mem (i := 773) (by decide +kernel) (by decide +kernel)
theorem fl_J0_15 : Cond.fieldLink RJ0 15 "java/lang/String" "coder" "B" ∈ gT := gT_mem (i := 774) (by decide +kernel) (by decide +kernel)
theorem su_J0 : Cond.superclass RJ0 "java/lang/Object" ∈ gT := gT_mem (i := 783) (by decide +kernel) (by decide +kernel)
theorem ml_L_97 : Cond.methodLink RL 97 yL_areAlike ∈ gT := gT_mem (i := 784) (by decide +kernel) (by decide +kernel)
theorem st_yL_areAlike : Cond.static yL_areAlike ∈ gT := gT_mem (i := 785) (by decide +kernel) (by decide +kernel)
theorem cd_yL_areAlike : Cond.code yL_areAlike cL_areAlike 4 (some FieldType.boolean) ∈ gT := gT_mem (i := 786) (by decide +kernel) (by decide +kernel)
theorem ml_L_79 : Cond.methodLink RL 79 yJ0_length_8abf5 ∈ gT := gT_mem (i := 787) (by decide +kernel) (by decide +kernel)
theorem ml_L_164 : Cond.methodLink RL 164 yL_isSet ∈ gT := gT_mem (i := 788) (by decide +kernel) (by decide +kernel)
theorem st_yL_isSet : Cond.static yL_isSet ∈ gT := gT_mem (i := 789) (by decide +kernel) (by decide +kernel)
theorem cd_yL_isSet : Cond.code yL_isSet cL_isSet 9 (some FieldType.boolean) ∈ gT := gT_mem (i := 790) (by decide +kernel) (by decide +kernel)
theorem ml_L_81 : Cond.methodLink RL 81 yX5_lines ∈ gT := gT_mem (i := 791) (by decide +kernel) (by decide +kernel)
theorem im_yX5_lines : Cond.instanceMethod yX5_lines ∈ gT := gT_mem (i := 792) (by decide +kernel) (by decide +kernel)
theorem se_yX5_lines : Cond.selects RX5 yX5_lines yX5_lines ∈ gT := gT_mem (i := 793) (by decide +kernel) (by decide +kernel)
theorem cd_yX5_lines : Cond.code yX5_lines cX5_lines 2 (some FieldType.int) ∈ gT := gT_mem (i := 794) (by decide +kernel) (by decide +kernel)
theorem ml_X5_197 : Cond.methodLink RX5 197 yX4_lineCount ∈ gT := gT_mem (i := 795) (by decide +kernel) (by decide +kernel)
theorem im_yX4_lineCount : Cond.instanceMethod yX4_lineCount ∈ gT := gT_mem (i := 796) (by decide +kernel) (by decide +kernel)
theorem se_yX4_lineCount : Cond.selects RX4 yX4_lineCount yX4_lineCount ∈ gT := gT_mem (i := 797) (by decide +kernel) (by decide +kernel)
theorem cd_yX4_lineCount : Cond.code yX4_lineCount cX4_lineCount 1 (some FieldType.int) ∈ gT := gT_mem (i := 798) (by decide +kernel) (by decide +kernel)
theorem ml_L_84 : Cond.methodLink RL 84 yL_line ∈ gT := gT_mem (i := 799) (by decide +kernel) (by decide +kernel)
theorem st_yL_line : Cond.static yL_line ∈ gT := gT_mem (i := 800) (by decide +kernel) (by decide +kernel)
theorem cw_yL_line : Cond.codeWith yL_line cL_line 5 (some (FieldType.object "java/lang/String")) [(3, 47, 48, 44)] ∈ gT := gT_mem (i := 801) (by decide +kernel) (by decide +kernel)
theorem cl_L_44 : Cond.classLink RL 44 "java/util/NoSuchElementException" ∈ gT := gT_mem (i := 802) (by decide +kernel) (by decide +kernel)
theorem ml_L_63 : Cond.methodLink RL 63 yX5_lineAt ∈ gT := gT_mem (i := 803) (by decide +kernel) (by decide +kernel)
theorem im_yX5_lineAt : Cond.instanceMethod yX5_lineAt ∈ gT := gT_mem (i := 804) (by decide +kernel) (by decide +kernel)
theorem se_yX5_lineAt : Cond.selects RX5 yX5_lineAt yX5_lineAt ∈ gT := gT_mem (i := 805) (by decide +kernel) (by decide +kernel)
theorem cd_yX5_lineAt : Cond.code yX5_lineAt cX5_lineAt 5 (some FieldType.int) ∈ gT := gT_mem (i := 806) (by decide +kernel) (by decide +kernel)
theorem ml_X5_202 : Cond.methodLink RX5 202 yX4_lineSize ∈ gT := gT_mem (i := 808) (by decide +kernel) (by decide +kernel)
theorem im_yX4_lineSize : Cond.instanceMethod yX4_lineSize ∈ gT := gT_mem (i := 809) (by decide +kernel) (by decide +kernel)
theorem se_yX4_lineSize : Cond.selects RX4 yX4_lineSize yX4_lineSize ∈ gT := gT_mem (i := 810) (by decide +kernel) (by decide +kernel)
theorem cd_yX4_lineSize : Cond.code yX4_lineSize cX4_lineSize 2 (some FieldType.int) ∈ gT := gT_mem (i := 811) (by decide +kernel) (by decide +kernel)
theorem ml_X5_207 : Cond.methodLink RX5 207 yX4_laidCellAt ∈ gT := gT_mem (i := 813) (by decide +kernel) (by decide +kernel)
theorem im_yX4_laidCellAt : Cond.instanceMethod yX4_laidCellAt ∈ gT := gT_mem (i := 814) (by decide +kernel) (by decide +kernel)
theorem se_yX4_laidCellAt : Cond.selects RX4 yX4_laidCellAt yX4_laidCellAt ∈ gT := gT_mem (i := 815) (by decide +kernel) (by decide +kernel)
theorem cd_yX4_laidCellAt : Cond.code yX4_laidCellAt cX4_laidCellAt 3 (some FieldType.int) ∈ gT := gT_mem (i := 816) (by decide +kernel) (by decide +kernel)
theorem ml_L_94 : Cond.methodLink RL 94 yX5_lineOf ∈ gT := gT_mem (i := 817) (by decide +kernel) (by decide +kernel)
theorem im_yX5_lineOf : Cond.instanceMethod yX5_lineOf ∈ gT := gT_mem (i := 818) (by decide +kernel) (by decide +kernel)
theorem se_yX5_lineOf : Cond.selects RX5 yX5_lineOf yX5_lineOf ∈ gT := gT_mem (i := 819) (by decide +kernel) (by decide +kernel)
theorem cd_yX5_lineOf : Cond.code yX5_lineOf cX5_lineOf 3 (some FieldType.int) ∈ gT := gT_mem (i := 820) (by decide +kernel) (by decide +kernel)
theorem ml_X5_210 : Cond.methodLink RX5 210 yX4_firstLineOf ∈ gT := gT_mem (i := 821) (by decide +kernel) (by decide +kernel)
theorem im_yX4_firstLineOf : Cond.instanceMethod yX4_firstLineOf ∈ gT := gT_mem (i := 822) (by decide +kernel) (by decide +kernel)
theorem se_yX4_firstLineOf : Cond.selects RX4 yX4_firstLineOf yX4_firstLineOf ∈ gT := gT_mem (i := 823) (by decide +kernel) (by decide +kernel)
theorem cd_yX4_firstLineOf : Cond.code yX4_firstLineOf cX4_firstLineOf 2 (some FieldType.int) ∈ gT := gT_mem (i := 824) (by decide +kernel) (by decide +kernel)
theorem ml_L_160 : Cond.methodLink RL 160 yL_acts ∈ gT := gT_mem (i := 825) (by decide +kernel) (by decide +kernel)
theorem st_yL_acts : Cond.static yL_acts ∈ gT := gT_mem (i := 826) (by decide +kernel) (by decide +kernel)
theorem cd_yL_acts : Cond.code yL_acts cL_acts 9 (some FieldType.boolean) ∈ gT := gT_mem (i := 827) (by decide +kernel) (by decide +kernel)
theorem ml_L_110 : Cond.methodLink RL 110 yJ9_max_7cf53 ∈ gT := gT_mem (i := 828) (by decide +kernel) (by decide +kernel)
theorem ml_L_119 : Cond.methodLink RL 119 yL_rule ∈ gT := gT_mem (i := 829) (by decide +kernel) (by decide +kernel)
theorem st_yL_rule : Cond.static yL_rule ∈ gT := gT_mem (i := 830) (by decide +kernel) (by decide +kernel)
theorem cw_yL_rule : Cond.codeWith yL_rule cL_rule 5 (some FieldType.int) [(0, 7, 8, 37), (0, 7, 12, 39)] ∈ gT := gT_mem (i := 831) (by decide +kernel) (by decide +kernel)
theorem cl_L_37 : Cond.classLink RL 37 "java/lang/UnsupportedOperationException" ∈ gT := gT_mem (i := 832) (by decide +kernel) (by decide +kernel)
theorem cl_L_39 : Cond.classLink RL 39 "java/lang/IllegalStateException" ∈ gT := gT_mem (i := 833) (by decide +kernel) (by decide +kernel)
theorem ml_L_33 : Cond.methodLink RL 33 yX5_addRule ∈ gT := gT_mem (i := 834) (by decide +kernel) (by decide +kernel)
theorem im_yX5_addRule : Cond.instanceMethod yX5_addRule ∈ gT := gT_mem (i := 835) (by decide +kernel) (by decide +kernel)
theorem se_yX5_addRule : Cond.selects RX5 yX5_addRule yX5_addRule ∈ gT := gT_mem (i := 836) (by decide +kernel) (by decide +kernel)
theorem cd_yX5_addRule : Cond.code yX5_addRule cX5_addRule 6 (some FieldType.int) ∈ gT := gT_mem (i := 837) (by decide +kernel) (by decide +kernel)
theorem ml_X5_80 : Cond.methodLink RX5 80 yX5_typedKey ∈ gT := gT_mem (i := 838) (by decide +kernel) (by decide +kernel)
theorem im_yX5_typedKey : Cond.instanceMethod yX5_typedKey ∈ gT := gT_mem (i := 840) (by decide +kernel) (by decide +kernel)
theorem cd_yX5_typedKey : Cond.code yX5_typedKey cX5_typedKey 1 (some FieldType.int) ∈ gT := gT_mem (i := 841) (by decide +kernel) (by decide +kernel)
theorem ml_X5_138 : Cond.methodLink RX5 138 yX2_placeOf ∈ gT := gT_mem (i := 842) (by decide +kernel) (by decide +kernel)
theorem ml_X5_286 : Cond.methodLink RX5 286 yX3_keyOf ∈ gT := gT_mem (i := 843) (by decide +kernel) (by decide +kernel)
theorem ml_X5_83 : Cond.methodLink RX5 83 yX5_isRule ∈ gT := gT_mem (i := 844) (by decide +kernel) (by decide +kernel)
theorem st_yX5_isRule : Cond.static yX5_isRule ∈ gT := gT_mem (i := 845) (by decide +kernel) (by decide +kernel)
theorem cd_yX5_isRule : Cond.code yX5_isRule cX5_isRule 3 (some FieldType.boolean) ∈ gT := gT_mem (i := 846) (by decide +kernel) (by decide +kernel)
theorem ml_X5_89 : Cond.methodLink RX5 89 yX3_isFull ∈ gT := gT_mem (i := 848) (by decide +kernel) (by decide +kernel)
theorem im_yX3_isFull : Cond.instanceMethod yX3_isFull ∈ gT := gT_mem (i := 849) (by decide +kernel) (by decide +kernel)
theorem se_yX3_isFull : Cond.selects RX3 yX3_isFull yX3_isFull ∈ gT := gT_mem (i := 850) (by decide +kernel) (by decide +kernel)
theorem cd_yX3_isFull : Cond.code yX3_isFull cX3_isFull 1 (some FieldType.boolean) ∈ gT := gT_mem (i := 851) (by decide +kernel) (by decide +kernel)
theorem ml_X3_46 : Cond.methodLink RX3 46 yX2_isFull ∈ gT := gT_mem (i := 852) (by decide +kernel) (by decide +kernel)
theorem ml_X5_92 : Cond.methodLink RX5 92 yX3_placeOf ∈ gT := gT_mem (i := 854) (by decide +kernel) (by decide +kernel)
theorem im_yX3_placeOf : Cond.instanceMethod yX3_placeOf ∈ gT := gT_mem (i := 855) (by decide +kernel) (by decide +kernel)
theorem se_yX3_placeOf : Cond.selects RX3 yX3_placeOf yX3_placeOf ∈ gT := gT_mem (i := 856) (by decide +kernel) (by decide +kernel)
theorem cd_yX3_placeOf : Cond.code yX3_placeOf cX3_placeOf 2 (some FieldType.int) ∈ gT := gT_mem (i := 857) (by decide +kernel) (by decide +kernel)
theorem cl_X5_96 : Cond.classLink RX5 96 "java/lang/UnsupportedOperationException" ∈ gT := gT_mem (i := 858) (by decide +kernel) (by decide +kernel)
theorem ml_X5_100 : Cond.methodLink RX5 100 ⟨"java/lang/UnsupportedOperationException", "<init>", "(Ljava/lang/String;)V"⟩ ∈ gT := gT_mem (i := 868) (by decide +kernel) (by decide +kernel)
theorem ml_X5_101 : Cond.methodLink RX5 101 yX3_insert ∈ gT := gT_mem (i := 874) (by decide +kernel) (by decide +kernel)
theorem im_yX3_insert : Cond.instanceMethod yX3_insert ∈ gT := gT_mem (i := 875) (by decide +kernel) (by decide +kernel)
theorem se_yX3_insert : Cond.selects RX3 yX3_insert yX3_insert ∈ gT := gT_mem (i := 876) (by decide +kernel) (by decide +kernel)
theorem cd_yX3_insert : Cond.code yX3_insert cX3_insert 7 (some FieldType.int) ∈ gT := gT_mem (i := 877) (by decide +kernel) (by decide +kernel)
theorem ml_X3_53 : Cond.methodLink RX3 53 yX2_insert ∈ gT := gT_mem (i := 878) (by decide +kernel) (by decide +kernel)
theorem im_yX2_insert : Cond.instanceMethod yX2_insert ∈ gT := gT_mem (i := 879) (by decide +kernel) (by decide +kernel)
theorem se_yX2_insert : Cond.selects RX2 yX2_insert yX2_insert ∈ gT := gT_mem (i := 880) (by decide +kernel) (by decide +kernel)
theorem cd_yX2_insert : Cond.code yX2_insert cX2_insert 3 none ∈ gT := gT_mem (i := 881) (by decide +kernel) (by decide +kernel)
theorem ml_X2_19 : Cond.methodLink RX2 19 ⟨"java/lang/System", "arraycopy", "(Ljava/lang/Object;ILjava/lang/Object;II)V"⟩ ∈ gT := gT_mem (i := 882) (by decide +kernel) (by decide +kernel)
theorem ml_X5_105 : Cond.methodLink RX5 105 yX5_translateTexts ∈ gT := gT_mem (i := 883) (by decide +kernel) (by decide +kernel)
theorem im_yX5_translateTexts : Cond.instanceMethod yX5_translateTexts ∈ gT := gT_mem (i := 885) (by decide +kernel) (by decide +kernel)
theorem cd_yX5_translateTexts : Cond.code yX5_translateTexts cX5_translateTexts 6 (some FieldType.int) ∈ gT := gT_mem (i := 886) (by decide +kernel) (by decide +kernel)
theorem ml_L_123 : Cond.methodLink RL 123 yL_mend ∈ gT := gT_mem (i := 887) (by decide +kernel) (by decide +kernel)
theorem st_yL_mend : Cond.static yL_mend ∈ gT := gT_mem (i := 888) (by decide +kernel) (by decide +kernel)
theorem cw_yL_mend : Cond.codeWith yL_mend cL_mend 5 (some FieldType.int) [(0, 7, 8, 44)] ∈ gT := gT_mem (i := 889) (by decide +kernel) (by decide +kernel)
theorem ml_L_41 : Cond.methodLink RL 41 yX5_mend ∈ gT := gT_mem (i := 890) (by decide +kernel) (by decide +kernel)
theorem im_yX5_mend : Cond.instanceMethod yX5_mend ∈ gT := gT_mem (i := 891) (by decide +kernel) (by decide +kernel)
theorem se_yX5_mend : Cond.selects RX5 yX5_mend yX5_mend ∈ gT := gT_mem (i := 892) (by decide +kernel) (by decide +kernel)
theorem cd_yX5_mend : Cond.code yX5_mend cX5_mend 5 (some FieldType.int) ∈ gT := gT_mem (i := 893) (by decide +kernel) (by decide +kernel)
theorem ml_X5_115 : Cond.methodLink RX5 115 yX3_alter ∈ gT := gT_mem (i := 896) (by decide +kernel) (by decide +kernel)
theorem im_yX3_alter : Cond.instanceMethod yX3_alter ∈ gT := gT_mem (i := 897) (by decide +kernel) (by decide +kernel)
theorem se_yX3_alter : Cond.selects RX3 yX3_alter yX3_alter ∈ gT := gT_mem (i := 898) (by decide +kernel) (by decide +kernel)
theorem cd_yX3_alter : Cond.code yX3_alter cX3_alter 5 none ∈ gT := gT_mem (i := 899) (by decide +kernel) (by decide +kernel)
theorem ml_X3_56 : Cond.methodLink RX3 56 yX2_set ∈ gT := gT_mem (i := 900) (by decide +kernel) (by decide +kernel)
theorem ml_L_125 : Cond.methodLink RL 125 yL_turns ∈ gT := gT_mem (i := 901) (by decide +kernel) (by decide +kernel)
theorem st_yL_turns : Cond.static yL_turns ∈ gT := gT_mem (i := 902) (by decide +kernel) (by decide +kernel)
theorem cw_yL_turns : Cond.codeWith yL_turns cL_turns 2 (some FieldType.boolean) [(0, 6, 7, 39)] ∈ gT := gT_mem (i := 903) (by decide +kernel) (by decide +kernel)
theorem ml_L_46 : Cond.methodLink RL 46 yX5_turnException ∈ gT := gT_mem (i := 904) (by decide +kernel) (by decide +kernel)
theorem im_yX5_turnException : Cond.instanceMethod yX5_turnException ∈ gT := gT_mem (i := 905) (by decide +kernel) (by decide +kernel)
theorem se_yX5_turnException : Cond.selects RX5 yX5_turnException yX5_turnException ∈ gT := gT_mem (i := 906) (by decide +kernel) (by decide +kernel)
theorem cd_yX5_turnException : Cond.code yX5_turnException cX5_turnException 2 (some FieldType.boolean) ∈ gT := gT_mem (i := 907) (by decide +kernel) (by decide +kernel)
theorem ml_X5_141 : Cond.methodLink RX5 141 yX3_placeOfException ∈ gT := gT_mem (i := 909) (by decide +kernel) (by decide +kernel)
theorem ml_X5_145 : Cond.methodLink RX5 145 yX3_isFullOfExceptions ∈ gT := gT_mem (i := 910) (by decide +kernel) (by decide +kernel)
theorem im_yX3_isFullOfExceptions : Cond.instanceMethod yX3_isFullOfExceptions ∈ gT := gT_mem (i := 911) (by decide +kernel) (by decide +kernel)
theorem se_yX3_isFullOfExceptions : Cond.selects RX3 yX3_isFullOfExceptions yX3_isFullOfExceptions ∈ gT := gT_mem (i := 912) (by decide +kernel) (by decide +kernel)
theorem cd_yX3_isFullOfExceptions : Cond.code yX3_isFullOfExceptions cX3_isFullOfExceptions 1 (some FieldType.boolean) ∈ gT := gT_mem (i := 913) (by decide +kernel) (by decide +kernel)
theorem ml_X5_150 : Cond.methodLink RX5 150 yX3_addException ∈ gT := gT_mem (i := 915) (by decide +kernel) (by decide +kernel)
theorem im_yX3_addException : Cond.instanceMethod yX3_addException ∈ gT := gT_mem (i := 916) (by decide +kernel) (by decide +kernel)
theorem se_yX3_addException : Cond.selects RX3 yX3_addException yX3_addException ∈ gT := gT_mem (i := 917) (by decide +kernel) (by decide +kernel)
theorem cd_yX3_addException : Cond.code yX3_addException cX3_addException 3 none ∈ gT := gT_mem (i := 918) (by decide +kernel) (by decide +kernel)
theorem ml_X3_70 : Cond.methodLink RX3 70 yX1_cut ∈ gT := gT_mem (i := 919) (by decide +kernel) (by decide +kernel)
theorem ml_X5_154 : Cond.methodLink RX5 154 yX3_dropException ∈ gT := gT_mem (i := 920) (by decide +kernel) (by decide +kernel)
theorem im_yX3_dropException : Cond.instanceMethod yX3_dropException ∈ gT := gT_mem (i := 921) (by decide +kernel) (by decide +kernel)
theorem se_yX3_dropException : Cond.selects RX3 yX3_dropException yX3_dropException ∈ gT := gT_mem (i := 922) (by decide +kernel) (by decide +kernel)
theorem cd_yX3_dropException : Cond.code yX3_dropException cX3_dropException 2 none ∈ gT := gT_mem (i := 923) (by decide +kernel) (by decide +kernel)
theorem ml_X3_73 : Cond.methodLink RX3 73 yX1_drop ∈ gT := gT_mem (i := 924) (by decide +kernel) (by decide +kernel)
theorem im_yX1_drop : Cond.instanceMethod yX1_drop ∈ gT := gT_mem (i := 925) (by decide +kernel) (by decide +kernel)
theorem se_yX1_drop : Cond.selects RX1 yX1_drop yX1_drop ∈ gT := gT_mem (i := 926) (by decide +kernel) (by decide +kernel)
theorem cd_yX1_drop : Cond.code yX1_drop cX1_drop 5 none ∈ gT := gT_mem (i := 927) (by decide +kernel) (by decide +kernel)
theorem ml_X1_45 : Cond.methodLink RX1 45 yX1_sizeOf ∈ gT := gT_mem (i := 928) (by decide +kernel) (by decide +kernel)
theorem ml_X1_48 : Cond.methodLink RX1 48 yX2_remove ∈ gT := gT_mem (i := 929) (by decide +kernel) (by decide +kernel)
theorem im_yX2_remove : Cond.instanceMethod yX2_remove ∈ gT := gT_mem (i := 930) (by decide +kernel) (by decide +kernel)
theorem se_yX2_remove : Cond.selects RX2 yX2_remove yX2_remove ∈ gT := gT_mem (i := 931) (by decide +kernel) (by decide +kernel)
theorem cd_yX2_remove : Cond.code yX2_remove cX2_remove 2 none ∈ gT := gT_mem (i := 932) (by decide +kernel) (by decide +kernel)
theorem ml_X1_51 : Cond.methodLink RX1 51 yX2_set ∈ gT := gT_mem (i := 933) (by decide +kernel) (by decide +kernel)
theorem ml_L_129 : Cond.methodLink RL 129 yX5_setWidth ∈ gT := gT_mem (i := 934) (by decide +kernel) (by decide +kernel)
theorem im_yX5_setWidth : Cond.instanceMethod yX5_setWidth ∈ gT := gT_mem (i := 935) (by decide +kernel) (by decide +kernel)
theorem se_yX5_setWidth : Cond.selects RX5 yX5_setWidth yX5_setWidth ∈ gT := gT_mem (i := 936) (by decide +kernel) (by decide +kernel)
theorem cd_yX5_setWidth : Cond.code yX5_setWidth cX5_setWidth 7 (some FieldType.int) ∈ gT := gT_mem (i := 937) (by decide +kernel) (by decide +kernel)
theorem ml_L_135 : Cond.methodLink RL 135 yL_isEmbossed ∈ gT := gT_mem (i := 939) (by decide +kernel) (by decide +kernel)
theorem st_yL_isEmbossed : Cond.static yL_isEmbossed ∈ gT := gT_mem (i := 940) (by decide +kernel) (by decide +kernel)
theorem cd_yL_isEmbossed : Cond.code yL_isEmbossed cL_isEmbossed 12 (some FieldType.boolean) ∈ gT := gT_mem (i := 941) (by decide +kernel) (by decide +kernel)
theorem ml_L_101 : Cond.methodLink RL 101 yX5_strikes ∈ gT := gT_mem (i := 942) (by decide +kernel) (by decide +kernel)
theorem im_yX5_strikes : Cond.instanceMethod yX5_strikes ∈ gT := gT_mem (i := 943) (by decide +kernel) (by decide +kernel)
theorem se_yX5_strikes : Cond.selects RX5 yX5_strikes yX5_strikes ∈ gT := gT_mem (i := 944) (by decide +kernel) (by decide +kernel)
theorem cd_yX5_strikes : Cond.code yX5_strikes cX5_strikes 2 (some FieldType.int) ∈ gT := gT_mem (i := 945) (by decide +kernel) (by decide +kernel)
theorem ml_X5_247 : Cond.methodLink RX5 247 yX0_wearOf ∈ gT := gT_mem (i := 947) (by decide +kernel) (by decide +kernel)
theorem im_yX0_wearOf : Cond.instanceMethod yX0_wearOf ∈ gT := gT_mem (i := 948) (by decide +kernel) (by decide +kernel)
theorem se_yX0_wearOf : Cond.selects RX0 yX0_wearOf yX0_wearOf ∈ gT := gT_mem (i := 949) (by decide +kernel) (by decide +kernel)
theorem cd_yX0_wearOf : Cond.code yX0_wearOf cX0_wearOf 2 (some FieldType.int) ∈ gT := gT_mem (i := 950) (by decide +kernel) (by decide +kernel)
theorem ml_X0_30 : Cond.methodLink RX0 30 yX2_get ∈ gT := gT_mem (i := 951) (by decide +kernel) (by decide +kernel)
theorem ml_L_104 : Cond.methodLink RL 104 yL_emboss ∈ gT := gT_mem (i := 952) (by decide +kernel) (by decide +kernel)
theorem st_yL_emboss : Cond.static yL_emboss ∈ gT := gT_mem (i := 953) (by decide +kernel) (by decide +kernel)
theorem cw_yL_emboss : Cond.codeWith yL_emboss cL_emboss 3 (some FieldType.int) [(0, 5, 6, 39)] ∈ gT := gT_mem (i := 954) (by decide +kernel) (by decide +kernel)
theorem ml_L_50 : Cond.methodLink RL 50 yX5_emboss ∈ gT := gT_mem (i := 955) (by decide +kernel) (by decide +kernel)
theorem im_yX5_emboss : Cond.instanceMethod yX5_emboss ∈ gT := gT_mem (i := 956) (by decide +kernel) (by decide +kernel)
theorem se_yX5_emboss : Cond.selects RX5 yX5_emboss yX5_emboss ∈ gT := gT_mem (i := 957) (by decide +kernel) (by decide +kernel)
theorem cd_yX5_emboss : Cond.code yX5_emboss cX5_emboss 8 (some FieldType.int) ∈ gT := gT_mem (i := 958) (by decide +kernel) (by decide +kernel)
theorem ml_X5_213 : Cond.methodLink RX5 213 yX0_forgetPlan ∈ gT := gT_mem (i := 959) (by decide +kernel) (by decide +kernel)
theorem im_yX0_forgetPlan : Cond.instanceMethod yX0_forgetPlan ∈ gT := gT_mem (i := 960) (by decide +kernel) (by decide +kernel)
theorem se_yX0_forgetPlan : Cond.selects RX0 yX0_forgetPlan yX0_forgetPlan ∈ gT := gT_mem (i := 961) (by decide +kernel) (by decide +kernel)
theorem cd_yX0_forgetPlan : Cond.code yX0_forgetPlan cX0_forgetPlan 2 none ∈ gT := gT_mem (i := 962) (by decide +kernel) (by decide +kernel)
theorem ml_X0_37 : Cond.methodLink RX0 37 yX2_set ∈ gT := gT_mem (i := 963) (by decide +kernel) (by decide +kernel)
theorem ml_X5_216 : Cond.methodLink RX5 216 yX4_isOther ∈ gT := gT_mem (i := 964) (by decide +kernel) (by decide +kernel)
theorem im_yX4_isOther : Cond.instanceMethod yX4_isOther ∈ gT := gT_mem (i := 965) (by decide +kernel) (by decide +kernel)
theorem se_yX4_isOther : Cond.selects RX4 yX4_isOther yX4_isOther ∈ gT := gT_mem (i := 966) (by decide +kernel) (by decide +kernel)
theorem cd_yX4_isOther : Cond.code yX4_isOther cX4_isOther 2 (some FieldType.boolean) ∈ gT := gT_mem (i := 967) (by decide +kernel) (by decide +kernel)
theorem ml_X5_219 : Cond.methodLink RX5 219 yX5_planLine ∈ gT := gT_mem (i := 968) (by decide +kernel) (by decide +kernel)
theorem im_yX5_planLine : Cond.instanceMethod yX5_planLine ∈ gT := gT_mem (i := 970) (by decide +kernel) (by decide +kernel)
theorem cd_yX5_planLine : Cond.code yX5_planLine cX5_planLine 4 none ∈ gT := gT_mem (i := 971) (by decide +kernel) (by decide +kernel)
theorem ml_X5_293 : Cond.methodLink RX5 293 yX0_planCell ∈ gT := gT_mem (i := 972) (by decide +kernel) (by decide +kernel)
theorem im_yX0_planCell : Cond.instanceMethod yX0_planCell ∈ gT := gT_mem (i := 973) (by decide +kernel) (by decide +kernel)
theorem se_yX0_planCell : Cond.selects RX0 yX0_planCell yX0_planCell ∈ gT := gT_mem (i := 974) (by decide +kernel) (by decide +kernel)
theorem cd_yX0_planCell : Cond.code yX0_planCell cX0_planCell 3 none ∈ gT := gT_mem (i := 975) (by decide +kernel) (by decide +kernel)
theorem ml_X5_223 : Cond.methodLink RX5 223 yX0_bearsPlan ∈ gT := gT_mem (i := 976) (by decide +kernel) (by decide +kernel)
theorem im_yX0_bearsPlan : Cond.instanceMethod yX0_bearsPlan ∈ gT := gT_mem (i := 977) (by decide +kernel) (by decide +kernel)
theorem se_yX0_bearsPlan : Cond.selects RX0 yX0_bearsPlan yX0_bearsPlan ∈ gT := gT_mem (i := 978) (by decide +kernel) (by decide +kernel)
theorem cd_yX0_bearsPlan : Cond.code yX0_bearsPlan cX0_bearsPlan 2 (some FieldType.boolean) ∈ gT := gT_mem (i := 979) (by decide +kernel) (by decide +kernel)
theorem ml_X5_228 : Cond.methodLink RX5 228 yX0_strikePlan ∈ gT := gT_mem (i := 981) (by decide +kernel) (by decide +kernel)
theorem im_yX0_strikePlan : Cond.instanceMethod yX0_strikePlan ∈ gT := gT_mem (i := 982) (by decide +kernel) (by decide +kernel)
theorem se_yX0_strikePlan : Cond.selects RX0 yX0_strikePlan yX0_strikePlan ∈ gT := gT_mem (i := 983) (by decide +kernel) (by decide +kernel)
theorem cd_yX0_strikePlan : Cond.code yX0_strikePlan cX0_strikePlan 2 none ∈ gT := gT_mem (i := 984) (by decide +kernel) (by decide +kernel)
theorem ml_X5_231 : Cond.methodLink RX5 231 yX4_keepAsEmbossed ∈ gT := gT_mem (i := 985) (by decide +kernel) (by decide +kernel)
theorem im_yX4_keepAsEmbossed : Cond.instanceMethod yX4_keepAsEmbossed ∈ gT := gT_mem (i := 986) (by decide +kernel) (by decide +kernel)
theorem se_yX4_keepAsEmbossed : Cond.selects RX4 yX4_keepAsEmbossed yX4_keepAsEmbossed ∈ gT := gT_mem (i := 987) (by decide +kernel) (by decide +kernel)
theorem cd_yX4_keepAsEmbossed : Cond.code yX4_keepAsEmbossed cX4_keepAsEmbossed 1 none ∈ gT := gT_mem (i := 988) (by decide +kernel) (by decide +kernel)
theorem ml_L_107 : Cond.methodLink RL 107 yX5_changed ∈ gT := gT_mem (i := 989) (by decide +kernel) (by decide +kernel)
theorem im_yX5_changed : Cond.instanceMethod yX5_changed ∈ gT := gT_mem (i := 990) (by decide +kernel) (by decide +kernel)
theorem se_yX5_changed : Cond.selects RX5 yX5_changed yX5_changed ∈ gT := gT_mem (i := 991) (by decide +kernel) (by decide +kernel)
theorem cd_yX5_changed : Cond.code yX5_changed cX5_changed 2 (some FieldType.int) ∈ gT := gT_mem (i := 992) (by decide +kernel) (by decide +kernel)
theorem ml_X5_234 : Cond.methodLink RX5 234 yX4_otherLineCount ∈ gT := gT_mem (i := 993) (by decide +kernel) (by decide +kernel)
theorem im_yX4_otherLineCount : Cond.instanceMethod yX4_otherLineCount ∈ gT := gT_mem (i := 994) (by decide +kernel) (by decide +kernel)
theorem se_yX4_otherLineCount : Cond.selects RX4 yX4_otherLineCount yX4_otherLineCount ∈ gT := gT_mem (i := 995) (by decide +kernel) (by decide +kernel)
theorem cd_yX4_otherLineCount : Cond.code yX4_otherLineCount cX4_otherLineCount 3 (some FieldType.int) ∈ gT := gT_mem (i := 996) (by decide +kernel) (by decide +kernel)
theorem ml_X4_104 : Cond.methodLink RX4 104 yJ9_max_7cf53 ∈ gT := gT_mem (i := 997) (by decide +kernel) (by decide +kernel)
theorem ml_X4_109 : Cond.methodLink RX4 109 yX4_isOther ∈ gT := gT_mem (i := 998) (by decide +kernel) (by decide +kernel)
theorem ml_L_139 : Cond.methodLink RL 139 yX5_replace ∈ gT := gT_mem (i := 999) (by decide +kernel) (by decide +kernel)
theorem im_yX5_replace : Cond.instanceMethod yX5_replace ∈ gT := gT_mem (i := 1000) (by decide +kernel) (by decide +kernel)
theorem se_yX5_replace : Cond.selects RX5 yX5_replace yX5_replace ∈ gT := gT_mem (i := 1001) (by decide +kernel) (by decide +kernel)
theorem cd_yX5_replace : Cond.code yX5_replace cX5_replace 2 (some FieldType.int) ∈ gT := gT_mem (i := 1002) (by decide +kernel) (by decide +kernel)
theorem ml_X5_244 : Cond.methodLink RX5 244 yX0_renewPin ∈ gT := gT_mem (i := 1003) (by decide +kernel) (by decide +kernel)
theorem im_yX0_renewPin : Cond.instanceMethod yX0_renewPin ∈ gT := gT_mem (i := 1004) (by decide +kernel) (by decide +kernel)
theorem se_yX0_renewPin : Cond.selects RX0 yX0_renewPin yX0_renewPin ∈ gT := gT_mem (i := 1005) (by decide +kernel) (by decide +kernel)
theorem cd_yX0_renewPin : Cond.code yX0_renewPin cX0_renewPin 3 (some FieldType.int) ∈ gT := gT_mem (i := 1006) (by decide +kernel) (by decide +kernel)
theorem ml_X0_34 : Cond.methodLink RX0 34 yX0_wearOf ∈ gT := gT_mem (i := 1007) (by decide +kernel) (by decide +kernel)
theorem ml_L_146 : Cond.methodLink RL 146 yX5_mark ∈ gT := gT_mem (i := 1008) (by decide +kernel) (by decide +kernel)
theorem im_yX5_mark : Cond.instanceMethod yX5_mark ∈ gT := gT_mem (i := 1009) (by decide +kernel) (by decide +kernel)
theorem se_yX5_mark : Cond.selects RX5 yX5_mark yX5_mark ∈ gT := gT_mem (i := 1010) (by decide +kernel) (by decide +kernel)
theorem cd_yX5_mark : Cond.code yX5_mark cX5_mark 7 (some FieldType.boolean) ∈ gT := gT_mem (i := 1011) (by decide +kernel) (by decide +kernel)
theorem ml_X5_255 : Cond.methodLink RX5 255 yX4_putMark ∈ gT := gT_mem (i := 1012) (by decide +kernel) (by decide +kernel)
theorem cl_L_151 : Cond.classLink RL 151 "[[Ljava/lang/String;" ∈ gT := gT_mem (i := 1013) (by decide +kernel) (by decide +kernel)
theorem ao_SA : Cond.arrayOver (.array (.object RJ0)) ∈ jTbl := List.mem_of_getElem? (i := 1014) (by decide +kernel)
theorem ao_S : Cond.arrayOver (.object RJ0) ∈ jTbl := List.mem_of_getElem? (i := 1015) (by decide +kernel)
theorem cl_L_24 : Cond.classLink RL 24 RJ0 ∈ gT := gT_mem (i := 1016) (by decide +kernel) (by decide +kernel)
theorem ac_char : Cond.arrayClass .char ∈ gT := gT_mem (i := 1017) (by decide +kernel) (by decide +kernel)
theorem sm_J5_yJ5_append_cf1ce : Cond.sameMethod RJ5 RJ5 "append" "(Ljava/lang/String;)Ljava/lang/AbstractStringBuilder;" ∈ gT := gT_mem (i := 1019) (by decide +kernel) (by decide +kernel)
theorem sm_J5_yJ5_appendNull_278bc : Cond.sameMethod RJ5 RJ5 "appendNull" "()Ljava/lang/AbstractStringBuilder;" ∈ gT := gT_mem (i := 1020) (by decide +kernel) (by decide +kernel)
theorem sm_J5_yJ5_ensureCapacityInternal_d00df : Cond.sameMethod RJ5 RJ5 "ensureCapacityInternal" "(I)V" ∈ gT := gT_mem (i := 1021) (by decide +kernel) (by decide +kernel)
theorem sm_J5_yJ5_newCapacity_0f7a4 : Cond.sameMethod RJ5 RJ5 "newCapacity" "(I)I" ∈ gT := gT_mem (i := 1022) (by decide +kernel) (by decide +kernel)
theorem sm_J5_yJ5_putStringAt_47b60 : Cond.sameMethod RJ5 RJ5 "putStringAt" "(ILjava/lang/String;)V" ∈ gT := gT_mem (i := 1023) (by decide +kernel) (by decide +kernel)
theorem sm_J5_yJ5_inflateIfNeededFor_a7421 : Cond.sameMethod RJ5 RJ5 "inflateIfNeededFor" "(Ljava/lang/String;)V" ∈ gT := gT_mem (i := 1024) (by decide +kernel) (by decide +kernel)
theorem sm_J5_yJ5_inflate_da8c8 : Cond.sameMethod RJ5 RJ5 "inflate" "()V" ∈ gT := gT_mem (i := 1025) (by decide +kernel) (by decide +kernel)
theorem sm_J5_yJ5_append_3fe6f : Cond.sameMethod RJ5 RJ5 "append" "(C)Ljava/lang/AbstractStringBuilder;" ∈ gT := gT_mem (i := 1026) (by decide +kernel) (by decide +kernel)
theorem se_yX3_addCells : Cond.selects RX3 yX3_addCells yX3_addCells ∈ gT := gT_mem (i := 5) (by decide +kernel) (by decide +kernel)
theorem se_yX4_beginWord : Cond.selects RX4 yX4_beginWord yX4_beginWord ∈ gT := gT_mem (i := 7) (by decide +kernel) (by decide +kernel)
theorem se_yX4_unmark : Cond.selects RX4 yX4_unmark yX4_unmark ∈ gT := gT_mem (i := 6) (by decide +kernel) (by decide +kernel)
theorem se_yX5_typedKey : Cond.selects RX5 yX5_typedKey yX5_typedKey ∈ gT := gT_mem (i := 10) (by decide +kernel) (by decide +kernel)
theorem se_yX5_textNumbered : Cond.selects RX5 yX5_textNumbered yX5_textNumbered ∈ gT := gT_mem (i := 8) (by decide +kernel) (by decide +kernel)
theorem se_yX5_textWithWord : Cond.selects RX5 yX5_textWithWord yX5_textWithWord ∈ gT := gT_mem (i := 9) (by decide +kernel) (by decide +kernel)
theorem se_yX5_translateTexts : Cond.selects RX5 yX5_translateTexts yX5_translateTexts ∈ gT := gT_mem (i := 11) (by decide +kernel) (by decide +kernel)
theorem se_yX5_planLine : Cond.selects RX5 yX5_planLine yX5_planLine ∈ gT := gT_mem (i := 12) (by decide +kernel) (by decide +kernel)
theorem se_J4_yJ5_ensureCapacityInternal_d00df : Cond.selects RJ4 yJ5_ensureCapacityInternal_d00df yJ5_ensureCapacityInternal_d00df ∈ gT := gT_mem (i := 0) (by decide +kernel) (by decide +kernel)
theorem se_J4_yJ5_newCapacity_0f7a4 : Cond.selects RJ4 yJ5_newCapacity_0f7a4 yJ5_newCapacity_0f7a4 ∈ gT := gT_mem (i := 1) (by decide +kernel) (by decide +kernel)
theorem se_J4_yJ5_putStringAt_47b60 : Cond.selects RJ4 yJ5_putStringAt_47b60 yJ5_putStringAt_47b60 ∈ gT := gT_mem (i := 2) (by decide +kernel) (by decide +kernel)
theorem se_J4_yJ5_inflateIfNeededFor_a7421 : Cond.selects RJ4 yJ5_inflateIfNeededFor_a7421 yJ5_inflateIfNeededFor_a7421 ∈ gT := gT_mem (i := 3) (by decide +kernel) (by decide +kernel)
theorem lay_X0 : ∀ w ∈ wsX00, w ∈ gT := by decide +kernel
theorem lay_X1 : ∀ w ∈ wsX10, w ∈ gT := by decide +kernel
theorem lay_X2 : ∀ w ∈ wsX20, w ∈ gT := by decide +kernel
theorem lay_X3 : ∀ w ∈ wsX30, w ∈ gT := by decide +kernel
theorem lay_X4 : ∀ w ∈ wsX40, w ∈ gT := by decide +kernel
theorem lay_X5 : ∀ w ∈ wsX50, w ∈ gT := by decide +kernel
theorem lay_J0 : ∀ w ∈ wsJ00, w ∈ gT := by decide +kernel
theorem lay_J4 : ∀ w ∈ wsJ40, w ∈ gT := by decide +kernel
end
section
theorem dX0_init_0 : decode cX0_init 0 = .ok (.aload_n 0, 1) := by decide +kernel
theorem dX0_init_1 : decode cX0_init 1 = .ok (.invokespecial 3, 3) := by decide +kernel
theorem dX0_init_4 : decode cX0_init 4 = .ok (.aload_n 0, 1) := by decide +kernel
theorem dX0_init_5 : decode cX0_init 5 = .ok (.new 9, 3) := by decide +kernel
theorem dX0_init_8 : decode cX0_init 8 = .ok (.dup, 1) := by decide +kernel
theorem dX0_init_9 : decode cX0_init 9 = .ok (.bipush 6, 2) := by decide +kernel
theorem dX0_init_11 : decode cX0_init 11 = .ok (.invokespecial 11, 3) := by decide +kernel
theorem dX0_init_14 : decode cX0_init 14 = .ok (.putfield 14, 3) := by decide +kernel
theorem dX0_init_17 : decode cX0_init 17 = .ok (.aload_n 0, 1) := by decide +kernel
theorem dX0_init_18 : decode cX0_init 18 = .ok (.new 9, 3) := by decide +kernel
theorem dX0_init_21 : decode cX0_init 21 = .ok (.dup, 1) := by decide +kernel
theorem dX0_init_22 : decode cX0_init 22 = .ok (.bipush 6, 2) := by decide +kernel
theorem dX0_init_24 : decode cX0_init 24 = .ok (.invokespecial 11, 3) := by decide +kernel
theorem dX0_init_27 : decode cX0_init 27 = .ok (.putfield 20, 3) := by decide +kernel
theorem dX0_init_30 : decode cX0_init 30 = .ok (.aload_n 0, 1) := by decide +kernel
theorem dX0_init_31 : decode cX0_init 31 = .ok (.sipush 5000, 3) := by decide +kernel
theorem dX0_init_34 : decode cX0_init 34 = .ok (.putfield 23, 3) := by decide +kernel
theorem dX0_init_37 : decode cX0_init 37 = .ok (.iconst 0, 1) := by decide +kernel
theorem dX0_init_38 : decode cX0_init 38 = .ok (.istore_n 1, 1) := by decide +kernel
theorem dX0_init_39 : decode cX0_init 39 = .ok (.iload_n 1, 1) := by decide +kernel
theorem dX0_init_40 : decode cX0_init 40 = .ok (.bipush 6, 2) := by decide +kernel
theorem dX0_init_42 : decode cX0_init 42 = .ok (.if_icmp .ge 25, 3) := by decide +kernel
theorem dX0_init_45 : decode cX0_init 45 = .ok (.aload_n 0, 1) := by decide +kernel
theorem dX0_init_46 : decode cX0_init 46 = .ok (.getfield 14, 3) := by decide +kernel
theorem dX0_init_49 : decode cX0_init 49 = .ok (.iconst 0, 1) := by decide +kernel
theorem dX0_init_50 : decode cX0_init 50 = .ok (.invokevirtual 27, 3) := by decide +kernel
theorem dX0_init_53 : decode cX0_init 53 = .ok (.aload_n 0, 1) := by decide +kernel
theorem dX0_init_54 : decode cX0_init 54 = .ok (.getfield 20, 3) := by decide +kernel
theorem dX0_init_57 : decode cX0_init 57 = .ok (.iconst 0, 1) := by decide +kernel
theorem dX0_init_58 : decode cX0_init 58 = .ok (.invokevirtual 27, 3) := by decide +kernel
theorem dX0_init_61 : decode cX0_init 61 = .ok (.iinc 1 1, 3) := by decide +kernel
theorem dX0_init_64 : decode cX0_init 64 = .ok (.goto (-25), 3) := by decide +kernel
theorem dX0_init_67 : decode cX0_init 67 = .ok (.return_, 1) := by decide +kernel
theorem dX0_changeBearing_0 : decode cX0_changeBearing 0 = .ok (.aload_n 0, 1) := by decide +kernel
theorem dX0_changeBearing_1 : decode cX0_changeBearing 1 = .ok (.getfield 23, 3) := by decide +kernel
theorem dX0_changeBearing_4 : decode cX0_changeBearing 4 = .ok (.istore_n 2, 1) := by decide +kernel
theorem dX0_changeBearing_5 : decode cX0_changeBearing 5 = .ok (.aload_n 0, 1) := by decide +kernel
theorem dX0_changeBearing_6 : decode cX0_changeBearing 6 = .ok (.iload_n 1, 1) := by decide +kernel
theorem dX0_changeBearing_7 : decode cX0_changeBearing 7 = .ok (.putfield 23, 3) := by decide +kernel
theorem dX0_changeBearing_10 : decode cX0_changeBearing 10 = .ok (.iload_n 2, 1) := by decide +kernel
theorem dX0_changeBearing_11 : decode cX0_changeBearing 11 = .ok (.ireturn, 1) := by decide +kernel
theorem dX0_wearOf_0 : decode cX0_wearOf 0 = .ok (.aload_n 0, 1) := by decide +kernel
theorem dX0_wearOf_1 : decode cX0_wearOf 1 = .ok (.getfield 14, 3) := by decide +kernel
theorem dX0_wearOf_4 : decode cX0_wearOf 4 = .ok (.iload_n 1, 1) := by decide +kernel
theorem dX0_wearOf_5 : decode cX0_wearOf 5 = .ok (.iconst 1, 1) := by decide +kernel
theorem dX0_wearOf_6 : decode cX0_wearOf 6 = .ok (.isub, 1) := by decide +kernel
theorem dX0_wearOf_7 : decode cX0_wearOf 7 = .ok (.invokevirtual 30, 3) := by decide +kernel
theorem dX0_wearOf_10 : decode cX0_wearOf 10 = .ok (.ireturn, 1) := by decide +kernel
theorem dX0_renewPin_0 : decode cX0_renewPin 0 = .ok (.aload_n 0, 1) := by decide +kernel
theorem dX0_renewPin_1 : decode cX0_renewPin 1 = .ok (.iload_n 1, 1) := by decide +kernel
theorem dX0_renewPin_2 : decode cX0_renewPin 2 = .ok (.invokevirtual 34, 3) := by decide +kernel
theorem dX0_renewPin_5 : decode cX0_renewPin 5 = .ok (.istore_n 2, 1) := by decide +kernel
theorem dX0_renewPin_6 : decode cX0_renewPin 6 = .ok (.aload_n 0, 1) := by decide +kernel
theorem dX0_renewPin_7 : decode cX0_renewPin 7 = .ok (.getfield 14, 3) := by decide +kernel
theorem dX0_renewPin_10 : decode cX0_renewPin 10 = .ok (.iload_n 1, 1) := by decide +kernel
theorem dX0_renewPin_11 : decode cX0_renewPin 11 = .ok (.iconst 1, 1) := by decide +kernel
theorem dX0_renewPin_12 : decode cX0_renewPin 12 = .ok (.isub, 1) := by decide +kernel
theorem dX0_renewPin_13 : decode cX0_renewPin 13 = .ok (.iconst 0, 1) := by decide +kernel
theorem dX0_renewPin_14 : decode cX0_renewPin 14 = .ok (.invokevirtual 37, 3) := by decide +kernel
theorem dX0_renewPin_17 : decode cX0_renewPin 17 = .ok (.iload_n 2, 1) := by decide +kernel
theorem dX0_renewPin_18 : decode cX0_renewPin 18 = .ok (.ireturn, 1) := by decide +kernel
theorem dX0_forgetPlan_0 : decode cX0_forgetPlan 0 = .ok (.iconst 0, 1) := by decide +kernel
theorem dX0_forgetPlan_1 : decode cX0_forgetPlan 1 = .ok (.istore_n 1, 1) := by decide +kernel
theorem dX0_forgetPlan_2 : decode cX0_forgetPlan 2 = .ok (.iload_n 1, 1) := by decide +kernel
theorem dX0_forgetPlan_3 : decode cX0_forgetPlan 3 = .ok (.bipush 6, 2) := by decide +kernel
theorem dX0_forgetPlan_5 : decode cX0_forgetPlan 5 = .ok (.if_icmp .ge 18, 3) := by decide +kernel
theorem dX0_forgetPlan_8 : decode cX0_forgetPlan 8 = .ok (.aload_n 0, 1) := by decide +kernel
theorem dX0_forgetPlan_9 : decode cX0_forgetPlan 9 = .ok (.getfield 20, 3) := by decide +kernel
theorem dX0_forgetPlan_12 : decode cX0_forgetPlan 12 = .ok (.iload_n 1, 1) := by decide +kernel
theorem dX0_forgetPlan_13 : decode cX0_forgetPlan 13 = .ok (.iconst 0, 1) := by decide +kernel
theorem dX0_forgetPlan_14 : decode cX0_forgetPlan 14 = .ok (.invokevirtual 37, 3) := by decide +kernel
theorem dX0_forgetPlan_17 : decode cX0_forgetPlan 17 = .ok (.iinc 1 1, 3) := by decide +kernel
theorem dX0_forgetPlan_20 : decode cX0_forgetPlan 20 = .ok (.goto (-18), 3) := by decide +kernel
theorem dX0_forgetPlan_23 : decode cX0_forgetPlan 23 = .ok (.return_, 1) := by decide +kernel
theorem dX0_planCell_0 : decode cX0_planCell 0 = .ok (.iconst 0, 1) := by decide +kernel
theorem dX0_planCell_1 : decode cX0_planCell 1 = .ok (.istore_n 2, 1) := by decide +kernel
theorem dX0_planCell_2 : decode cX0_planCell 2 = .ok (.iload_n 2, 1) := by decide +kernel
theorem dX0_planCell_3 : decode cX0_planCell 3 = .ok (.bipush 6, 2) := by decide +kernel
theorem dX0_planCell_5 : decode cX0_planCell 5 = .ok (.if_icmp .ge 31, 3) := by decide +kernel
theorem dX0_planCell_8 : decode cX0_planCell 8 = .ok (.aload_n 0, 1) := by decide +kernel
theorem dX0_planCell_9 : decode cX0_planCell 9 = .ok (.getfield 20, 3) := by decide +kernel
theorem dX0_planCell_12 : decode cX0_planCell 12 = .ok (.iload_n 2, 1) := by decide +kernel
theorem dX0_planCell_13 : decode cX0_planCell 13 = .ok (.aload_n 0, 1) := by decide +kernel
theorem dX0_planCell_14 : decode cX0_planCell 14 = .ok (.getfield 20, 3) := by decide +kernel
theorem dX0_planCell_17 : decode cX0_planCell 17 = .ok (.iload_n 2, 1) := by decide +kernel
theorem dX0_planCell_18 : decode cX0_planCell 18 = .ok (.invokevirtual 30, 3) := by decide +kernel
theorem dX0_planCell_21 : decode cX0_planCell 21 = .ok (.iload_n 1, 1) := by decide +kernel
theorem dX0_planCell_22 : decode cX0_planCell 22 = .ok (.iload_n 2, 1) := by decide +kernel
theorem dX0_planCell_23 : decode cX0_planCell 23 = .ok (.ishr, 1) := by decide +kernel
theorem dX0_planCell_24 : decode cX0_planCell 24 = .ok (.iconst 1, 1) := by decide +kernel
theorem dX0_planCell_25 : decode cX0_planCell 25 = .ok (.iand, 1) := by decide +kernel
theorem dX0_planCell_26 : decode cX0_planCell 26 = .ok (.iadd, 1) := by decide +kernel
theorem dX0_planCell_27 : decode cX0_planCell 27 = .ok (.invokevirtual 37, 3) := by decide +kernel
theorem dX0_planCell_30 : decode cX0_planCell 30 = .ok (.iinc 2 1, 3) := by decide +kernel
theorem dX0_planCell_33 : decode cX0_planCell 33 = .ok (.goto (-31), 3) := by decide +kernel
theorem dX0_planCell_36 : decode cX0_planCell 36 = .ok (.return_, 1) := by decide +kernel
theorem dX0_bearsPlan_0 : decode cX0_bearsPlan 0 = .ok (.iconst 0, 1) := by decide +kernel
theorem dX0_bearsPlan_1 : decode cX0_bearsPlan 1 = .ok (.istore_n 1, 1) := by decide +kernel
theorem dX0_bearsPlan_2 : decode cX0_bearsPlan 2 = .ok (.iload_n 1, 1) := by decide +kernel
theorem dX0_bearsPlan_3 : decode cX0_bearsPlan 3 = .ok (.bipush 6, 2) := by decide +kernel
theorem dX0_bearsPlan_5 : decode cX0_bearsPlan 5 = .ok (.if_icmp .ge 46, 3) := by decide +kernel
theorem dX0_bearsPlan_8 : decode cX0_bearsPlan 8 = .ok (.aload_n 0, 1) := by decide +kernel
theorem dX0_bearsPlan_9 : decode cX0_bearsPlan 9 = .ok (.getfield 20, 3) := by decide +kernel
theorem dX0_bearsPlan_12 : decode cX0_bearsPlan 12 = .ok (.iload_n 1, 1) := by decide +kernel
theorem dX0_bearsPlan_13 : decode cX0_bearsPlan 13 = .ok (.invokevirtual 30, 3) := by decide +kernel
theorem dX0_bearsPlan_16 : decode cX0_bearsPlan 16 = .ok (.ifCond .le 29, 3) := by decide +kernel
theorem dX0_bearsPlan_19 : decode cX0_bearsPlan 19 = .ok (.aload_n 0, 1) := by decide +kernel
theorem dX0_bearsPlan_20 : decode cX0_bearsPlan 20 = .ok (.getfield 14, 3) := by decide +kernel
theorem dX0_bearsPlan_23 : decode cX0_bearsPlan 23 = .ok (.iload_n 1, 1) := by decide +kernel
theorem dX0_bearsPlan_24 : decode cX0_bearsPlan 24 = .ok (.invokevirtual 30, 3) := by decide +kernel
theorem dX0_bearsPlan_27 : decode cX0_bearsPlan 27 = .ok (.aload_n 0, 1) := by decide +kernel
theorem dX0_bearsPlan_28 : decode cX0_bearsPlan 28 = .ok (.getfield 20, 3) := by decide +kernel
theorem dX0_bearsPlan_31 : decode cX0_bearsPlan 31 = .ok (.iload_n 1, 1) := by decide +kernel
theorem dX0_bearsPlan_32 : decode cX0_bearsPlan 32 = .ok (.invokevirtual 30, 3) := by decide +kernel
theorem dX0_bearsPlan_35 : decode cX0_bearsPlan 35 = .ok (.iadd, 1) := by decide +kernel
theorem dX0_bearsPlan_36 : decode cX0_bearsPlan 36 = .ok (.aload_n 0, 1) := by decide +kernel
theorem dX0_bearsPlan_37 : decode cX0_bearsPlan 37 = .ok (.getfield 23, 3) := by decide +kernel
theorem dX0_bearsPlan_40 : decode cX0_bearsPlan 40 = .ok (.if_icmp .le 5, 3) := by decide +kernel
theorem dX0_bearsPlan_43 : decode cX0_bearsPlan 43 = .ok (.iconst 0, 1) := by decide +kernel
theorem dX0_bearsPlan_44 : decode cX0_bearsPlan 44 = .ok (.ireturn, 1) := by decide +kernel
theorem dX0_bearsPlan_45 : decode cX0_bearsPlan 45 = .ok (.iinc 1 1, 3) := by decide +kernel
theorem dX0_bearsPlan_48 : decode cX0_bearsPlan 48 = .ok (.goto (-46), 3) := by decide +kernel
theorem dX0_bearsPlan_51 : decode cX0_bearsPlan 51 = .ok (.iconst 1, 1) := by decide +kernel
theorem dX0_bearsPlan_52 : decode cX0_bearsPlan 52 = .ok (.ireturn, 1) := by decide +kernel
theorem dX0_strikePlan_0 : decode cX0_strikePlan 0 = .ok (.iconst 0, 1) := by decide +kernel
theorem dX0_strikePlan_1 : decode cX0_strikePlan 1 = .ok (.istore_n 1, 1) := by decide +kernel
theorem dX0_strikePlan_2 : decode cX0_strikePlan 2 = .ok (.iload_n 1, 1) := by decide +kernel
theorem dX0_strikePlan_3 : decode cX0_strikePlan 3 = .ok (.bipush 6, 2) := by decide +kernel
theorem dX0_strikePlan_5 : decode cX0_strikePlan 5 = .ok (.if_icmp .ge 34, 3) := by decide +kernel
theorem dX0_strikePlan_8 : decode cX0_strikePlan 8 = .ok (.aload_n 0, 1) := by decide +kernel
theorem dX0_strikePlan_9 : decode cX0_strikePlan 9 = .ok (.getfield 14, 3) := by decide +kernel
theorem dX0_strikePlan_12 : decode cX0_strikePlan 12 = .ok (.iload_n 1, 1) := by decide +kernel
theorem dX0_strikePlan_13 : decode cX0_strikePlan 13 = .ok (.aload_n 0, 1) := by decide +kernel
theorem dX0_strikePlan_14 : decode cX0_strikePlan 14 = .ok (.getfield 14, 3) := by decide +kernel
theorem dX0_strikePlan_17 : decode cX0_strikePlan 17 = .ok (.iload_n 1, 1) := by decide +kernel
theorem dX0_strikePlan_18 : decode cX0_strikePlan 18 = .ok (.invokevirtual 30, 3) := by decide +kernel
theorem dX0_strikePlan_21 : decode cX0_strikePlan 21 = .ok (.aload_n 0, 1) := by decide +kernel
theorem dX0_strikePlan_22 : decode cX0_strikePlan 22 = .ok (.getfield 20, 3) := by decide +kernel
theorem dX0_strikePlan_25 : decode cX0_strikePlan 25 = .ok (.iload_n 1, 1) := by decide +kernel
theorem dX0_strikePlan_26 : decode cX0_strikePlan 26 = .ok (.invokevirtual 30, 3) := by decide +kernel
theorem dX0_strikePlan_29 : decode cX0_strikePlan 29 = .ok (.iadd, 1) := by decide +kernel
theorem dX0_strikePlan_30 : decode cX0_strikePlan 30 = .ok (.invokevirtual 37, 3) := by decide +kernel
theorem dX0_strikePlan_33 : decode cX0_strikePlan 33 = .ok (.iinc 1 1, 3) := by decide +kernel
theorem dX0_strikePlan_36 : decode cX0_strikePlan 36 = .ok (.goto (-34), 3) := by decide +kernel
theorem dX0_strikePlan_39 : decode cX0_strikePlan 39 = .ok (.return_, 1) := by decide +kernel
theorem dX1_init_0 : decode cX1_init 0 = .ok (.aload_n 0, 1) := by decide +kernel
theorem dX1_init_1 : decode cX1_init 1 = .ok (.invokespecial 1, 3) := by decide +kernel
theorem dX1_init_4 : decode cX1_init 4 = .ok (.aload_n 0, 1) := by decide +kernel
theorem dX1_init_5 : decode cX1_init 5 = .ok (.new 7, 3) := by decide +kernel
theorem dX1_init_8 : decode cX1_init 8 = .ok (.dup, 1) := by decide +kernel
theorem dX1_init_9 : decode cX1_init 9 = .ok (.iload_n 2, 1) := by decide +kernel
theorem dX1_init_10 : decode cX1_init 10 = .ok (.invokespecial 9, 3) := by decide +kernel
theorem dX1_init_13 : decode cX1_init 13 = .ok (.putfield 12, 3) := by decide +kernel
theorem dX1_init_16 : decode cX1_init 16 = .ok (.aload_n 0, 1) := by decide +kernel
theorem dX1_init_17 : decode cX1_init 17 = .ok (.new 7, 3) := by decide +kernel
theorem dX1_init_20 : decode cX1_init 20 = .ok (.dup, 1) := by decide +kernel
theorem dX1_init_21 : decode cX1_init 21 = .ok (.iload_n 1, 1) := by decide +kernel
theorem dX1_init_22 : decode cX1_init 22 = .ok (.invokespecial 9, 3) := by decide +kernel
theorem dX1_init_25 : decode cX1_init 25 = .ok (.putfield 18, 3) := by decide +kernel
theorem dX1_init_28 : decode cX1_init 28 = .ok (.return_, 1) := by decide +kernel
theorem dX1_uncut_0 : decode cX1_uncut 0 = .ok (.aload_n 0, 1) := by decide +kernel
theorem dX1_uncut_1 : decode cX1_uncut 1 = .ok (.getfield 12, 3) := by decide +kernel
theorem dX1_uncut_4 : decode cX1_uncut 4 = .ok (.areturn, 1) := by decide +kernel
theorem dX1_count_0 : decode cX1_count 0 = .ok (.aload_n 0, 1) := by decide +kernel
theorem dX1_count_1 : decode cX1_count 1 = .ok (.getfield 18, 3) := by decide +kernel
theorem dX1_count_4 : decode cX1_count 4 = .ok (.invokevirtual 21, 3) := by decide +kernel
theorem dX1_count_7 : decode cX1_count 7 = .ok (.ireturn, 1) := by decide +kernel
theorem dX1_startOf_0 : decode cX1_startOf 0 = .ok (.iload_n 1, 1) := by decide +kernel
theorem dX1_startOf_1 : decode cX1_startOf 1 = .ok (.ifCond .ne 7, 3) := by decide +kernel
theorem dX1_startOf_4 : decode cX1_startOf 4 = .ok (.iconst 0, 1) := by decide +kernel
theorem dX1_startOf_5 : decode cX1_startOf 5 = .ok (.goto 13, 3) := by decide +kernel
theorem dX1_startOf_8 : decode cX1_startOf 8 = .ok (.aload_n 0, 1) := by decide +kernel
theorem dX1_startOf_9 : decode cX1_startOf 9 = .ok (.getfield 18, 3) := by decide +kernel
theorem dX1_startOf_12 : decode cX1_startOf 12 = .ok (.iload_n 1, 1) := by decide +kernel
theorem dX1_startOf_13 : decode cX1_startOf 13 = .ok (.iconst 1, 1) := by decide +kernel
theorem dX1_startOf_14 : decode cX1_startOf 14 = .ok (.isub, 1) := by decide +kernel
theorem dX1_startOf_15 : decode cX1_startOf 15 = .ok (.invokevirtual 25, 3) := by decide +kernel
theorem dX1_startOf_18 : decode cX1_startOf 18 = .ok (.ireturn, 1) := by decide +kernel
theorem dX1_endOf_0 : decode cX1_endOf 0 = .ok (.aload_n 0, 1) := by decide +kernel
theorem dX1_endOf_1 : decode cX1_endOf 1 = .ok (.getfield 18, 3) := by decide +kernel
theorem dX1_endOf_4 : decode cX1_endOf 4 = .ok (.iload_n 1, 1) := by decide +kernel
theorem dX1_endOf_5 : decode cX1_endOf 5 = .ok (.invokevirtual 25, 3) := by decide +kernel
theorem dX1_endOf_8 : decode cX1_endOf 8 = .ok (.ireturn, 1) := by decide +kernel
theorem dX1_sizeOf_0 : decode cX1_sizeOf 0 = .ok (.aload_n 0, 1) := by decide +kernel
theorem dX1_sizeOf_1 : decode cX1_sizeOf 1 = .ok (.iload_n 1, 1) := by decide +kernel
theorem dX1_sizeOf_2 : decode cX1_sizeOf 2 = .ok (.invokevirtual 29, 3) := by decide +kernel
theorem dX1_sizeOf_5 : decode cX1_sizeOf 5 = .ok (.aload_n 0, 1) := by decide +kernel
theorem dX1_sizeOf_6 : decode cX1_sizeOf 6 = .ok (.iload_n 1, 1) := by decide +kernel
theorem dX1_sizeOf_7 : decode cX1_sizeOf 7 = .ok (.invokevirtual 32, 3) := by decide +kernel
theorem dX1_sizeOf_10 : decode cX1_sizeOf 10 = .ok (.isub, 1) := by decide +kernel
theorem dX1_sizeOf_11 : decode cX1_sizeOf 11 = .ok (.ireturn, 1) := by decide +kernel
theorem dX1_get_0 : decode cX1_get 0 = .ok (.aload_n 0, 1) := by decide +kernel
theorem dX1_get_1 : decode cX1_get 1 = .ok (.getfield 12, 3) := by decide +kernel
theorem dX1_get_4 : decode cX1_get 4 = .ok (.aload_n 0, 1) := by decide +kernel
theorem dX1_get_5 : decode cX1_get 5 = .ok (.iload_n 1, 1) := by decide +kernel
theorem dX1_get_6 : decode cX1_get 6 = .ok (.invokevirtual 32, 3) := by decide +kernel
theorem dX1_get_9 : decode cX1_get 9 = .ok (.iload_n 2, 1) := by decide +kernel
theorem dX1_get_10 : decode cX1_get 10 = .ok (.iadd, 1) := by decide +kernel
theorem dX1_get_11 : decode cX1_get 11 = .ok (.invokevirtual 25, 3) := by decide +kernel
theorem dX1_get_14 : decode cX1_get 14 = .ok (.ireturn, 1) := by decide +kernel
theorem dX1_uncutSize_0 : decode cX1_uncutSize 0 = .ok (.aload_n 0, 1) := by decide +kernel
theorem dX1_uncutSize_1 : decode cX1_uncutSize 1 = .ok (.getfield 12, 3) := by decide +kernel
theorem dX1_uncutSize_4 : decode cX1_uncutSize 4 = .ok (.invokevirtual 21, 3) := by decide +kernel
theorem dX1_uncutSize_7 : decode cX1_uncutSize 7 = .ok (.aload_n 0, 1) := by decide +kernel
theorem dX1_uncutSize_8 : decode cX1_uncutSize 8 = .ok (.aload_n 0, 1) := by decide +kernel
theorem dX1_uncutSize_9 : decode cX1_uncutSize 9 = .ok (.invokevirtual 35, 3) := by decide +kernel
theorem dX1_uncutSize_12 : decode cX1_uncutSize 12 = .ok (.invokevirtual 32, 3) := by decide +kernel
theorem dX1_uncutSize_15 : decode cX1_uncutSize 15 = .ok (.isub, 1) := by decide +kernel
theorem dX1_uncutSize_16 : decode cX1_uncutSize 16 = .ok (.ireturn, 1) := by decide +kernel
theorem dX1_add_0 : decode cX1_add 0 = .ok (.aload_n 0, 1) := by decide +kernel
theorem dX1_add_1 : decode cX1_add 1 = .ok (.getfield 12, 3) := by decide +kernel
theorem dX1_add_4 : decode cX1_add 4 = .ok (.iload_n 1, 1) := by decide +kernel
theorem dX1_add_5 : decode cX1_add 5 = .ok (.invokevirtual 36, 3) := by decide +kernel
theorem dX1_add_8 : decode cX1_add 8 = .ok (.return_, 1) := by decide +kernel
theorem dX1_cut_0 : decode cX1_cut 0 = .ok (.aload_n 0, 1) := by decide +kernel
theorem dX1_cut_1 : decode cX1_cut 1 = .ok (.invokevirtual 39, 3) := by decide +kernel
theorem dX1_cut_4 : decode cX1_cut 4 = .ok (.ifCond .le 17, 3) := by decide +kernel
theorem dX1_cut_7 : decode cX1_cut 7 = .ok (.aload_n 0, 1) := by decide +kernel
theorem dX1_cut_8 : decode cX1_cut 8 = .ok (.getfield 18, 3) := by decide +kernel
theorem dX1_cut_11 : decode cX1_cut 11 = .ok (.aload_n 0, 1) := by decide +kernel
theorem dX1_cut_12 : decode cX1_cut 12 = .ok (.getfield 12, 3) := by decide +kernel
theorem dX1_cut_15 : decode cX1_cut 15 = .ok (.invokevirtual 21, 3) := by decide +kernel
theorem dX1_cut_18 : decode cX1_cut 18 = .ok (.invokevirtual 36, 3) := by decide +kernel
theorem dX1_cut_21 : decode cX1_cut 21 = .ok (.return_, 1) := by decide +kernel
theorem dX1_empty_0 : decode cX1_empty 0 = .ok (.aload_n 0, 1) := by decide +kernel
theorem dX1_empty_1 : decode cX1_empty 1 = .ok (.getfield 12, 3) := by decide +kernel
theorem dX1_empty_4 : decode cX1_empty 4 = .ok (.invokevirtual 42, 3) := by decide +kernel
theorem dX1_empty_7 : decode cX1_empty 7 = .ok (.aload_n 0, 1) := by decide +kernel
theorem dX1_empty_8 : decode cX1_empty 8 = .ok (.getfield 18, 3) := by decide +kernel
theorem dX1_empty_11 : decode cX1_empty 11 = .ok (.invokevirtual 42, 3) := by decide +kernel
theorem dX1_empty_14 : decode cX1_empty 14 = .ok (.return_, 1) := by decide +kernel
theorem dX1_drop_0 : decode cX1_drop 0 = .ok (.aload_n 0, 1) := by decide +kernel
theorem dX1_drop_1 : decode cX1_drop 1 = .ok (.iload_n 1, 1) := by decide +kernel
theorem dX1_drop_2 : decode cX1_drop 2 = .ok (.invokevirtual 32, 3) := by decide +kernel
theorem dX1_drop_5 : decode cX1_drop 5 = .ok (.istore_n 2, 1) := by decide +kernel
theorem dX1_drop_6 : decode cX1_drop 6 = .ok (.aload_n 0, 1) := by decide +kernel
theorem dX1_drop_7 : decode cX1_drop 7 = .ok (.iload_n 1, 1) := by decide +kernel
theorem dX1_drop_8 : decode cX1_drop 8 = .ok (.invokevirtual 45, 3) := by decide +kernel
theorem dX1_drop_11 : decode cX1_drop 11 = .ok (.istore_n 3, 1) := by decide +kernel
theorem dX1_drop_12 : decode cX1_drop 12 = .ok (.iconst 0, 1) := by decide +kernel
theorem dX1_drop_13 : decode cX1_drop 13 = .ok (.istore 4, 2) := by decide +kernel
theorem dX1_drop_15 : decode cX1_drop 15 = .ok (.iload 4, 2) := by decide +kernel
theorem dX1_drop_17 : decode cX1_drop 17 = .ok (.iload_n 3, 1) := by decide +kernel
theorem dX1_drop_18 : decode cX1_drop 18 = .ok (.if_icmp .ge 17, 3) := by decide +kernel
theorem dX1_drop_21 : decode cX1_drop 21 = .ok (.aload_n 0, 1) := by decide +kernel
theorem dX1_drop_22 : decode cX1_drop 22 = .ok (.getfield 12, 3) := by decide +kernel
theorem dX1_drop_25 : decode cX1_drop 25 = .ok (.iload_n 2, 1) := by decide +kernel
theorem dX1_drop_26 : decode cX1_drop 26 = .ok (.invokevirtual 48, 3) := by decide +kernel
theorem dX1_drop_29 : decode cX1_drop 29 = .ok (.iinc 4 1, 3) := by decide +kernel
theorem dX1_drop_32 : decode cX1_drop 32 = .ok (.goto (-17), 3) := by decide +kernel
theorem dX1_drop_35 : decode cX1_drop 35 = .ok (.aload_n 0, 1) := by decide +kernel
theorem dX1_drop_36 : decode cX1_drop 36 = .ok (.getfield 18, 3) := by decide +kernel
theorem dX1_drop_39 : decode cX1_drop 39 = .ok (.iload_n 1, 1) := by decide +kernel
theorem dX1_drop_40 : decode cX1_drop 40 = .ok (.invokevirtual 48, 3) := by decide +kernel
theorem dX1_drop_43 : decode cX1_drop 43 = .ok (.iload_n 1, 1) := by decide +kernel
theorem dX1_drop_44 : decode cX1_drop 44 = .ok (.istore 4, 2) := by decide +kernel
theorem dX1_drop_46 : decode cX1_drop 46 = .ok (.iload 4, 2) := by decide +kernel
theorem dX1_drop_48 : decode cX1_drop 48 = .ok (.aload_n 0, 1) := by decide +kernel
theorem dX1_drop_49 : decode cX1_drop 49 = .ok (.getfield 18, 3) := by decide +kernel
theorem dX1_drop_52 : decode cX1_drop 52 = .ok (.invokevirtual 21, 3) := by decide +kernel
theorem dX1_drop_55 : decode cX1_drop 55 = .ok (.if_icmp .ge 29, 3) := by decide +kernel
theorem dX1_drop_58 : decode cX1_drop 58 = .ok (.aload_n 0, 1) := by decide +kernel
theorem dX1_drop_59 : decode cX1_drop 59 = .ok (.getfield 18, 3) := by decide +kernel
theorem dX1_drop_62 : decode cX1_drop 62 = .ok (.iload 4, 2) := by decide +kernel
theorem dX1_drop_64 : decode cX1_drop 64 = .ok (.aload_n 0, 1) := by decide +kernel
theorem dX1_drop_65 : decode cX1_drop 65 = .ok (.getfield 18, 3) := by decide +kernel
theorem dX1_drop_68 : decode cX1_drop 68 = .ok (.iload 4, 2) := by decide +kernel
theorem dX1_drop_70 : decode cX1_drop 70 = .ok (.invokevirtual 25, 3) := by decide +kernel
theorem dX1_drop_73 : decode cX1_drop 73 = .ok (.iload_n 3, 1) := by decide +kernel
theorem dX1_drop_74 : decode cX1_drop 74 = .ok (.isub, 1) := by decide +kernel
theorem dX1_drop_75 : decode cX1_drop 75 = .ok (.invokevirtual 51, 3) := by decide +kernel
theorem dX1_drop_78 : decode cX1_drop 78 = .ok (.iinc 4 1, 3) := by decide +kernel
theorem dX1_drop_81 : decode cX1_drop 81 = .ok (.goto (-35), 3) := by decide +kernel
theorem dX1_drop_84 : decode cX1_drop 84 = .ok (.return_, 1) := by decide +kernel
theorem dX1_isSame_0 : decode cX1_isSame 0 = .ok (.aload_n 0, 1) := by decide +kernel
theorem dX1_isSame_1 : decode cX1_isSame 1 = .ok (.iload_n 1, 1) := by decide +kernel
theorem dX1_isSame_2 : decode cX1_isSame 2 = .ok (.invokevirtual 32, 3) := by decide +kernel
theorem dX1_isSame_5 : decode cX1_isSame 5 = .ok (.istore 5, 2) := by decide +kernel
theorem dX1_isSame_7 : decode cX1_isSame 7 = .ok (.aload_n 0, 1) := by decide +kernel
theorem dX1_isSame_8 : decode cX1_isSame 8 = .ok (.getfield 18, 3) := by decide +kernel
theorem dX1_isSame_11 : decode cX1_isSame 11 = .ok (.iload_n 1, 1) := by decide +kernel
theorem dX1_isSame_12 : decode cX1_isSame 12 = .ok (.invokevirtual 25, 3) := by decide +kernel
theorem dX1_isSame_15 : decode cX1_isSame 15 = .ok (.iload 5, 2) := by decide +kernel
theorem dX1_isSame_17 : decode cX1_isSame 17 = .ok (.isub, 1) := by decide +kernel
theorem dX1_isSame_18 : decode cX1_isSame 18 = .ok (.iload 4, 2) := by decide +kernel
theorem dX1_isSame_20 : decode cX1_isSame 20 = .ok (.iload_n 3, 1) := by decide +kernel
theorem dX1_isSame_21 : decode cX1_isSame 21 = .ok (.isub, 1) := by decide +kernel
theorem dX1_isSame_22 : decode cX1_isSame 22 = .ok (.if_icmp .eq 5, 3) := by decide +kernel
theorem dX1_isSame_25 : decode cX1_isSame 25 = .ok (.iconst 0, 1) := by decide +kernel
theorem dX1_isSame_26 : decode cX1_isSame 26 = .ok (.ireturn, 1) := by decide +kernel
theorem dX1_isSame_27 : decode cX1_isSame 27 = .ok (.iconst 0, 1) := by decide +kernel
theorem dX1_isSame_28 : decode cX1_isSame 28 = .ok (.istore 6, 2) := by decide +kernel
theorem dX1_isSame_30 : decode cX1_isSame 30 = .ok (.iload 6, 2) := by decide +kernel
theorem dX1_isSame_32 : decode cX1_isSame 32 = .ok (.iload 4, 2) := by decide +kernel
theorem dX1_isSame_34 : decode cX1_isSame 34 = .ok (.iload_n 3, 1) := by decide +kernel
theorem dX1_isSame_35 : decode cX1_isSame 35 = .ok (.isub, 1) := by decide +kernel
theorem dX1_isSame_36 : decode cX1_isSame 36 = .ok (.if_icmp .ge 34, 3) := by decide +kernel
theorem dX1_isSame_39 : decode cX1_isSame 39 = .ok (.aload_n 0, 1) := by decide +kernel
theorem dX1_isSame_40 : decode cX1_isSame 40 = .ok (.getfield 12, 3) := by decide +kernel
theorem dX1_isSame_43 : decode cX1_isSame 43 = .ok (.iload 5, 2) := by decide +kernel
theorem dX1_isSame_45 : decode cX1_isSame 45 = .ok (.iload 6, 2) := by decide +kernel
theorem dX1_isSame_47 : decode cX1_isSame 47 = .ok (.iadd, 1) := by decide +kernel
theorem dX1_isSame_48 : decode cX1_isSame 48 = .ok (.invokevirtual 25, 3) := by decide +kernel
theorem dX1_isSame_51 : decode cX1_isSame 51 = .ok (.aload_n 2, 1) := by decide +kernel
theorem dX1_isSame_52 : decode cX1_isSame 52 = .ok (.iload_n 3, 1) := by decide +kernel
theorem dX1_isSame_53 : decode cX1_isSame 53 = .ok (.iload 6, 2) := by decide +kernel
theorem dX1_isSame_55 : decode cX1_isSame 55 = .ok (.iadd, 1) := by decide +kernel
theorem dX1_isSame_56 : decode cX1_isSame 56 = .ok (.invokevirtual 25, 3) := by decide +kernel
theorem dX1_isSame_59 : decode cX1_isSame 59 = .ok (.if_icmp .eq 5, 3) := by decide +kernel
theorem dX1_isSame_62 : decode cX1_isSame 62 = .ok (.iconst 0, 1) := by decide +kernel
theorem dX1_isSame_63 : decode cX1_isSame 63 = .ok (.ireturn, 1) := by decide +kernel
theorem dX1_isSame_64 : decode cX1_isSame 64 = .ok (.iinc 6 1, 3) := by decide +kernel
theorem dX1_isSame_67 : decode cX1_isSame 67 = .ok (.goto (-37), 3) := by decide +kernel
theorem dX1_isSame_70 : decode cX1_isSame 70 = .ok (.iconst 1, 1) := by decide +kernel
theorem dX1_isSame_71 : decode cX1_isSame 71 = .ok (.ireturn, 1) := by decide +kernel
theorem dX1_shares_0 : decode cX1_shares 0 = .ok (.iload_n 1, 1) := by decide +kernel
theorem dX1_shares_1 : decode cX1_shares 1 = .ok (.aload_n 0, 1) := by decide +kernel
theorem dX1_shares_2 : decode cX1_shares 2 = .ok (.invokevirtual 35, 3) := by decide +kernel
theorem dX1_shares_5 : decode cX1_shares 5 = .ok (.if_icmp .ge 37, 3) := by decide +kernel
theorem dX1_shares_8 : decode cX1_shares 8 = .ok (.iload_n 1, 1) := by decide +kernel
theorem dX1_shares_9 : decode cX1_shares 9 = .ok (.aload_n 2, 1) := by decide +kernel
theorem dX1_shares_10 : decode cX1_shares 10 = .ok (.invokevirtual 35, 3) := by decide +kernel
theorem dX1_shares_13 : decode cX1_shares 13 = .ok (.if_icmp .ge 29, 3) := by decide +kernel
theorem dX1_shares_16 : decode cX1_shares 16 = .ok (.aload_n 0, 1) := by decide +kernel
theorem dX1_shares_17 : decode cX1_shares 17 = .ok (.iload_n 1, 1) := by decide +kernel
theorem dX1_shares_18 : decode cX1_shares 18 = .ok (.aload_n 2, 1) := by decide +kernel
theorem dX1_shares_19 : decode cX1_shares 19 = .ok (.getfield 12, 3) := by decide +kernel
theorem dX1_shares_22 : decode cX1_shares 22 = .ok (.aload_n 2, 1) := by decide +kernel
theorem dX1_shares_23 : decode cX1_shares 23 = .ok (.iload_n 1, 1) := by decide +kernel
theorem dX1_shares_24 : decode cX1_shares 24 = .ok (.invokevirtual 32, 3) := by decide +kernel
theorem dX1_shares_27 : decode cX1_shares 27 = .ok (.aload_n 2, 1) := by decide +kernel
theorem dX1_shares_28 : decode cX1_shares 28 = .ok (.iload_n 1, 1) := by decide +kernel
theorem dX1_shares_29 : decode cX1_shares 29 = .ok (.invokevirtual 29, 3) := by decide +kernel
theorem dX1_shares_32 : decode cX1_shares 32 = .ok (.invokevirtual 55, 3) := by decide +kernel
theorem dX1_shares_35 : decode cX1_shares 35 = .ok (.ifCond .eq 7, 3) := by decide +kernel
theorem dX1_shares_38 : decode cX1_shares 38 = .ok (.iconst 1, 1) := by decide +kernel
theorem dX1_shares_39 : decode cX1_shares 39 = .ok (.goto 4, 3) := by decide +kernel
theorem dX1_shares_42 : decode cX1_shares 42 = .ok (.iconst 0, 1) := by decide +kernel
theorem dX1_shares_43 : decode cX1_shares 43 = .ok (.ireturn, 1) := by decide +kernel
theorem dX1_takeOver_0 : decode cX1_takeOver 0 = .ok (.aload_n 0, 1) := by decide +kernel
theorem dX1_takeOver_1 : decode cX1_takeOver 1 = .ok (.getfield 12, 3) := by decide +kernel
theorem dX1_takeOver_4 : decode cX1_takeOver 4 = .ok (.aload_n 1, 1) := by decide +kernel
theorem dX1_takeOver_5 : decode cX1_takeOver 5 = .ok (.getfield 12, 3) := by decide +kernel
theorem dX1_takeOver_8 : decode cX1_takeOver 8 = .ok (.invokevirtual 59, 3) := by decide +kernel
theorem dX1_takeOver_11 : decode cX1_takeOver 11 = .ok (.aload_n 0, 1) := by decide +kernel
theorem dX1_takeOver_12 : decode cX1_takeOver 12 = .ok (.getfield 18, 3) := by decide +kernel
theorem dX1_takeOver_15 : decode cX1_takeOver 15 = .ok (.aload_n 1, 1) := by decide +kernel
theorem dX1_takeOver_16 : decode cX1_takeOver 16 = .ok (.getfield 18, 3) := by decide +kernel
theorem dX1_takeOver_19 : decode cX1_takeOver 19 = .ok (.invokevirtual 59, 3) := by decide +kernel
theorem dX1_takeOver_22 : decode cX1_takeOver 22 = .ok (.return_, 1) := by decide +kernel
theorem dX2_init_0 : decode cX2_init 0 = .ok (.aload_n 0, 1) := by decide +kernel
theorem dX2_init_1 : decode cX2_init 1 = .ok (.invokespecial 3, 3) := by decide +kernel
theorem dX2_init_4 : decode cX2_init 4 = .ok (.aload_n 0, 1) := by decide +kernel
theorem dX2_init_5 : decode cX2_init 5 = .ok (.iconst 0, 1) := by decide +kernel
theorem dX2_init_6 : decode cX2_init 6 = .ok (.putfield 9, 3) := by decide +kernel
theorem dX2_init_9 : decode cX2_init 9 = .ok (.aload_n 0, 1) := by decide +kernel
theorem dX2_init_10 : decode cX2_init 10 = .ok (.iload_n 1, 1) := by decide +kernel
theorem dX2_init_11 : decode cX2_init 11 = .ok (.ifCond .ge 7, 3) := by decide +kernel
theorem dX2_init_14 : decode cX2_init 14 = .ok (.iconst 0, 1) := by decide +kernel
theorem dX2_init_15 : decode cX2_init 15 = .ok (.goto 4, 3) := by decide +kernel
theorem dX2_init_18 : decode cX2_init 18 = .ok (.iload_n 1, 1) := by decide +kernel
theorem dX2_init_19 : decode cX2_init 19 = .ok (.newarray .int, 2) := by decide +kernel
theorem dX2_init_21 : decode cX2_init 21 = .ok (.putfield 15, 3) := by decide +kernel
theorem dX2_init_24 : decode cX2_init 24 = .ok (.return_, 1) := by decide +kernel
theorem dX2_count_0 : decode cX2_count 0 = .ok (.aload_n 0, 1) := by decide +kernel
theorem dX2_count_1 : decode cX2_count 1 = .ok (.getfield 9, 3) := by decide +kernel
theorem dX2_count_4 : decode cX2_count 4 = .ok (.ireturn, 1) := by decide +kernel
theorem dX2_isFull_0 : decode cX2_isFull 0 = .ok (.aload_n 0, 1) := by decide +kernel
theorem dX2_isFull_1 : decode cX2_isFull 1 = .ok (.getfield 9, 3) := by decide +kernel
theorem dX2_isFull_4 : decode cX2_isFull 4 = .ok (.aload_n 0, 1) := by decide +kernel
theorem dX2_isFull_5 : decode cX2_isFull 5 = .ok (.getfield 15, 3) := by decide +kernel
theorem dX2_isFull_8 : decode cX2_isFull 8 = .ok (.arraylength, 1) := by decide +kernel
theorem dX2_isFull_9 : decode cX2_isFull 9 = .ok (.if_icmp .lt 7, 3) := by decide +kernel
theorem dX2_isFull_12 : decode cX2_isFull 12 = .ok (.iconst 1, 1) := by decide +kernel
theorem dX2_isFull_13 : decode cX2_isFull 13 = .ok (.goto 4, 3) := by decide +kernel
theorem dX2_isFull_16 : decode cX2_isFull 16 = .ok (.iconst 0, 1) := by decide +kernel
theorem dX2_isFull_17 : decode cX2_isFull 17 = .ok (.ireturn, 1) := by decide +kernel
theorem dX2_get_0 : decode cX2_get 0 = .ok (.iload_n 1, 1) := by decide +kernel
theorem dX2_get_1 : decode cX2_get 1 = .ok (.ifCond .lt 11, 3) := by decide +kernel
theorem dX2_get_4 : decode cX2_get 4 = .ok (.iload_n 1, 1) := by decide +kernel
theorem dX2_get_5 : decode cX2_get 5 = .ok (.aload_n 0, 1) := by decide +kernel
theorem dX2_get_6 : decode cX2_get 6 = .ok (.getfield 9, 3) := by decide +kernel
theorem dX2_get_9 : decode cX2_get 9 = .ok (.if_icmp .lt 7, 3) := by decide +kernel
theorem dX2_get_12 : decode cX2_get 12 = .ok (.iconst 0, 1) := by decide +kernel
theorem dX2_get_13 : decode cX2_get 13 = .ok (.goto 9, 3) := by decide +kernel
theorem dX2_get_16 : decode cX2_get 16 = .ok (.aload_n 0, 1) := by decide +kernel
theorem dX2_get_17 : decode cX2_get 17 = .ok (.getfield 15, 3) := by decide +kernel
theorem dX2_get_20 : decode cX2_get 20 = .ok (.iload_n 1, 1) := by decide +kernel
theorem dX2_get_21 : decode cX2_get 21 = .ok (.iaload, 1) := by decide +kernel
theorem dX2_get_22 : decode cX2_get 22 = .ok (.ireturn, 1) := by decide +kernel
theorem dX2_set_0 : decode cX2_set 0 = .ok (.iload_n 1, 1) := by decide +kernel
theorem dX2_set_1 : decode cX2_set 1 = .ok (.ifCond .lt 18, 3) := by decide +kernel
theorem dX2_set_4 : decode cX2_set 4 = .ok (.iload_n 1, 1) := by decide +kernel
theorem dX2_set_5 : decode cX2_set 5 = .ok (.aload_n 0, 1) := by decide +kernel
theorem dX2_set_6 : decode cX2_set 6 = .ok (.getfield 9, 3) := by decide +kernel
theorem dX2_set_9 : decode cX2_set 9 = .ok (.if_icmp .ge 10, 3) := by decide +kernel
theorem dX2_set_12 : decode cX2_set 12 = .ok (.aload_n 0, 1) := by decide +kernel
theorem dX2_set_13 : decode cX2_set 13 = .ok (.getfield 15, 3) := by decide +kernel
theorem dX2_set_16 : decode cX2_set 16 = .ok (.iload_n 1, 1) := by decide +kernel
theorem dX2_set_17 : decode cX2_set 17 = .ok (.iload_n 2, 1) := by decide +kernel
theorem dX2_set_18 : decode cX2_set 18 = .ok (.iastore, 1) := by decide +kernel
theorem dX2_set_19 : decode cX2_set 19 = .ok (.return_, 1) := by decide +kernel
theorem dX2_add_0 : decode cX2_add 0 = .ok (.aload_n 0, 1) := by decide +kernel
theorem dX2_add_1 : decode cX2_add 1 = .ok (.getfield 9, 3) := by decide +kernel
theorem dX2_add_4 : decode cX2_add 4 = .ok (.aload_n 0, 1) := by decide +kernel
theorem dX2_add_5 : decode cX2_add 5 = .ok (.getfield 15, 3) := by decide +kernel
theorem dX2_add_8 : decode cX2_add 8 = .ok (.arraylength, 1) := by decide +kernel
theorem dX2_add_9 : decode cX2_add 9 = .ok (.if_icmp .ge 23, 3) := by decide +kernel
theorem dX2_add_12 : decode cX2_add 12 = .ok (.aload_n 0, 1) := by decide +kernel
theorem dX2_add_13 : decode cX2_add 13 = .ok (.getfield 15, 3) := by decide +kernel
theorem dX2_add_16 : decode cX2_add 16 = .ok (.aload_n 0, 1) := by decide +kernel
theorem dX2_add_17 : decode cX2_add 17 = .ok (.getfield 9, 3) := by decide +kernel
theorem dX2_add_20 : decode cX2_add 20 = .ok (.iload_n 1, 1) := by decide +kernel
theorem dX2_add_21 : decode cX2_add 21 = .ok (.iastore, 1) := by decide +kernel
theorem dX2_add_22 : decode cX2_add 22 = .ok (.aload_n 0, 1) := by decide +kernel
theorem dX2_add_23 : decode cX2_add 23 = .ok (.dup, 1) := by decide +kernel
theorem dX2_add_24 : decode cX2_add 24 = .ok (.getfield 9, 3) := by decide +kernel
theorem dX2_add_27 : decode cX2_add 27 = .ok (.iconst 1, 1) := by decide +kernel
theorem dX2_add_28 : decode cX2_add 28 = .ok (.iadd, 1) := by decide +kernel
theorem dX2_add_29 : decode cX2_add 29 = .ok (.putfield 9, 3) := by decide +kernel
theorem dX2_add_32 : decode cX2_add 32 = .ok (.return_, 1) := by decide +kernel
theorem dX2_insert_0 : decode cX2_insert 0 = .ok (.iload_n 1, 1) := by decide +kernel
theorem dX2_insert_1 : decode cX2_insert 1 = .ok (.ifCond .lt 61, 3) := by decide +kernel
theorem dX2_insert_4 : decode cX2_insert 4 = .ok (.iload_n 1, 1) := by decide +kernel
theorem dX2_insert_5 : decode cX2_insert 5 = .ok (.aload_n 0, 1) := by decide +kernel
theorem dX2_insert_6 : decode cX2_insert 6 = .ok (.getfield 9, 3) := by decide +kernel
theorem dX2_insert_9 : decode cX2_insert 9 = .ok (.if_icmp .gt 53, 3) := by decide +kernel
theorem dX2_insert_12 : decode cX2_insert 12 = .ok (.aload_n 0, 1) := by decide +kernel
theorem dX2_insert_13 : decode cX2_insert 13 = .ok (.getfield 9, 3) := by decide +kernel
theorem dX2_insert_16 : decode cX2_insert 16 = .ok (.aload_n 0, 1) := by decide +kernel
theorem dX2_insert_17 : decode cX2_insert 17 = .ok (.getfield 15, 3) := by decide +kernel
theorem dX2_insert_20 : decode cX2_insert 20 = .ok (.arraylength, 1) := by decide +kernel
theorem dX2_insert_21 : decode cX2_insert 21 = .ok (.if_icmp .ge 41, 3) := by decide +kernel
theorem dX2_insert_24 : decode cX2_insert 24 = .ok (.aload_n 0, 1) := by decide +kernel
theorem dX2_insert_25 : decode cX2_insert 25 = .ok (.getfield 15, 3) := by decide +kernel
theorem dX2_insert_28 : decode cX2_insert 28 = .ok (.iload_n 1, 1) := by decide +kernel
theorem dX2_insert_29 : decode cX2_insert 29 = .ok (.aload_n 0, 1) := by decide +kernel
theorem dX2_insert_30 : decode cX2_insert 30 = .ok (.getfield 15, 3) := by decide +kernel
theorem dX2_insert_33 : decode cX2_insert 33 = .ok (.iload_n 1, 1) := by decide +kernel
theorem dX2_insert_34 : decode cX2_insert 34 = .ok (.iconst 1, 1) := by decide +kernel
theorem dX2_insert_35 : decode cX2_insert 35 = .ok (.iadd, 1) := by decide +kernel
theorem dX2_insert_36 : decode cX2_insert 36 = .ok (.aload_n 0, 1) := by decide +kernel
theorem dX2_insert_37 : decode cX2_insert 37 = .ok (.getfield 9, 3) := by decide +kernel
theorem dX2_insert_40 : decode cX2_insert 40 = .ok (.iload_n 1, 1) := by decide +kernel
theorem dX2_insert_41 : decode cX2_insert 41 = .ok (.isub, 1) := by decide +kernel
theorem dX2_insert_42 : decode cX2_insert 42 = .ok (.invokestatic 19, 3) := by decide +kernel
theorem dX2_insert_45 : decode cX2_insert 45 = .ok (.aload_n 0, 1) := by decide +kernel
theorem dX2_insert_46 : decode cX2_insert 46 = .ok (.getfield 15, 3) := by decide +kernel
theorem dX2_insert_49 : decode cX2_insert 49 = .ok (.iload_n 1, 1) := by decide +kernel
theorem dX2_insert_50 : decode cX2_insert 50 = .ok (.iload_n 2, 1) := by decide +kernel
theorem dX2_insert_51 : decode cX2_insert 51 = .ok (.iastore, 1) := by decide +kernel
theorem dX2_insert_52 : decode cX2_insert 52 = .ok (.aload_n 0, 1) := by decide +kernel
theorem dX2_insert_53 : decode cX2_insert 53 = .ok (.dup, 1) := by decide +kernel
theorem dX2_insert_54 : decode cX2_insert 54 = .ok (.getfield 9, 3) := by decide +kernel
theorem dX2_insert_57 : decode cX2_insert 57 = .ok (.iconst 1, 1) := by decide +kernel
theorem dX2_insert_58 : decode cX2_insert 58 = .ok (.iadd, 1) := by decide +kernel
theorem dX2_insert_59 : decode cX2_insert 59 = .ok (.putfield 9, 3) := by decide +kernel
theorem dX2_insert_62 : decode cX2_insert 62 = .ok (.return_, 1) := by decide +kernel
theorem dX2_remove_0 : decode cX2_remove 0 = .ok (.iload_n 1, 1) := by decide +kernel
theorem dX2_remove_1 : decode cX2_remove 1 = .ok (.ifCond .lt 42, 3) := by decide +kernel
theorem dX2_remove_4 : decode cX2_remove 4 = .ok (.iload_n 1, 1) := by decide +kernel
theorem dX2_remove_5 : decode cX2_remove 5 = .ok (.aload_n 0, 1) := by decide +kernel
theorem dX2_remove_6 : decode cX2_remove 6 = .ok (.getfield 9, 3) := by decide +kernel
theorem dX2_remove_9 : decode cX2_remove 9 = .ok (.if_icmp .ge 34, 3) := by decide +kernel
theorem dX2_remove_12 : decode cX2_remove 12 = .ok (.aload_n 0, 1) := by decide +kernel
theorem dX2_remove_13 : decode cX2_remove 13 = .ok (.dup, 1) := by decide +kernel
theorem dX2_remove_14 : decode cX2_remove 14 = .ok (.getfield 9, 3) := by decide +kernel
theorem dX2_remove_17 : decode cX2_remove 17 = .ok (.iconst 1, 1) := by decide +kernel
theorem dX2_remove_18 : decode cX2_remove 18 = .ok (.isub, 1) := by decide +kernel
theorem dX2_remove_19 : decode cX2_remove 19 = .ok (.putfield 9, 3) := by decide +kernel
theorem dX2_remove_22 : decode cX2_remove 22 = .ok (.aload_n 0, 1) := by decide +kernel
theorem dX2_remove_23 : decode cX2_remove 23 = .ok (.getfield 15, 3) := by decide +kernel
theorem dX2_remove_26 : decode cX2_remove 26 = .ok (.iload_n 1, 1) := by decide +kernel
theorem dX2_remove_27 : decode cX2_remove 27 = .ok (.iconst 1, 1) := by decide +kernel
theorem dX2_remove_28 : decode cX2_remove 28 = .ok (.iadd, 1) := by decide +kernel
theorem dX2_remove_29 : decode cX2_remove 29 = .ok (.aload_n 0, 1) := by decide +kernel
theorem dX2_remove_30 : decode cX2_remove 30 = .ok (.getfield 15, 3) := by decide +kernel
theorem dX2_remove_33 : decode cX2_remove 33 = .ok (.iload_n 1, 1) := by decide +kernel
theorem dX2_remove_34 : decode cX2_remove 34 = .ok (.aload_n 0, 1) := by decide +kernel
theorem dX2_remove_35 : decode cX2_remove 35 = .ok (.getfield 9, 3) := by decide +kernel
theorem dX2_remove_38 : decode cX2_remove 38 = .ok (.iload_n 1, 1) := by decide +kernel
theorem dX2_remove_39 : decode cX2_remove 39 = .ok (.isub, 1) := by decide +kernel
theorem dX2_remove_40 : decode cX2_remove 40 = .ok (.invokestatic 19, 3) := by decide +kernel
theorem dX2_remove_43 : decode cX2_remove 43 = .ok (.return_, 1) := by decide +kernel
theorem dX2_empty_0 : decode cX2_empty 0 = .ok (.aload_n 0, 1) := by decide +kernel
theorem dX2_empty_1 : decode cX2_empty 1 = .ok (.iconst 0, 1) := by decide +kernel
theorem dX2_empty_2 : decode cX2_empty 2 = .ok (.putfield 9, 3) := by decide +kernel
theorem dX2_empty_5 : decode cX2_empty 5 = .ok (.return_, 1) := by decide +kernel
theorem dX2_placeOf_0 : decode cX2_placeOf 0 = .ok (.iconst 0, 1) := by decide +kernel
theorem dX2_placeOf_1 : decode cX2_placeOf 1 = .ok (.istore_n 2, 1) := by decide +kernel
theorem dX2_placeOf_2 : decode cX2_placeOf 2 = .ok (.iload_n 2, 1) := by decide +kernel
theorem dX2_placeOf_3 : decode cX2_placeOf 3 = .ok (.aload_n 0, 1) := by decide +kernel
theorem dX2_placeOf_4 : decode cX2_placeOf 4 = .ok (.getfield 9, 3) := by decide +kernel
theorem dX2_placeOf_7 : decode cX2_placeOf 7 = .ok (.if_icmp .ge 20, 3) := by decide +kernel
theorem dX2_placeOf_10 : decode cX2_placeOf 10 = .ok (.aload_n 0, 1) := by decide +kernel
theorem dX2_placeOf_11 : decode cX2_placeOf 11 = .ok (.iload_n 2, 1) := by decide +kernel
theorem dX2_placeOf_12 : decode cX2_placeOf 12 = .ok (.invokevirtual 25, 3) := by decide +kernel
theorem dX2_placeOf_15 : decode cX2_placeOf 15 = .ok (.iload_n 1, 1) := by decide +kernel
theorem dX2_placeOf_16 : decode cX2_placeOf 16 = .ok (.if_icmp .ne 5, 3) := by decide +kernel
theorem dX2_placeOf_19 : decode cX2_placeOf 19 = .ok (.iload_n 2, 1) := by decide +kernel
theorem dX2_placeOf_20 : decode cX2_placeOf 20 = .ok (.ireturn, 1) := by decide +kernel
theorem dX2_placeOf_21 : decode cX2_placeOf 21 = .ok (.iinc 2 1, 3) := by decide +kernel
theorem dX2_placeOf_24 : decode cX2_placeOf 24 = .ok (.goto (-22), 3) := by decide +kernel
theorem dX2_placeOf_27 : decode cX2_placeOf 27 = .ok (.iconst (-1), 1) := by decide +kernel
theorem dX2_placeOf_28 : decode cX2_placeOf 28 = .ok (.ireturn, 1) := by decide +kernel
theorem dX2_takeOver_0 : decode cX2_takeOver 0 = .ok (.aload_n 0, 1) := by decide +kernel
theorem dX2_takeOver_1 : decode cX2_takeOver 1 = .ok (.invokevirtual 29, 3) := by decide +kernel
theorem dX2_takeOver_4 : decode cX2_takeOver 4 = .ok (.iconst 0, 1) := by decide +kernel
theorem dX2_takeOver_5 : decode cX2_takeOver 5 = .ok (.istore_n 2, 1) := by decide +kernel
theorem dX2_takeOver_6 : decode cX2_takeOver 6 = .ok (.iload_n 2, 1) := by decide +kernel
theorem dX2_takeOver_7 : decode cX2_takeOver 7 = .ok (.aload_n 1, 1) := by decide +kernel
theorem dX2_takeOver_8 : decode cX2_takeOver 8 = .ok (.invokevirtual 32, 3) := by decide +kernel
theorem dX2_takeOver_11 : decode cX2_takeOver 11 = .ok (.if_icmp .ge 18, 3) := by decide +kernel
theorem dX2_takeOver_14 : decode cX2_takeOver 14 = .ok (.aload_n 0, 1) := by decide +kernel
theorem dX2_takeOver_15 : decode cX2_takeOver 15 = .ok (.aload_n 1, 1) := by decide +kernel
theorem dX2_takeOver_16 : decode cX2_takeOver 16 = .ok (.iload_n 2, 1) := by decide +kernel
theorem dX2_takeOver_17 : decode cX2_takeOver 17 = .ok (.invokevirtual 25, 3) := by decide +kernel
theorem dX2_takeOver_20 : decode cX2_takeOver 20 = .ok (.invokevirtual 35, 3) := by decide +kernel
theorem dX2_takeOver_23 : decode cX2_takeOver 23 = .ok (.iinc 2 1, 3) := by decide +kernel
theorem dX2_takeOver_26 : decode cX2_takeOver 26 = .ok (.goto (-20), 3) := by decide +kernel
theorem dX2_takeOver_29 : decode cX2_takeOver 29 = .ok (.return_, 1) := by decide +kernel
theorem dX3_init_0 : decode cX3_init 0 = .ok (.aload_n 0, 1) := by decide +kernel
theorem dX3_init_1 : decode cX3_init 1 = .ok (.invokespecial 5, 3) := by decide +kernel
theorem dX3_init_4 : decode cX3_init 4 = .ok (.aload_n 0, 1) := by decide +kernel
theorem dX3_init_5 : decode cX3_init 5 = .ok (.new 11, 3) := by decide +kernel
theorem dX3_init_8 : decode cX3_init 8 = .ok (.dup, 1) := by decide +kernel
theorem dX3_init_9 : decode cX3_init 9 = .ok (.bipush 40, 2) := by decide +kernel
theorem dX3_init_11 : decode cX3_init 11 = .ok (.invokespecial 13, 3) := by decide +kernel
theorem dX3_init_14 : decode cX3_init 14 = .ok (.putfield 16, 3) := by decide +kernel
theorem dX3_init_17 : decode cX3_init 17 = .ok (.aload_n 0, 1) := by decide +kernel
theorem dX3_init_18 : decode cX3_init 18 = .ok (.new 11, 3) := by decide +kernel
theorem dX3_init_21 : decode cX3_init 21 = .ok (.dup, 1) := by decide +kernel
theorem dX3_init_22 : decode cX3_init 22 = .ok (.bipush 40, 2) := by decide +kernel
theorem dX3_init_24 : decode cX3_init 24 = .ok (.invokespecial 13, 3) := by decide +kernel
theorem dX3_init_27 : decode cX3_init 27 = .ok (.putfield 20, 3) := by decide +kernel
theorem dX3_init_30 : decode cX3_init 30 = .ok (.aload_n 0, 1) := by decide +kernel
theorem dX3_init_31 : decode cX3_init 31 = .ok (.new 11, 3) := by decide +kernel
theorem dX3_init_34 : decode cX3_init 34 = .ok (.dup, 1) := by decide +kernel
theorem dX3_init_35 : decode cX3_init 35 = .ok (.bipush 40, 2) := by decide +kernel
theorem dX3_init_37 : decode cX3_init 37 = .ok (.invokespecial 13, 3) := by decide +kernel
theorem dX3_init_40 : decode cX3_init 40 = .ok (.putfield 23, 3) := by decide +kernel
theorem dX3_init_43 : decode cX3_init 43 = .ok (.aload_n 0, 1) := by decide +kernel
theorem dX3_init_44 : decode cX3_init 44 = .ok (.new 11, 3) := by decide +kernel
theorem dX3_init_47 : decode cX3_init 47 = .ok (.dup, 1) := by decide +kernel
theorem dX3_init_48 : decode cX3_init 48 = .ok (.bipush 40, 2) := by decide +kernel
theorem dX3_init_50 : decode cX3_init 50 = .ok (.invokespecial 13, 3) := by decide +kernel
theorem dX3_init_53 : decode cX3_init 53 = .ok (.putfield 26, 3) := by decide +kernel
theorem dX3_init_56 : decode cX3_init 56 = .ok (.aload_n 0, 1) := by decide +kernel
theorem dX3_init_57 : decode cX3_init 57 = .ok (.new 29, 3) := by decide +kernel
theorem dX3_init_60 : decode cX3_init 60 = .ok (.dup, 1) := by decide +kernel
theorem dX3_init_61 : decode cX3_init 61 = .ok (.bipush 20, 2) := by decide +kernel
theorem dX3_init_63 : decode cX3_init 63 = .ok (.sipush 1600, 3) := by decide +kernel
theorem dX3_init_66 : decode cX3_init 66 = .ok (.invokespecial 31, 3) := by decide +kernel
theorem dX3_init_69 : decode cX3_init 69 = .ok (.putfield 34, 3) := by decide +kernel
theorem dX3_init_72 : decode cX3_init 72 = .ok (.return_, 1) := by decide +kernel
theorem dX3_keyOf_0 : decode cX3_keyOf 0 = .ok (.iload_n 2, 1) := by decide +kernel
theorem dX3_keyOf_1 : decode cX3_keyOf 1 = .ok (.iconst 1, 1) := by decide +kernel
theorem dX3_keyOf_2 : decode cX3_keyOf 2 = .ok (.if_icmp .lt 8, 3) := by decide +kernel
theorem dX3_keyOf_5 : decode cX3_keyOf 5 = .ok (.iload_n 2, 1) := by decide +kernel
theorem dX3_keyOf_6 : decode cX3_keyOf 6 = .ok (.iconst 4, 1) := by decide +kernel
theorem dX3_keyOf_7 : decode cX3_keyOf 7 = .ok (.if_icmp .le 5, 3) := by decide +kernel
theorem dX3_keyOf_10 : decode cX3_keyOf 10 = .ok (.iconst 0, 1) := by decide +kernel
theorem dX3_keyOf_11 : decode cX3_keyOf 11 = .ok (.ireturn, 1) := by decide +kernel
theorem dX3_keyOf_12 : decode cX3_keyOf 12 = .ok (.iconst 0, 1) := by decide +kernel
theorem dX3_keyOf_13 : decode cX3_keyOf 13 = .ok (.istore_n 3, 1) := by decide +kernel
theorem dX3_keyOf_14 : decode cX3_keyOf 14 = .ok (.iconst 0, 1) := by decide +kernel
theorem dX3_keyOf_15 : decode cX3_keyOf 15 = .ok (.istore 4, 2) := by decide +kernel
theorem dX3_keyOf_17 : decode cX3_keyOf 17 = .ok (.iload 4, 2) := by decide +kernel
theorem dX3_keyOf_19 : decode cX3_keyOf 19 = .ok (.iconst 4, 1) := by decide +kernel
theorem dX3_keyOf_20 : decode cX3_keyOf 20 = .ok (.if_icmp .ge 41, 3) := by decide +kernel
theorem dX3_keyOf_23 : decode cX3_keyOf 23 = .ok (.iload 4, 2) := by decide +kernel
theorem dX3_keyOf_25 : decode cX3_keyOf 25 = .ok (.iload_n 2, 1) := by decide +kernel
theorem dX3_keyOf_26 : decode cX3_keyOf 26 = .ok (.if_icmp .ge 19, 3) := by decide +kernel
theorem dX3_keyOf_29 : decode cX3_keyOf 29 = .ok (.aload_n 0, 1) := by decide +kernel
theorem dX3_keyOf_30 : decode cX3_keyOf 30 = .ok (.iload_n 1, 1) := by decide +kernel
theorem dX3_keyOf_31 : decode cX3_keyOf 31 = .ok (.iload 4, 2) := by decide +kernel
theorem dX3_keyOf_33 : decode cX3_keyOf 33 = .ok (.iadd, 1) := by decide +kernel
theorem dX3_keyOf_34 : decode cX3_keyOf 34 = .ok (.invokevirtual 38, 3) := by decide +kernel
theorem dX3_keyOf_37 : decode cX3_keyOf 37 = .ok (.bipush 97, 2) := by decide +kernel
theorem dX3_keyOf_39 : decode cX3_keyOf 39 = .ok (.isub, 1) := by decide +kernel
theorem dX3_keyOf_40 : decode cX3_keyOf 40 = .ok (.iconst 1, 1) := by decide +kernel
theorem dX3_keyOf_41 : decode cX3_keyOf 41 = .ok (.iadd, 1) := by decide +kernel
theorem dX3_keyOf_42 : decode cX3_keyOf 42 = .ok (.goto 4, 3) := by decide +kernel
theorem dX3_keyOf_45 : decode cX3_keyOf 45 = .ok (.iconst 0, 1) := by decide +kernel
theorem dX3_keyOf_46 : decode cX3_keyOf 46 = .ok (.istore 5, 2) := by decide +kernel
theorem dX3_keyOf_48 : decode cX3_keyOf 48 = .ok (.iload_n 3, 1) := by decide +kernel
theorem dX3_keyOf_49 : decode cX3_keyOf 49 = .ok (.iconst 5, 1) := by decide +kernel
theorem dX3_keyOf_50 : decode cX3_keyOf 50 = .ok (.ishl, 1) := by decide +kernel
theorem dX3_keyOf_51 : decode cX3_keyOf 51 = .ok (.iload 5, 2) := by decide +kernel
theorem dX3_keyOf_53 : decode cX3_keyOf 53 = .ok (.ior, 1) := by decide +kernel
theorem dX3_keyOf_54 : decode cX3_keyOf 54 = .ok (.istore_n 3, 1) := by decide +kernel
theorem dX3_keyOf_55 : decode cX3_keyOf 55 = .ok (.iinc 4 1, 3) := by decide +kernel
theorem dX3_keyOf_58 : decode cX3_keyOf 58 = .ok (.goto (-41), 3) := by decide +kernel
theorem dX3_keyOf_61 : decode cX3_keyOf 61 = .ok (.iload_n 3, 1) := by decide +kernel
theorem dX3_keyOf_62 : decode cX3_keyOf 62 = .ok (.ireturn, 1) := by decide +kernel
theorem dX3_isFull_0 : decode cX3_isFull 0 = .ok (.aload_n 0, 1) := by decide +kernel
theorem dX3_isFull_1 : decode cX3_isFull 1 = .ok (.getfield 16, 3) := by decide +kernel
theorem dX3_isFull_4 : decode cX3_isFull 4 = .ok (.invokevirtual 46, 3) := by decide +kernel
theorem dX3_isFull_7 : decode cX3_isFull 7 = .ok (.ireturn, 1) := by decide +kernel
theorem dX3_placeOf_0 : decode cX3_placeOf 0 = .ok (.aload_n 0, 1) := by decide +kernel
theorem dX3_placeOf_1 : decode cX3_placeOf 1 = .ok (.getfield 16, 3) := by decide +kernel
theorem dX3_placeOf_4 : decode cX3_placeOf 4 = .ok (.iload_n 1, 1) := by decide +kernel
theorem dX3_placeOf_5 : decode cX3_placeOf 5 = .ok (.invokevirtual 50, 3) := by decide +kernel
theorem dX3_placeOf_8 : decode cX3_placeOf 8 = .ok (.ireturn, 1) := by decide +kernel
theorem dX3_insert_0 : decode cX3_insert 0 = .ok (.iconst 0, 1) := by decide +kernel
theorem dX3_insert_1 : decode cX3_insert 1 = .ok (.istore 5, 2) := by decide +kernel
theorem dX3_insert_3 : decode cX3_insert 3 = .ok (.iconst 0, 1) := by decide +kernel
theorem dX3_insert_4 : decode cX3_insert 4 = .ok (.istore 6, 2) := by decide +kernel
theorem dX3_insert_6 : decode cX3_insert 6 = .ok (.iload 6, 2) := by decide +kernel
theorem dX3_insert_8 : decode cX3_insert 8 = .ok (.aload_n 0, 1) := by decide +kernel
theorem dX3_insert_9 : decode cX3_insert 9 = .ok (.getfield 16, 3) := by decide +kernel
theorem dX3_insert_12 : decode cX3_insert 12 = .ok (.invokevirtual 42, 3) := by decide +kernel
theorem dX3_insert_15 : decode cX3_insert 15 = .ok (.if_icmp .ge 28, 3) := by decide +kernel
theorem dX3_insert_18 : decode cX3_insert 18 = .ok (.aload_n 0, 1) := by decide +kernel
theorem dX3_insert_19 : decode cX3_insert 19 = .ok (.getfield 16, 3) := by decide +kernel
theorem dX3_insert_22 : decode cX3_insert 22 = .ok (.iload 6, 2) := by decide +kernel
theorem dX3_insert_24 : decode cX3_insert 24 = .ok (.invokevirtual 38, 3) := by decide +kernel
theorem dX3_insert_27 : decode cX3_insert 27 = .ok (.iload_n 1, 1) := by decide +kernel
theorem dX3_insert_28 : decode cX3_insert 28 = .ok (.if_icmp .ge 9, 3) := by decide +kernel
theorem dX3_insert_31 : decode cX3_insert 31 = .ok (.iload 6, 2) := by decide +kernel
theorem dX3_insert_33 : decode cX3_insert 33 = .ok (.iconst 1, 1) := by decide +kernel
theorem dX3_insert_34 : decode cX3_insert 34 = .ok (.iadd, 1) := by decide +kernel
theorem dX3_insert_35 : decode cX3_insert 35 = .ok (.istore 5, 2) := by decide +kernel
theorem dX3_insert_37 : decode cX3_insert 37 = .ok (.iinc 6 1, 3) := by decide +kernel
theorem dX3_insert_40 : decode cX3_insert 40 = .ok (.goto (-34), 3) := by decide +kernel
theorem dX3_insert_43 : decode cX3_insert 43 = .ok (.aload_n 0, 1) := by decide +kernel
theorem dX3_insert_44 : decode cX3_insert 44 = .ok (.getfield 16, 3) := by decide +kernel
theorem dX3_insert_47 : decode cX3_insert 47 = .ok (.iload 5, 2) := by decide +kernel
theorem dX3_insert_49 : decode cX3_insert 49 = .ok (.iload_n 1, 1) := by decide +kernel
theorem dX3_insert_50 : decode cX3_insert 50 = .ok (.invokevirtual 53, 3) := by decide +kernel
theorem dX3_insert_53 : decode cX3_insert 53 = .ok (.aload_n 0, 1) := by decide +kernel
theorem dX3_insert_54 : decode cX3_insert 54 = .ok (.getfield 20, 3) := by decide +kernel
theorem dX3_insert_57 : decode cX3_insert 57 = .ok (.iload 5, 2) := by decide +kernel
theorem dX3_insert_59 : decode cX3_insert 59 = .ok (.iload_n 2, 1) := by decide +kernel
theorem dX3_insert_60 : decode cX3_insert 60 = .ok (.invokevirtual 53, 3) := by decide +kernel
theorem dX3_insert_63 : decode cX3_insert 63 = .ok (.aload_n 0, 1) := by decide +kernel
theorem dX3_insert_64 : decode cX3_insert 64 = .ok (.getfield 23, 3) := by decide +kernel
theorem dX3_insert_67 : decode cX3_insert 67 = .ok (.iload 5, 2) := by decide +kernel
theorem dX3_insert_69 : decode cX3_insert 69 = .ok (.iload_n 3, 1) := by decide +kernel
theorem dX3_insert_70 : decode cX3_insert 70 = .ok (.invokevirtual 53, 3) := by decide +kernel
theorem dX3_insert_73 : decode cX3_insert 73 = .ok (.aload_n 0, 1) := by decide +kernel
theorem dX3_insert_74 : decode cX3_insert 74 = .ok (.getfield 26, 3) := by decide +kernel
theorem dX3_insert_77 : decode cX3_insert 77 = .ok (.iload 5, 2) := by decide +kernel
theorem dX3_insert_79 : decode cX3_insert 79 = .ok (.iload 4, 2) := by decide +kernel
theorem dX3_insert_81 : decode cX3_insert 81 = .ok (.invokevirtual 53, 3) := by decide +kernel
theorem dX3_insert_84 : decode cX3_insert 84 = .ok (.iload 5, 2) := by decide +kernel
theorem dX3_insert_86 : decode cX3_insert 86 = .ok (.ireturn, 1) := by decide +kernel
theorem dX3_alter_0 : decode cX3_alter 0 = .ok (.aload_n 0, 1) := by decide +kernel
theorem dX3_alter_1 : decode cX3_alter 1 = .ok (.getfield 20, 3) := by decide +kernel
theorem dX3_alter_4 : decode cX3_alter 4 = .ok (.iload_n 1, 1) := by decide +kernel
theorem dX3_alter_5 : decode cX3_alter 5 = .ok (.iload_n 2, 1) := by decide +kernel
theorem dX3_alter_6 : decode cX3_alter 6 = .ok (.invokevirtual 56, 3) := by decide +kernel
theorem dX3_alter_9 : decode cX3_alter 9 = .ok (.aload_n 0, 1) := by decide +kernel
theorem dX3_alter_10 : decode cX3_alter 10 = .ok (.getfield 23, 3) := by decide +kernel
theorem dX3_alter_13 : decode cX3_alter 13 = .ok (.iload_n 1, 1) := by decide +kernel
theorem dX3_alter_14 : decode cX3_alter 14 = .ok (.iload_n 3, 1) := by decide +kernel
theorem dX3_alter_15 : decode cX3_alter 15 = .ok (.invokevirtual 56, 3) := by decide +kernel
theorem dX3_alter_18 : decode cX3_alter 18 = .ok (.aload_n 0, 1) := by decide +kernel
theorem dX3_alter_19 : decode cX3_alter 19 = .ok (.getfield 26, 3) := by decide +kernel
theorem dX3_alter_22 : decode cX3_alter 22 = .ok (.iload_n 1, 1) := by decide +kernel
theorem dX3_alter_23 : decode cX3_alter 23 = .ok (.iload 4, 2) := by decide +kernel
theorem dX3_alter_25 : decode cX3_alter 25 = .ok (.invokevirtual 56, 3) := by decide +kernel
theorem dX3_alter_28 : decode cX3_alter 28 = .ok (.return_, 1) := by decide +kernel
theorem dX3_isInOrder_0 : decode cX3_isInOrder 0 = .ok (.iconst 1, 1) := by decide +kernel
theorem dX3_isInOrder_1 : decode cX3_isInOrder 1 = .ok (.istore_n 1, 1) := by decide +kernel
theorem dX3_isInOrder_2 : decode cX3_isInOrder 2 = .ok (.iload_n 1, 1) := by decide +kernel
theorem dX3_isInOrder_3 : decode cX3_isInOrder 3 = .ok (.aload_n 0, 1) := by decide +kernel
theorem dX3_isInOrder_4 : decode cX3_isInOrder 4 = .ok (.getfield 16, 3) := by decide +kernel
theorem dX3_isInOrder_7 : decode cX3_isInOrder 7 = .ok (.invokevirtual 42, 3) := by decide +kernel
theorem dX3_isInOrder_10 : decode cX3_isInOrder 10 = .ok (.if_icmp .ge 32, 3) := by decide +kernel
theorem dX3_isInOrder_13 : decode cX3_isInOrder 13 = .ok (.aload_n 0, 1) := by decide +kernel
theorem dX3_isInOrder_14 : decode cX3_isInOrder 14 = .ok (.getfield 16, 3) := by decide +kernel
theorem dX3_isInOrder_17 : decode cX3_isInOrder 17 = .ok (.iload_n 1, 1) := by decide +kernel
theorem dX3_isInOrder_18 : decode cX3_isInOrder 18 = .ok (.iconst 1, 1) := by decide +kernel
theorem dX3_isInOrder_19 : decode cX3_isInOrder 19 = .ok (.isub, 1) := by decide +kernel
theorem dX3_isInOrder_20 : decode cX3_isInOrder 20 = .ok (.invokevirtual 38, 3) := by decide +kernel
theorem dX3_isInOrder_23 : decode cX3_isInOrder 23 = .ok (.aload_n 0, 1) := by decide +kernel
theorem dX3_isInOrder_24 : decode cX3_isInOrder 24 = .ok (.getfield 16, 3) := by decide +kernel
theorem dX3_isInOrder_27 : decode cX3_isInOrder 27 = .ok (.iload_n 1, 1) := by decide +kernel
theorem dX3_isInOrder_28 : decode cX3_isInOrder 28 = .ok (.invokevirtual 38, 3) := by decide +kernel
theorem dX3_isInOrder_31 : decode cX3_isInOrder 31 = .ok (.if_icmp .lt 5, 3) := by decide +kernel
theorem dX3_isInOrder_34 : decode cX3_isInOrder 34 = .ok (.iconst 0, 1) := by decide +kernel
theorem dX3_isInOrder_35 : decode cX3_isInOrder 35 = .ok (.ireturn, 1) := by decide +kernel
theorem dX3_isInOrder_36 : decode cX3_isInOrder 36 = .ok (.iinc 1 1, 3) := by decide +kernel
theorem dX3_isInOrder_39 : decode cX3_isInOrder 39 = .ok (.goto (-37), 3) := by decide +kernel
theorem dX3_isInOrder_42 : decode cX3_isInOrder 42 = .ok (.iconst 1, 1) := by decide +kernel
theorem dX3_isInOrder_43 : decode cX3_isInOrder 43 = .ok (.ireturn, 1) := by decide +kernel
theorem dX3_placeOfException_0 : decode cX3_placeOfException 0 = .ok (.iconst 0, 1) := by decide +kernel
theorem dX3_placeOfException_1 : decode cX3_placeOfException 1 = .ok (.istore 4, 2) := by decide +kernel
theorem dX3_placeOfException_3 : decode cX3_placeOfException 3 = .ok (.iload 4, 2) := by decide +kernel
theorem dX3_placeOfException_5 : decode cX3_placeOfException 5 = .ok (.aload_n 0, 1) := by decide +kernel
theorem dX3_placeOfException_6 : decode cX3_placeOfException 6 = .ok (.getfield 34, 3) := by decide +kernel
theorem dX3_placeOfException_9 : decode cX3_placeOfException 9 = .ok (.invokevirtual 62, 3) := by decide +kernel
theorem dX3_placeOfException_12 : decode cX3_placeOfException 12 = .ok (.if_icmp .ge 27, 3) := by decide +kernel
theorem dX3_placeOfException_15 : decode cX3_placeOfException 15 = .ok (.aload_n 0, 1) := by decide +kernel
theorem dX3_placeOfException_16 : decode cX3_placeOfException 16 = .ok (.getfield 34, 3) := by decide +kernel
theorem dX3_placeOfException_19 : decode cX3_placeOfException 19 = .ok (.iload 4, 2) := by decide +kernel
theorem dX3_placeOfException_21 : decode cX3_placeOfException 21 = .ok (.aload_n 1, 1) := by decide +kernel
theorem dX3_placeOfException_22 : decode cX3_placeOfException 22 = .ok (.iload_n 2, 1) := by decide +kernel
theorem dX3_placeOfException_23 : decode cX3_placeOfException 23 = .ok (.iload_n 3, 1) := by decide +kernel
theorem dX3_placeOfException_24 : decode cX3_placeOfException 24 = .ok (.invokevirtual 63, 3) := by decide +kernel
theorem dX3_placeOfException_27 : decode cX3_placeOfException 27 = .ok (.ifCond .eq 6, 3) := by decide +kernel
theorem dX3_placeOfException_30 : decode cX3_placeOfException 30 = .ok (.iload 4, 2) := by decide +kernel
theorem dX3_placeOfException_32 : decode cX3_placeOfException 32 = .ok (.ireturn, 1) := by decide +kernel
theorem dX3_placeOfException_33 : decode cX3_placeOfException 33 = .ok (.iinc 4 1, 3) := by decide +kernel
theorem dX3_placeOfException_36 : decode cX3_placeOfException 36 = .ok (.goto (-33), 3) := by decide +kernel
theorem dX3_placeOfException_39 : decode cX3_placeOfException 39 = .ok (.iconst (-1), 1) := by decide +kernel
theorem dX3_placeOfException_40 : decode cX3_placeOfException 40 = .ok (.ireturn, 1) := by decide +kernel
theorem dX3_isFullOfExceptions_0 : decode cX3_isFullOfExceptions 0 = .ok (.aload_n 0, 1) := by decide +kernel
theorem dX3_isFullOfExceptions_1 : decode cX3_isFullOfExceptions 1 = .ok (.getfield 34, 3) := by decide +kernel
theorem dX3_isFullOfExceptions_4 : decode cX3_isFullOfExceptions 4 = .ok (.invokevirtual 62, 3) := by decide +kernel
theorem dX3_isFullOfExceptions_7 : decode cX3_isFullOfExceptions 7 = .ok (.bipush 20, 2) := by decide +kernel
theorem dX3_isFullOfExceptions_9 : decode cX3_isFullOfExceptions 9 = .ok (.if_icmp .lt 7, 3) := by decide +kernel
theorem dX3_isFullOfExceptions_12 : decode cX3_isFullOfExceptions 12 = .ok (.iconst 1, 1) := by decide +kernel
theorem dX3_isFullOfExceptions_13 : decode cX3_isFullOfExceptions 13 = .ok (.goto 4, 3) := by decide +kernel
theorem dX3_isFullOfExceptions_16 : decode cX3_isFullOfExceptions 16 = .ok (.iconst 0, 1) := by decide +kernel
theorem dX3_isFullOfExceptions_17 : decode cX3_isFullOfExceptions 17 = .ok (.ireturn, 1) := by decide +kernel
theorem dX3_addException_0 : decode cX3_addException 0 = .ok (.iconst 0, 1) := by decide +kernel
theorem dX3_addException_1 : decode cX3_addException 1 = .ok (.istore_n 2, 1) := by decide +kernel
theorem dX3_addException_2 : decode cX3_addException 2 = .ok (.iload_n 2, 1) := by decide +kernel
theorem dX3_addException_3 : decode cX3_addException 3 = .ok (.aload_n 1, 1) := by decide +kernel
theorem dX3_addException_4 : decode cX3_addException 4 = .ok (.invokevirtual 42, 3) := by decide +kernel
theorem dX3_addException_7 : decode cX3_addException 7 = .ok (.if_icmp .ge 21, 3) := by decide +kernel
theorem dX3_addException_10 : decode cX3_addException 10 = .ok (.aload_n 0, 1) := by decide +kernel
theorem dX3_addException_11 : decode cX3_addException 11 = .ok (.getfield 34, 3) := by decide +kernel
theorem dX3_addException_14 : decode cX3_addException 14 = .ok (.aload_n 1, 1) := by decide +kernel
theorem dX3_addException_15 : decode cX3_addException 15 = .ok (.iload_n 2, 1) := by decide +kernel
theorem dX3_addException_16 : decode cX3_addException 16 = .ok (.invokevirtual 38, 3) := by decide +kernel
theorem dX3_addException_19 : decode cX3_addException 19 = .ok (.invokevirtual 67, 3) := by decide +kernel
theorem dX3_addException_22 : decode cX3_addException 22 = .ok (.iinc 2 1, 3) := by decide +kernel
theorem dX3_addException_25 : decode cX3_addException 25 = .ok (.goto (-23), 3) := by decide +kernel
theorem dX3_addException_28 : decode cX3_addException 28 = .ok (.aload_n 0, 1) := by decide +kernel
theorem dX3_addException_29 : decode cX3_addException 29 = .ok (.getfield 34, 3) := by decide +kernel
theorem dX3_addException_32 : decode cX3_addException 32 = .ok (.invokevirtual 70, 3) := by decide +kernel
theorem dX3_addException_35 : decode cX3_addException 35 = .ok (.return_, 1) := by decide +kernel
theorem dX3_dropException_0 : decode cX3_dropException 0 = .ok (.aload_n 0, 1) := by decide +kernel
theorem dX3_dropException_1 : decode cX3_dropException 1 = .ok (.getfield 34, 3) := by decide +kernel
theorem dX3_dropException_4 : decode cX3_dropException 4 = .ok (.iload_n 1, 1) := by decide +kernel
theorem dX3_dropException_5 : decode cX3_dropException 5 = .ok (.invokevirtual 73, 3) := by decide +kernel
theorem dX3_dropException_8 : decode cX3_dropException 8 = .ok (.return_, 1) := by decide +kernel
theorem dX3_translate_0 : decode cX3_translate 0 = .ok (.aload_n 0, 1) := by decide +kernel
theorem dX3_translate_1 : decode cX3_translate 1 = .ok (.aload_n 1, 1) := by decide +kernel
theorem dX3_translate_2 : decode cX3_translate 2 = .ok (.iload_n 2, 1) := by decide +kernel
theorem dX3_translate_3 : decode cX3_translate 3 = .ok (.iload_n 3, 1) := by decide +kernel
theorem dX3_translate_4 : decode cX3_translate 4 = .ok (.invokevirtual 76, 3) := by decide +kernel
theorem dX3_translate_7 : decode cX3_translate 7 = .ok (.iconst (-1), 1) := by decide +kernel
theorem dX3_translate_8 : decode cX3_translate 8 = .ok (.if_icmp .eq 7, 3) := by decide +kernel
theorem dX3_translate_11 : decode cX3_translate 11 = .ok (.iconst 1, 1) := by decide +kernel
theorem dX3_translate_12 : decode cX3_translate 12 = .ok (.goto 4, 3) := by decide +kernel
theorem dX3_translate_15 : decode cX3_translate 15 = .ok (.iconst 0, 1) := by decide +kernel
theorem dX3_translate_16 : decode cX3_translate 16 = .ok (.istore 6, 2) := by decide +kernel
theorem dX3_translate_18 : decode cX3_translate 18 = .ok (.iload 6, 2) := by decide +kernel
theorem dX3_translate_20 : decode cX3_translate 20 = .ok (.ifCond .eq 7, 3) := by decide +kernel
theorem dX3_translate_23 : decode cX3_translate 23 = .ok (.iconst 1, 1) := by decide +kernel
theorem dX3_translate_24 : decode cX3_translate 24 = .ok (.goto 4, 3) := by decide +kernel
theorem dX3_translate_27 : decode cX3_translate 27 = .ok (.iconst 4, 1) := by decide +kernel
theorem dX3_translate_28 : decode cX3_translate 28 = .ok (.istore 7, 2) := by decide +kernel
theorem dX3_translate_30 : decode cX3_translate 30 = .ok (.iload_n 2, 1) := by decide +kernel
theorem dX3_translate_31 : decode cX3_translate 31 = .ok (.istore 8, 2) := by decide +kernel
theorem dX3_translate_33 : decode cX3_translate 33 = .ok (.iload_n 2, 1) := by decide +kernel
theorem dX3_translate_34 : decode cX3_translate 34 = .ok (.istore 9, 2) := by decide +kernel
theorem dX3_translate_36 : decode cX3_translate 36 = .ok (.iload 9, 2) := by decide +kernel
theorem dX3_translate_38 : decode cX3_translate 38 = .ok (.iload_n 3, 1) := by decide +kernel
theorem dX3_translate_39 : decode cX3_translate 39 = .ok (.if_icmp .ge 45, 3) := by decide +kernel
theorem dX3_translate_42 : decode cX3_translate 42 = .ok (.iload 9, 2) := by decide +kernel
theorem dX3_translate_44 : decode cX3_translate 44 = .ok (.iload 8, 2) := by decide +kernel
theorem dX3_translate_46 : decode cX3_translate 46 = .ok (.if_icmp .ne 32, 3) := by decide +kernel
theorem dX3_translate_49 : decode cX3_translate 49 = .ok (.iload 7, 2) := by decide +kernel
theorem dX3_translate_51 : decode cX3_translate 51 = .ok (.iload_n 3, 1) := by decide +kernel
theorem dX3_translate_52 : decode cX3_translate 52 = .ok (.iload 9, 2) := by decide +kernel
theorem dX3_translate_54 : decode cX3_translate 54 = .ok (.isub, 1) := by decide +kernel
theorem dX3_translate_55 : decode cX3_translate 55 = .ok (.invokestatic 80, 3) := by decide +kernel
theorem dX3_translate_58 : decode cX3_translate 58 = .ok (.istore 10, 2) := by decide +kernel
theorem dX3_translate_60 : decode cX3_translate 60 = .ok (.iload 8, 2) := by decide +kernel
theorem dX3_translate_62 : decode cX3_translate 62 = .ok (.aload_n 0, 1) := by decide +kernel
theorem dX3_translate_63 : decode cX3_translate 63 = .ok (.aload_n 1, 1) := by decide +kernel
theorem dX3_translate_64 : decode cX3_translate 64 = .ok (.iload 9, 2) := by decide +kernel
theorem dX3_translate_66 : decode cX3_translate 66 = .ok (.iload 10, 2) := by decide +kernel
theorem dX3_translate_68 : decode cX3_translate 68 = .ok (.iload 4, 2) := by decide +kernel
theorem dX3_translate_70 : decode cX3_translate 70 = .ok (.aload 5, 2) := by decide +kernel
theorem dX3_translate_72 : decode cX3_translate 72 = .ok (.invokevirtual 86, 3) := by decide +kernel
theorem dX3_translate_75 : decode cX3_translate 75 = .ok (.iadd, 1) := by decide +kernel
theorem dX3_translate_76 : decode cX3_translate 76 = .ok (.istore 8, 2) := by decide +kernel
theorem dX3_translate_78 : decode cX3_translate 78 = .ok (.iinc 9 1, 3) := by decide +kernel
theorem dX3_translate_81 : decode cX3_translate 81 = .ok (.goto (-45), 3) := by decide +kernel
theorem dX3_translate_84 : decode cX3_translate 84 = .ok (.return_, 1) := by decide +kernel
theorem dX3_addCells_0 : decode cX3_addCells 0 = .ok (.iload_n 3, 1) := by decide +kernel
theorem dX3_addCells_1 : decode cX3_addCells 1 = .ok (.istore 6, 2) := by decide +kernel
theorem dX3_addCells_3 : decode cX3_addCells 3 = .ok (.iload 6, 2) := by decide +kernel
theorem dX3_addCells_5 : decode cX3_addCells 5 = .ok (.iconst 1, 1) := by decide +kernel
theorem dX3_addCells_6 : decode cX3_addCells 6 = .ok (.if_icmp .lt 88, 3) := by decide +kernel
theorem dX3_addCells_9 : decode cX3_addCells 9 = .ok (.aload_n 0, 1) := by decide +kernel
theorem dX3_addCells_10 : decode cX3_addCells 10 = .ok (.getfield 16, 3) := by decide +kernel
theorem dX3_addCells_13 : decode cX3_addCells 13 = .ok (.aload_n 1, 1) := by decide +kernel
theorem dX3_addCells_14 : decode cX3_addCells 14 = .ok (.iload_n 2, 1) := by decide +kernel
theorem dX3_addCells_15 : decode cX3_addCells 15 = .ok (.iload 6, 2) := by decide +kernel
theorem dX3_addCells_17 : decode cX3_addCells 17 = .ok (.invokestatic 90, 3) := by decide +kernel
theorem dX3_addCells_20 : decode cX3_addCells 20 = .ok (.invokevirtual 50, 3) := by decide +kernel
theorem dX3_addCells_23 : decode cX3_addCells 23 = .ok (.istore 7, 2) := by decide +kernel
theorem dX3_addCells_25 : decode cX3_addCells 25 = .ok (.iload 7, 2) := by decide +kernel
theorem dX3_addCells_27 : decode cX3_addCells 27 = .ok (.iconst (-1), 1) := by decide +kernel
theorem dX3_addCells_28 : decode cX3_addCells 28 = .ok (.if_icmp .eq 60, 3) := by decide +kernel
theorem dX3_addCells_31 : decode cX3_addCells 31 = .ok (.aload_n 0, 1) := by decide +kernel
theorem dX3_addCells_32 : decode cX3_addCells 32 = .ok (.getfield 20, 3) := by decide +kernel
theorem dX3_addCells_35 : decode cX3_addCells 35 = .ok (.iload 7, 2) := by decide +kernel
theorem dX3_addCells_37 : decode cX3_addCells 37 = .ok (.invokevirtual 38, 3) := by decide +kernel
theorem dX3_addCells_40 : decode cX3_addCells 40 = .ok (.iload 4, 2) := by decide +kernel
theorem dX3_addCells_42 : decode cX3_addCells 42 = .ok (.if_icmp .gt 46, 3) := by decide +kernel
theorem dX3_addCells_45 : decode cX3_addCells 45 = .ok (.aload 5, 2) := by decide +kernel
theorem dX3_addCells_47 : decode cX3_addCells 47 = .ok (.aload_n 0, 1) := by decide +kernel
theorem dX3_addCells_48 : decode cX3_addCells 48 = .ok (.getfield 23, 3) := by decide +kernel
theorem dX3_addCells_51 : decode cX3_addCells 51 = .ok (.iload 7, 2) := by decide +kernel
theorem dX3_addCells_53 : decode cX3_addCells 53 = .ok (.invokevirtual 38, 3) := by decide +kernel
theorem dX3_addCells_56 : decode cX3_addCells 56 = .ok (.invokevirtual 67, 3) := by decide +kernel
theorem dX3_addCells_59 : decode cX3_addCells 59 = .ok (.aload_n 0, 1) := by decide +kernel
theorem dX3_addCells_60 : decode cX3_addCells 60 = .ok (.getfield 26, 3) := by decide +kernel
theorem dX3_addCells_63 : decode cX3_addCells 63 = .ok (.iload 7, 2) := by decide +kernel
theorem dX3_addCells_65 : decode cX3_addCells 65 = .ok (.invokevirtual 38, 3) := by decide +kernel
theorem dX3_addCells_68 : decode cX3_addCells 68 = .ok (.ifCond .eq 17, 3) := by decide +kernel
theorem dX3_addCells_71 : decode cX3_addCells 71 = .ok (.aload 5, 2) := by decide +kernel
theorem dX3_addCells_73 : decode cX3_addCells 73 = .ok (.aload_n 0, 1) := by decide +kernel
theorem dX3_addCells_74 : decode cX3_addCells 74 = .ok (.getfield 26, 3) := by decide +kernel
theorem dX3_addCells_77 : decode cX3_addCells 77 = .ok (.iload 7, 2) := by decide +kernel
theorem dX3_addCells_79 : decode cX3_addCells 79 = .ok (.invokevirtual 38, 3) := by decide +kernel
theorem dX3_addCells_82 : decode cX3_addCells 82 = .ok (.invokevirtual 67, 3) := by decide +kernel
theorem dX3_addCells_85 : decode cX3_addCells 85 = .ok (.iload 6, 2) := by decide +kernel
theorem dX3_addCells_87 : decode cX3_addCells 87 = .ok (.ireturn, 1) := by decide +kernel
theorem dX3_addCells_88 : decode cX3_addCells 88 = .ok (.iinc 6 (-1), 3) := by decide +kernel
theorem dX3_addCells_91 : decode cX3_addCells 91 = .ok (.goto (-88), 3) := by decide +kernel
theorem dX3_addCells_94 : decode cX3_addCells 94 = .ok (.aload 5, 2) := by decide +kernel
theorem dX3_addCells_96 : decode cX3_addCells 96 = .ok (.bipush 63, 2) := by decide +kernel
theorem dX3_addCells_98 : decode cX3_addCells 98 = .ok (.invokevirtual 67, 3) := by decide +kernel
theorem dX3_addCells_101 : decode cX3_addCells 101 = .ok (.iconst 1, 1) := by decide +kernel
theorem dX3_addCells_102 : decode cX3_addCells 102 = .ok (.ireturn, 1) := by decide +kernel
end
section
theorem dX4_init_0 : decode cX4_init 0 = .ok (.aload_n 0, 1) := by decide +kernel
theorem dX4_init_1 : decode cX4_init 1 = .ok (.invokespecial 3, 3) := by decide +kernel
theorem dX4_init_4 : decode cX4_init 4 = .ok (.aload_n 0, 1) := by decide +kernel
theorem dX4_init_5 : decode cX4_init 5 = .ok (.new 9, 3) := by decide +kernel
theorem dX4_init_8 : decode cX4_init 8 = .ok (.dup, 1) := by decide +kernel
theorem dX4_init_9 : decode cX4_init 9 = .ok (.bipush 40, 2) := by decide +kernel
theorem dX4_init_11 : decode cX4_init 11 = .ok (.bipush 80, 2) := by decide +kernel
theorem dX4_init_13 : decode cX4_init 13 = .ok (.invokespecial 11, 3) := by decide +kernel
theorem dX4_init_16 : decode cX4_init 16 = .ok (.putfield 14, 3) := by decide +kernel
theorem dX4_init_19 : decode cX4_init 19 = .ok (.aload_n 0, 1) := by decide +kernel
theorem dX4_init_20 : decode cX4_init 20 = .ok (.new 9, 3) := by decide +kernel
theorem dX4_init_23 : decode cX4_init 23 = .ok (.dup, 1) := by decide +kernel
theorem dX4_init_24 : decode cX4_init 24 = .ok (.bipush 40, 2) := by decide +kernel
theorem dX4_init_26 : decode cX4_init 26 = .ok (.sipush 160, 3) := by decide +kernel
theorem dX4_init_29 : decode cX4_init 29 = .ok (.invokespecial 11, 3) := by decide +kernel
theorem dX4_init_32 : decode cX4_init 32 = .ok (.putfield 20, 3) := by decide +kernel
theorem dX4_init_35 : decode cX4_init 35 = .ok (.aload_n 0, 1) := by decide +kernel
theorem dX4_init_36 : decode cX4_init 36 = .ok (.new 23, 3) := by decide +kernel
theorem dX4_init_39 : decode cX4_init 39 = .ok (.dup, 1) := by decide +kernel
theorem dX4_init_40 : decode cX4_init 40 = .ok (.bipush 80, 2) := by decide +kernel
theorem dX4_init_42 : decode cX4_init 42 = .ok (.invokespecial 25, 3) := by decide +kernel
theorem dX4_init_45 : decode cX4_init 45 = .ok (.putfield 28, 3) := by decide +kernel
theorem dX4_init_48 : decode cX4_init 48 = .ok (.aload_n 0, 1) := by decide +kernel
theorem dX4_init_49 : decode cX4_init 49 = .ok (.new 9, 3) := by decide +kernel
theorem dX4_init_52 : decode cX4_init 52 = .ok (.dup, 1) := by decide +kernel
theorem dX4_init_53 : decode cX4_init 53 = .ok (.bipush 60, 2) := by decide +kernel
theorem dX4_init_55 : decode cX4_init 55 = .ok (.sipush 160, 3) := by decide +kernel
theorem dX4_init_58 : decode cX4_init 58 = .ok (.invokespecial 11, 3) := by decide +kernel
theorem dX4_init_61 : decode cX4_init 61 = .ok (.putfield 32, 3) := by decide +kernel
theorem dX4_init_64 : decode cX4_init 64 = .ok (.aload_n 0, 1) := by decide +kernel
theorem dX4_init_65 : decode cX4_init 65 = .ok (.new 23, 3) := by decide +kernel
theorem dX4_init_68 : decode cX4_init 68 = .ok (.dup, 1) := by decide +kernel
theorem dX4_init_69 : decode cX4_init 69 = .ok (.bipush 40, 2) := by decide +kernel
theorem dX4_init_71 : decode cX4_init 71 = .ok (.invokespecial 25, 3) := by decide +kernel
theorem dX4_init_74 : decode cX4_init 74 = .ok (.putfield 35, 3) := by decide +kernel
theorem dX4_init_77 : decode cX4_init 77 = .ok (.aload_n 0, 1) := by decide +kernel
theorem dX4_init_78 : decode cX4_init 78 = .ok (.new 9, 3) := by decide +kernel
theorem dX4_init_81 : decode cX4_init 81 = .ok (.dup, 1) := by decide +kernel
theorem dX4_init_82 : decode cX4_init 82 = .ok (.bipush 60, 2) := by decide +kernel
theorem dX4_init_84 : decode cX4_init 84 = .ok (.sipush 160, 3) := by decide +kernel
theorem dX4_init_87 : decode cX4_init 87 = .ok (.invokespecial 11, 3) := by decide +kernel
theorem dX4_init_90 : decode cX4_init 90 = .ok (.putfield 38, 3) := by decide +kernel
theorem dX4_init_93 : decode cX4_init 93 = .ok (.aload_n 0, 1) := by decide +kernel
theorem dX4_init_94 : decode cX4_init 94 = .ok (.iconst 1, 1) := by decide +kernel
theorem dX4_init_95 : decode cX4_init 95 = .ok (.putfield 41, 3) := by decide +kernel
theorem dX4_init_98 : decode cX4_init 98 = .ok (.return_, 1) := by decide +kernel
theorem dX4_take_0 : decode cX4_take 0 = .ok (.aload_n 0, 1) := by decide +kernel
theorem dX4_take_1 : decode cX4_take 1 = .ok (.iload_n 2, 1) := by decide +kernel
theorem dX4_take_2 : decode cX4_take 2 = .ok (.putfield 41, 3) := by decide +kernel
theorem dX4_take_5 : decode cX4_take 5 = .ok (.aload_n 0, 1) := by decide +kernel
theorem dX4_take_6 : decode cX4_take 6 = .ok (.getfield 14, 3) := by decide +kernel
theorem dX4_take_9 : decode cX4_take 9 = .ok (.invokevirtual 45, 3) := by decide +kernel
theorem dX4_take_12 : decode cX4_take 12 = .ok (.iconst 0, 1) := by decide +kernel
theorem dX4_take_13 : decode cX4_take 13 = .ok (.istore_n 3, 1) := by decide +kernel
theorem dX4_take_14 : decode cX4_take 14 = .ok (.iload_n 3, 1) := by decide +kernel
theorem dX4_take_15 : decode cX4_take 15 = .ok (.aload_n 1, 1) := by decide +kernel
theorem dX4_take_16 : decode cX4_take 16 = .ok (.invokevirtual 48, 3) := by decide +kernel
theorem dX4_take_19 : decode cX4_take 19 = .ok (.if_icmp .ge 41, 3) := by decide +kernel
theorem dX4_take_22 : decode cX4_take 22 = .ok (.aload_n 1, 1) := by decide +kernel
theorem dX4_take_23 : decode cX4_take 23 = .ok (.iload_n 3, 1) := by decide +kernel
theorem dX4_take_24 : decode cX4_take 24 = .ok (.invokevirtual 52, 3) := by decide +kernel
theorem dX4_take_27 : decode cX4_take 27 = .ok (.bipush 32, 2) := by decide +kernel
theorem dX4_take_29 : decode cX4_take 29 = .ok (.if_icmp .ne 13, 3) := by decide +kernel
theorem dX4_take_32 : decode cX4_take 32 = .ok (.aload_n 0, 1) := by decide +kernel
theorem dX4_take_33 : decode cX4_take 33 = .ok (.getfield 14, 3) := by decide +kernel
theorem dX4_take_36 : decode cX4_take 36 = .ok (.invokevirtual 56, 3) := by decide +kernel
theorem dX4_take_39 : decode cX4_take 39 = .ok (.goto 15, 3) := by decide +kernel
theorem dX4_take_42 : decode cX4_take 42 = .ok (.aload_n 0, 1) := by decide +kernel
theorem dX4_take_43 : decode cX4_take 43 = .ok (.getfield 14, 3) := by decide +kernel
theorem dX4_take_46 : decode cX4_take 46 = .ok (.aload_n 1, 1) := by decide +kernel
theorem dX4_take_47 : decode cX4_take 47 = .ok (.iload_n 3, 1) := by decide +kernel
theorem dX4_take_48 : decode cX4_take 48 = .ok (.invokevirtual 52, 3) := by decide +kernel
theorem dX4_take_51 : decode cX4_take 51 = .ok (.invokevirtual 59, 3) := by decide +kernel
theorem dX4_take_54 : decode cX4_take 54 = .ok (.iinc 3 1, 3) := by decide +kernel
theorem dX4_take_57 : decode cX4_take 57 = .ok (.goto (-43), 3) := by decide +kernel
theorem dX4_take_60 : decode cX4_take 60 = .ok (.aload_n 0, 1) := by decide +kernel
theorem dX4_take_61 : decode cX4_take 61 = .ok (.getfield 14, 3) := by decide +kernel
theorem dX4_take_64 : decode cX4_take 64 = .ok (.invokevirtual 56, 3) := by decide +kernel
theorem dX4_take_67 : decode cX4_take 67 = .ok (.aload_n 0, 1) := by decide +kernel
theorem dX4_take_68 : decode cX4_take 68 = .ok (.getfield 28, 3) := by decide +kernel
theorem dX4_take_71 : decode cX4_take 71 = .ok (.invokevirtual 62, 3) := by decide +kernel
theorem dX4_take_74 : decode cX4_take 74 = .ok (.iconst 0, 1) := by decide +kernel
theorem dX4_take_75 : decode cX4_take 75 = .ok (.istore_n 3, 1) := by decide +kernel
theorem dX4_take_76 : decode cX4_take 76 = .ok (.iload_n 3, 1) := by decide +kernel
theorem dX4_take_77 : decode cX4_take 77 = .ok (.iconst 2, 1) := by decide +kernel
theorem dX4_take_78 : decode cX4_take 78 = .ok (.aload_n 0, 1) := by decide +kernel
theorem dX4_take_79 : decode cX4_take 79 = .ok (.getfield 14, 3) := by decide +kernel
theorem dX4_take_82 : decode cX4_take 82 = .ok (.invokevirtual 63, 3) := by decide +kernel
theorem dX4_take_85 : decode cX4_take 85 = .ok (.imul, 1) := by decide +kernel
theorem dX4_take_86 : decode cX4_take 86 = .ok (.if_icmp .ge 18, 3) := by decide +kernel
theorem dX4_take_89 : decode cX4_take 89 = .ok (.aload_n 0, 1) := by decide +kernel
theorem dX4_take_90 : decode cX4_take 90 = .ok (.getfield 28, 3) := by decide +kernel
theorem dX4_take_93 : decode cX4_take 93 = .ok (.bipush 45, 2) := by decide +kernel
theorem dX4_take_95 : decode cX4_take 95 = .ok (.invokevirtual 64, 3) := by decide +kernel
theorem dX4_take_98 : decode cX4_take 98 = .ok (.iinc 3 1, 3) := by decide +kernel
theorem dX4_take_101 : decode cX4_take 101 = .ok (.goto (-25), 3) := by decide +kernel
theorem dX4_take_104 : decode cX4_take 104 = .ok (.return_, 1) := by decide +kernel
theorem dX4_translate_0 : decode cX4_translate 0 = .ok (.iconst 0, 1) := by decide +kernel
theorem dX4_translate_1 : decode cX4_translate 1 = .ok (.istore_n 3, 1) := by decide +kernel
theorem dX4_translate_2 : decode cX4_translate 2 = .ok (.aload_n 2, 1) := by decide +kernel
theorem dX4_translate_3 : decode cX4_translate 3 = .ok (.invokevirtual 45, 3) := by decide +kernel
theorem dX4_translate_6 : decode cX4_translate 6 = .ok (.iconst 0, 1) := by decide +kernel
theorem dX4_translate_7 : decode cX4_translate 7 = .ok (.istore 4, 2) := by decide +kernel
theorem dX4_translate_9 : decode cX4_translate 9 = .ok (.iload 4, 2) := by decide +kernel
theorem dX4_translate_11 : decode cX4_translate 11 = .ok (.aload_n 0, 1) := by decide +kernel
theorem dX4_translate_12 : decode cX4_translate 12 = .ok (.getfield 14, 3) := by decide +kernel
theorem dX4_translate_15 : decode cX4_translate 15 = .ok (.invokevirtual 63, 3) := by decide +kernel
theorem dX4_translate_18 : decode cX4_translate 18 = .ok (.if_icmp .ge 68, 3) := by decide +kernel
theorem dX4_translate_21 : decode cX4_translate 21 = .ok (.aload_n 1, 1) := by decide +kernel
theorem dX4_translate_22 : decode cX4_translate 22 = .ok (.aload_n 0, 1) := by decide +kernel
theorem dX4_translate_23 : decode cX4_translate 23 = .ok (.getfield 14, 3) := by decide +kernel
theorem dX4_translate_26 : decode cX4_translate 26 = .ok (.invokevirtual 65, 3) := by decide +kernel
theorem dX4_translate_29 : decode cX4_translate 29 = .ok (.aload_n 0, 1) := by decide +kernel
theorem dX4_translate_30 : decode cX4_translate 30 = .ok (.getfield 14, 3) := by decide +kernel
theorem dX4_translate_33 : decode cX4_translate 33 = .ok (.iload 4, 2) := by decide +kernel
theorem dX4_translate_35 : decode cX4_translate 35 = .ok (.invokevirtual 69, 3) := by decide +kernel
theorem dX4_translate_38 : decode cX4_translate 38 = .ok (.aload_n 0, 1) := by decide +kernel
theorem dX4_translate_39 : decode cX4_translate 39 = .ok (.getfield 14, 3) := by decide +kernel
theorem dX4_translate_42 : decode cX4_translate 42 = .ok (.iload 4, 2) := by decide +kernel
theorem dX4_translate_44 : decode cX4_translate 44 = .ok (.invokevirtual 72, 3) := by decide +kernel
theorem dX4_translate_47 : decode cX4_translate 47 = .ok (.aload_n 0, 1) := by decide +kernel
theorem dX4_translate_48 : decode cX4_translate 48 = .ok (.getfield 41, 3) := by decide +kernel
theorem dX4_translate_51 : decode cX4_translate 51 = .ok (.aload_n 2, 1) := by decide +kernel
theorem dX4_translate_52 : decode cX4_translate 52 = .ok (.invokevirtual 75, 3) := by decide +kernel
theorem dX4_translate_55 : decode cX4_translate 55 = .ok (.aload_n 2, 1) := by decide +kernel
theorem dX4_translate_56 : decode cX4_translate 56 = .ok (.invokevirtual 56, 3) := by decide +kernel
theorem dX4_translate_59 : decode cX4_translate 59 = .ok (.aload_n 2, 1) := by decide +kernel
theorem dX4_translate_60 : decode cX4_translate 60 = .ok (.iload 4, 2) := by decide +kernel
theorem dX4_translate_62 : decode cX4_translate 62 = .ok (.aload_n 0, 1) := by decide +kernel
theorem dX4_translate_63 : decode cX4_translate 63 = .ok (.getfield 20, 3) := by decide +kernel
theorem dX4_translate_66 : decode cX4_translate 66 = .ok (.invokevirtual 81, 3) := by decide +kernel
theorem dX4_translate_69 : decode cX4_translate 69 = .ok (.ifCond .ne 11, 3) := by decide +kernel
theorem dX4_translate_72 : decode cX4_translate 72 = .ok (.iconst 1, 1) := by decide +kernel
theorem dX4_translate_73 : decode cX4_translate 73 = .ok (.istore_n 3, 1) := by decide +kernel
theorem dX4_translate_74 : decode cX4_translate 74 = .ok (.aload_n 0, 1) := by decide +kernel
theorem dX4_translate_75 : decode cX4_translate 75 = .ok (.iload 4, 2) := by decide +kernel
theorem dX4_translate_77 : decode cX4_translate 77 = .ok (.invokevirtual 85, 3) := by decide +kernel
theorem dX4_translate_80 : decode cX4_translate 80 = .ok (.iinc 4 1, 3) := by decide +kernel
theorem dX4_translate_83 : decode cX4_translate 83 = .ok (.goto (-74), 3) := by decide +kernel
theorem dX4_translate_86 : decode cX4_translate 86 = .ok (.aload_n 0, 1) := by decide +kernel
theorem dX4_translate_87 : decode cX4_translate 87 = .ok (.getfield 20, 3) := by decide +kernel
theorem dX4_translate_90 : decode cX4_translate 90 = .ok (.aload_n 2, 1) := by decide +kernel
theorem dX4_translate_91 : decode cX4_translate 91 = .ok (.invokevirtual 88, 3) := by decide +kernel
theorem dX4_translate_94 : decode cX4_translate 94 = .ok (.iload_n 3, 1) := by decide +kernel
theorem dX4_translate_95 : decode cX4_translate 95 = .ok (.ireturn, 1) := by decide +kernel
theorem dX4_lay_0 : decode cX4_lay 0 = .ok (.aload_n 0, 1) := by decide +kernel
theorem dX4_lay_1 : decode cX4_lay 1 = .ok (.getfield 32, 3) := by decide +kernel
theorem dX4_lay_4 : decode cX4_lay 4 = .ok (.invokevirtual 45, 3) := by decide +kernel
theorem dX4_lay_7 : decode cX4_lay 7 = .ok (.aload_n 0, 1) := by decide +kernel
theorem dX4_lay_8 : decode cX4_lay 8 = .ok (.getfield 35, 3) := by decide +kernel
theorem dX4_lay_11 : decode cX4_lay 11 = .ok (.invokevirtual 62, 3) := by decide +kernel
theorem dX4_lay_14 : decode cX4_lay 14 = .ok (.iconst 0, 1) := by decide +kernel
theorem dX4_lay_15 : decode cX4_lay 15 = .ok (.istore_n 2, 1) := by decide +kernel
theorem dX4_lay_16 : decode cX4_lay 16 = .ok (.iload_n 2, 1) := by decide +kernel
theorem dX4_lay_17 : decode cX4_lay 17 = .ok (.aload_n 0, 1) := by decide +kernel
theorem dX4_lay_18 : decode cX4_lay 18 = .ok (.getfield 20, 3) := by decide +kernel
theorem dX4_lay_21 : decode cX4_lay 21 = .ok (.invokevirtual 63, 3) := by decide +kernel
theorem dX4_lay_24 : decode cX4_lay 24 = .ok (.if_icmp .ge 90, 3) := by decide +kernel
theorem dX4_lay_27 : decode cX4_lay 27 = .ok (.aload_n 0, 1) := by decide +kernel
theorem dX4_lay_28 : decode cX4_lay 28 = .ok (.aload_n 0, 1) := by decide +kernel
theorem dX4_lay_29 : decode cX4_lay 29 = .ok (.getfield 20, 3) := by decide +kernel
theorem dX4_lay_32 : decode cX4_lay 32 = .ok (.iload_n 2, 1) := by decide +kernel
theorem dX4_lay_33 : decode cX4_lay 33 = .ok (.invokevirtual 92, 3) := by decide +kernel
theorem dX4_lay_36 : decode cX4_lay 36 = .ok (.iload_n 1, 1) := by decide +kernel
theorem dX4_lay_37 : decode cX4_lay 37 = .ok (.invokevirtual 95, 3) := by decide +kernel
theorem dX4_lay_40 : decode cX4_lay 40 = .ok (.aload_n 0, 1) := by decide +kernel
theorem dX4_lay_41 : decode cX4_lay 41 = .ok (.getfield 35, 3) := by decide +kernel
theorem dX4_lay_44 : decode cX4_lay 44 = .ok (.aload_n 0, 1) := by decide +kernel
theorem dX4_lay_45 : decode cX4_lay 45 = .ok (.getfield 32, 3) := by decide +kernel
theorem dX4_lay_48 : decode cX4_lay 48 = .ok (.invokevirtual 63, 3) := by decide +kernel
theorem dX4_lay_51 : decode cX4_lay 51 = .ok (.invokevirtual 64, 3) := by decide +kernel
theorem dX4_lay_54 : decode cX4_lay 54 = .ok (.iconst 0, 1) := by decide +kernel
theorem dX4_lay_55 : decode cX4_lay 55 = .ok (.istore_n 3, 1) := by decide +kernel
theorem dX4_lay_56 : decode cX4_lay 56 = .ok (.iload_n 3, 1) := by decide +kernel
theorem dX4_lay_57 : decode cX4_lay 57 = .ok (.aload_n 0, 1) := by decide +kernel
theorem dX4_lay_58 : decode cX4_lay 58 = .ok (.getfield 20, 3) := by decide +kernel
theorem dX4_lay_61 : decode cX4_lay 61 = .ok (.iload_n 2, 1) := by decide +kernel
theorem dX4_lay_62 : decode cX4_lay 62 = .ok (.invokevirtual 92, 3) := by decide +kernel
theorem dX4_lay_65 : decode cX4_lay 65 = .ok (.if_icmp .ge 43, 3) := by decide +kernel
theorem dX4_lay_68 : decode cX4_lay 68 = .ok (.aload_n 0, 1) := by decide +kernel
theorem dX4_lay_69 : decode cX4_lay 69 = .ok (.getfield 32, 3) := by decide +kernel
theorem dX4_lay_72 : decode cX4_lay 72 = .ok (.invokevirtual 98, 3) := by decide +kernel
theorem dX4_lay_75 : decode cX4_lay 75 = .ok (.iload_n 1, 1) := by decide +kernel
theorem dX4_lay_76 : decode cX4_lay 76 = .ok (.if_icmp .lt 10, 3) := by decide +kernel
theorem dX4_lay_79 : decode cX4_lay 79 = .ok (.aload_n 0, 1) := by decide +kernel
theorem dX4_lay_80 : decode cX4_lay 80 = .ok (.getfield 32, 3) := by decide +kernel
theorem dX4_lay_83 : decode cX4_lay 83 = .ok (.invokevirtual 56, 3) := by decide +kernel
theorem dX4_lay_86 : decode cX4_lay 86 = .ok (.aload_n 0, 1) := by decide +kernel
theorem dX4_lay_87 : decode cX4_lay 87 = .ok (.getfield 32, 3) := by decide +kernel
theorem dX4_lay_90 : decode cX4_lay 90 = .ok (.aload_n 0, 1) := by decide +kernel
theorem dX4_lay_91 : decode cX4_lay 91 = .ok (.getfield 20, 3) := by decide +kernel
theorem dX4_lay_94 : decode cX4_lay 94 = .ok (.iload_n 2, 1) := by decide +kernel
theorem dX4_lay_95 : decode cX4_lay 95 = .ok (.iload_n 3, 1) := by decide +kernel
theorem dX4_lay_96 : decode cX4_lay 96 = .ok (.invokevirtual 101, 3) := by decide +kernel
theorem dX4_lay_99 : decode cX4_lay 99 = .ok (.invokevirtual 59, 3) := by decide +kernel
theorem dX4_lay_102 : decode cX4_lay 102 = .ok (.iinc 3 1, 3) := by decide +kernel
theorem dX4_lay_105 : decode cX4_lay 105 = .ok (.goto (-49), 3) := by decide +kernel
theorem dX4_lay_108 : decode cX4_lay 108 = .ok (.iinc 2 1, 3) := by decide +kernel
theorem dX4_lay_111 : decode cX4_lay 111 = .ok (.goto (-95), 3) := by decide +kernel
theorem dX4_lay_114 : decode cX4_lay 114 = .ok (.aload_n 0, 1) := by decide +kernel
theorem dX4_lay_115 : decode cX4_lay 115 = .ok (.getfield 32, 3) := by decide +kernel
theorem dX4_lay_118 : decode cX4_lay 118 = .ok (.invokevirtual 56, 3) := by decide +kernel
theorem dX4_lay_121 : decode cX4_lay 121 = .ok (.return_, 1) := by decide +kernel
theorem dX4_beginWord_0 : decode cX4_beginWord 0 = .ok (.aload_n 0, 1) := by decide +kernel
theorem dX4_beginWord_1 : decode cX4_beginWord 1 = .ok (.getfield 32, 3) := by decide +kernel
theorem dX4_beginWord_4 : decode cX4_beginWord 4 = .ok (.invokevirtual 98, 3) := by decide +kernel
theorem dX4_beginWord_7 : decode cX4_beginWord 7 = .ok (.istore_n 3, 1) := by decide +kernel
theorem dX4_beginWord_8 : decode cX4_beginWord 8 = .ok (.iload_n 3, 1) := by decide +kernel
theorem dX4_beginWord_9 : decode cX4_beginWord 9 = .ok (.ifCond .le 23, 3) := by decide +kernel
theorem dX4_beginWord_12 : decode cX4_beginWord 12 = .ok (.iload_n 3, 1) := by decide +kernel
theorem dX4_beginWord_13 : decode cX4_beginWord 13 = .ok (.iconst 1, 1) := by decide +kernel
theorem dX4_beginWord_14 : decode cX4_beginWord 14 = .ok (.iadd, 1) := by decide +kernel
theorem dX4_beginWord_15 : decode cX4_beginWord 15 = .ok (.iload_n 1, 1) := by decide +kernel
theorem dX4_beginWord_16 : decode cX4_beginWord 16 = .ok (.iadd, 1) := by decide +kernel
theorem dX4_beginWord_17 : decode cX4_beginWord 17 = .ok (.iload_n 2, 1) := by decide +kernel
theorem dX4_beginWord_18 : decode cX4_beginWord 18 = .ok (.if_icmp .gt 14, 3) := by decide +kernel
theorem dX4_beginWord_21 : decode cX4_beginWord 21 = .ok (.aload_n 0, 1) := by decide +kernel
theorem dX4_beginWord_22 : decode cX4_beginWord 22 = .ok (.getfield 32, 3) := by decide +kernel
theorem dX4_beginWord_25 : decode cX4_beginWord 25 = .ok (.iconst 0, 1) := by decide +kernel
theorem dX4_beginWord_26 : decode cX4_beginWord 26 = .ok (.invokevirtual 59, 3) := by decide +kernel
theorem dX4_beginWord_29 : decode cX4_beginWord 29 = .ok (.goto 10, 3) := by decide +kernel
theorem dX4_beginWord_32 : decode cX4_beginWord 32 = .ok (.aload_n 0, 1) := by decide +kernel
theorem dX4_beginWord_33 : decode cX4_beginWord 33 = .ok (.getfield 32, 3) := by decide +kernel
theorem dX4_beginWord_36 : decode cX4_beginWord 36 = .ok (.invokevirtual 56, 3) := by decide +kernel
theorem dX4_beginWord_39 : decode cX4_beginWord 39 = .ok (.return_, 1) := by decide +kernel
theorem dX4_wordCount_0 : decode cX4_wordCount 0 = .ok (.aload_n 0, 1) := by decide +kernel
theorem dX4_wordCount_1 : decode cX4_wordCount 1 = .ok (.getfield 14, 3) := by decide +kernel
theorem dX4_wordCount_4 : decode cX4_wordCount 4 = .ok (.invokevirtual 63, 3) := by decide +kernel
theorem dX4_wordCount_7 : decode cX4_wordCount 7 = .ok (.ireturn, 1) := by decide +kernel
theorem dX4_cellCount_0 : decode cX4_cellCount 0 = .ok (.aload_n 0, 1) := by decide +kernel
theorem dX4_cellCount_1 : decode cX4_cellCount 1 = .ok (.getfield 20, 3) := by decide +kernel
theorem dX4_cellCount_4 : decode cX4_cellCount 4 = .ok (.iload_n 1, 1) := by decide +kernel
theorem dX4_cellCount_5 : decode cX4_cellCount 5 = .ok (.invokevirtual 92, 3) := by decide +kernel
theorem dX4_cellCount_8 : decode cX4_cellCount 8 = .ok (.ireturn, 1) := by decide +kernel
theorem dX4_cellAt_0 : decode cX4_cellAt 0 = .ok (.aload_n 0, 1) := by decide +kernel
theorem dX4_cellAt_1 : decode cX4_cellAt 1 = .ok (.getfield 20, 3) := by decide +kernel
theorem dX4_cellAt_4 : decode cX4_cellAt 4 = .ok (.iload_n 1, 1) := by decide +kernel
theorem dX4_cellAt_5 : decode cX4_cellAt 5 = .ok (.iload_n 2, 1) := by decide +kernel
theorem dX4_cellAt_6 : decode cX4_cellAt 6 = .ok (.invokevirtual 101, 3) := by decide +kernel
theorem dX4_cellAt_9 : decode cX4_cellAt 9 = .ok (.ireturn, 1) := by decide +kernel
theorem dX4_lineCount_0 : decode cX4_lineCount 0 = .ok (.aload_n 0, 1) := by decide +kernel
theorem dX4_lineCount_1 : decode cX4_lineCount 1 = .ok (.getfield 32, 3) := by decide +kernel
theorem dX4_lineCount_4 : decode cX4_lineCount 4 = .ok (.invokevirtual 63, 3) := by decide +kernel
theorem dX4_lineCount_7 : decode cX4_lineCount 7 = .ok (.ireturn, 1) := by decide +kernel
theorem dX4_lineSize_0 : decode cX4_lineSize 0 = .ok (.aload_n 0, 1) := by decide +kernel
theorem dX4_lineSize_1 : decode cX4_lineSize 1 = .ok (.getfield 32, 3) := by decide +kernel
theorem dX4_lineSize_4 : decode cX4_lineSize 4 = .ok (.iload_n 1, 1) := by decide +kernel
theorem dX4_lineSize_5 : decode cX4_lineSize 5 = .ok (.invokevirtual 92, 3) := by decide +kernel
theorem dX4_lineSize_8 : decode cX4_lineSize 8 = .ok (.ireturn, 1) := by decide +kernel
theorem dX4_laidCellAt_0 : decode cX4_laidCellAt 0 = .ok (.aload_n 0, 1) := by decide +kernel
theorem dX4_laidCellAt_1 : decode cX4_laidCellAt 1 = .ok (.getfield 32, 3) := by decide +kernel
theorem dX4_laidCellAt_4 : decode cX4_laidCellAt 4 = .ok (.iload_n 1, 1) := by decide +kernel
theorem dX4_laidCellAt_5 : decode cX4_laidCellAt 5 = .ok (.iload_n 2, 1) := by decide +kernel
theorem dX4_laidCellAt_6 : decode cX4_laidCellAt 6 = .ok (.invokevirtual 101, 3) := by decide +kernel
theorem dX4_laidCellAt_9 : decode cX4_laidCellAt 9 = .ok (.ireturn, 1) := by decide +kernel
theorem dX4_firstLineOf_0 : decode cX4_firstLineOf 0 = .ok (.aload_n 0, 1) := by decide +kernel
theorem dX4_firstLineOf_1 : decode cX4_firstLineOf 1 = .ok (.getfield 35, 3) := by decide +kernel
theorem dX4_firstLineOf_4 : decode cX4_firstLineOf 4 = .ok (.iload_n 1, 1) := by decide +kernel
theorem dX4_firstLineOf_5 : decode cX4_firstLineOf 5 = .ok (.invokevirtual 52, 3) := by decide +kernel
theorem dX4_firstLineOf_8 : decode cX4_firstLineOf 8 = .ok (.ireturn, 1) := by decide +kernel
theorem dX4_isOther_0 : decode cX4_isOther 0 = .ok (.aload_n 0, 1) := by decide +kernel
theorem dX4_isOther_1 : decode cX4_isOther 1 = .ok (.getfield 32, 3) := by decide +kernel
theorem dX4_isOther_4 : decode cX4_isOther 4 = .ok (.iload_n 1, 1) := by decide +kernel
theorem dX4_isOther_5 : decode cX4_isOther 5 = .ok (.aload_n 0, 1) := by decide +kernel
theorem dX4_isOther_6 : decode cX4_isOther 6 = .ok (.getfield 38, 3) := by decide +kernel
theorem dX4_isOther_9 : decode cX4_isOther 9 = .ok (.invokevirtual 81, 3) := by decide +kernel
theorem dX4_isOther_12 : decode cX4_isOther 12 = .ok (.ifCond .ne 7, 3) := by decide +kernel
theorem dX4_isOther_15 : decode cX4_isOther 15 = .ok (.iconst 1, 1) := by decide +kernel
theorem dX4_isOther_16 : decode cX4_isOther 16 = .ok (.goto 4, 3) := by decide +kernel
theorem dX4_isOther_19 : decode cX4_isOther 19 = .ok (.iconst 0, 1) := by decide +kernel
theorem dX4_isOther_20 : decode cX4_isOther 20 = .ok (.ireturn, 1) := by decide +kernel
theorem dX4_otherLineCount_0 : decode cX4_otherLineCount 0 = .ok (.iconst 0, 1) := by decide +kernel
theorem dX4_otherLineCount_1 : decode cX4_otherLineCount 1 = .ok (.istore_n 1, 1) := by decide +kernel
theorem dX4_otherLineCount_2 : decode cX4_otherLineCount 2 = .ok (.iconst 0, 1) := by decide +kernel
theorem dX4_otherLineCount_3 : decode cX4_otherLineCount 3 = .ok (.istore_n 2, 1) := by decide +kernel
theorem dX4_otherLineCount_4 : decode cX4_otherLineCount 4 = .ok (.iload_n 2, 1) := by decide +kernel
theorem dX4_otherLineCount_5 : decode cX4_otherLineCount 5 = .ok (.aload_n 0, 1) := by decide +kernel
theorem dX4_otherLineCount_6 : decode cX4_otherLineCount 6 = .ok (.getfield 32, 3) := by decide +kernel
theorem dX4_otherLineCount_9 : decode cX4_otherLineCount 9 = .ok (.invokevirtual 63, 3) := by decide +kernel
theorem dX4_otherLineCount_12 : decode cX4_otherLineCount 12 = .ok (.aload_n 0, 1) := by decide +kernel
theorem dX4_otherLineCount_13 : decode cX4_otherLineCount 13 = .ok (.getfield 38, 3) := by decide +kernel
theorem dX4_otherLineCount_16 : decode cX4_otherLineCount 16 = .ok (.invokevirtual 63, 3) := by decide +kernel
theorem dX4_otherLineCount_19 : decode cX4_otherLineCount 19 = .ok (.invokestatic 104, 3) := by decide +kernel
theorem dX4_otherLineCount_22 : decode cX4_otherLineCount 22 = .ok (.if_icmp .ge 25, 3) := by decide +kernel
theorem dX4_otherLineCount_25 : decode cX4_otherLineCount 25 = .ok (.iload_n 1, 1) := by decide +kernel
theorem dX4_otherLineCount_26 : decode cX4_otherLineCount 26 = .ok (.aload_n 0, 1) := by decide +kernel
theorem dX4_otherLineCount_27 : decode cX4_otherLineCount 27 = .ok (.iload_n 2, 1) := by decide +kernel
theorem dX4_otherLineCount_28 : decode cX4_otherLineCount 28 = .ok (.invokevirtual 109, 3) := by decide +kernel
theorem dX4_otherLineCount_31 : decode cX4_otherLineCount 31 = .ok (.ifCond .eq 7, 3) := by decide +kernel
theorem dX4_otherLineCount_34 : decode cX4_otherLineCount 34 = .ok (.iconst 1, 1) := by decide +kernel
theorem dX4_otherLineCount_35 : decode cX4_otherLineCount 35 = .ok (.goto 4, 3) := by decide +kernel
theorem dX4_otherLineCount_38 : decode cX4_otherLineCount 38 = .ok (.iconst 0, 1) := by decide +kernel
theorem dX4_otherLineCount_39 : decode cX4_otherLineCount 39 = .ok (.iadd, 1) := by decide +kernel
theorem dX4_otherLineCount_40 : decode cX4_otherLineCount 40 = .ok (.istore_n 1, 1) := by decide +kernel
theorem dX4_otherLineCount_41 : decode cX4_otherLineCount 41 = .ok (.iinc 2 1, 3) := by decide +kernel
theorem dX4_otherLineCount_44 : decode cX4_otherLineCount 44 = .ok (.goto (-40), 3) := by decide +kernel
theorem dX4_otherLineCount_47 : decode cX4_otherLineCount 47 = .ok (.iload_n 1, 1) := by decide +kernel
theorem dX4_otherLineCount_48 : decode cX4_otherLineCount 48 = .ok (.ireturn, 1) := by decide +kernel
theorem dX4_keepAsEmbossed_0 : decode cX4_keepAsEmbossed 0 = .ok (.aload_n 0, 1) := by decide +kernel
theorem dX4_keepAsEmbossed_1 : decode cX4_keepAsEmbossed 1 = .ok (.getfield 38, 3) := by decide +kernel
theorem dX4_keepAsEmbossed_4 : decode cX4_keepAsEmbossed 4 = .ok (.aload_n 0, 1) := by decide +kernel
theorem dX4_keepAsEmbossed_5 : decode cX4_keepAsEmbossed 5 = .ok (.getfield 32, 3) := by decide +kernel
theorem dX4_keepAsEmbossed_8 : decode cX4_keepAsEmbossed 8 = .ok (.invokevirtual 88, 3) := by decide +kernel
theorem dX4_keepAsEmbossed_11 : decode cX4_keepAsEmbossed 11 = .ok (.return_, 1) := by decide +kernel
theorem dX4_putMark_0 : decode cX4_putMark 0 = .ok (.aload_n 0, 1) := by decide +kernel
theorem dX4_putMark_1 : decode cX4_putMark 1 = .ok (.getfield 28, 3) := by decide +kernel
theorem dX4_putMark_4 : decode cX4_putMark 4 = .ok (.iconst 2, 1) := by decide +kernel
theorem dX4_putMark_5 : decode cX4_putMark 5 = .ok (.iload_n 2, 1) := by decide +kernel
theorem dX4_putMark_6 : decode cX4_putMark 6 = .ok (.imul, 1) := by decide +kernel
theorem dX4_putMark_7 : decode cX4_putMark 7 = .ok (.iload_n 1, 1) := by decide +kernel
theorem dX4_putMark_8 : decode cX4_putMark 8 = .ok (.iadd, 1) := by decide +kernel
theorem dX4_putMark_9 : decode cX4_putMark 9 = .ok (.iload_n 3, 1) := by decide +kernel
theorem dX4_putMark_10 : decode cX4_putMark 10 = .ok (.invokevirtual 113, 3) := by decide +kernel
theorem dX4_putMark_13 : decode cX4_putMark 13 = .ok (.return_, 1) := by decide +kernel
theorem dX4_markBy_0 : decode cX4_markBy 0 = .ok (.aload_n 0, 1) := by decide +kernel
theorem dX4_markBy_1 : decode cX4_markBy 1 = .ok (.getfield 28, 3) := by decide +kernel
theorem dX4_markBy_4 : decode cX4_markBy 4 = .ok (.iconst 2, 1) := by decide +kernel
theorem dX4_markBy_5 : decode cX4_markBy 5 = .ok (.iload_n 2, 1) := by decide +kernel
theorem dX4_markBy_6 : decode cX4_markBy 6 = .ok (.imul, 1) := by decide +kernel
theorem dX4_markBy_7 : decode cX4_markBy 7 = .ok (.iload_n 1, 1) := by decide +kernel
theorem dX4_markBy_8 : decode cX4_markBy 8 = .ok (.iadd, 1) := by decide +kernel
theorem dX4_markBy_9 : decode cX4_markBy 9 = .ok (.invokevirtual 52, 3) := by decide +kernel
theorem dX4_markBy_12 : decode cX4_markBy 12 = .ok (.i2c, 1) := by decide +kernel
theorem dX4_markBy_13 : decode cX4_markBy 13 = .ok (.ireturn, 1) := by decide +kernel
theorem dX4_unmark_0 : decode cX4_unmark 0 = .ok (.iconst 0, 1) := by decide +kernel
theorem dX4_unmark_1 : decode cX4_unmark 1 = .ok (.istore_n 2, 1) := by decide +kernel
theorem dX4_unmark_2 : decode cX4_unmark 2 = .ok (.iload_n 2, 1) := by decide +kernel
theorem dX4_unmark_3 : decode cX4_unmark 3 = .ok (.iconst 2, 1) := by decide +kernel
theorem dX4_unmark_4 : decode cX4_unmark 4 = .ok (.if_icmp .ge 17, 3) := by decide +kernel
theorem dX4_unmark_7 : decode cX4_unmark 7 = .ok (.aload_n 0, 1) := by decide +kernel
theorem dX4_unmark_8 : decode cX4_unmark 8 = .ok (.iload_n 2, 1) := by decide +kernel
theorem dX4_unmark_9 : decode cX4_unmark 9 = .ok (.iload_n 1, 1) := by decide +kernel
theorem dX4_unmark_10 : decode cX4_unmark 10 = .ok (.bipush 45, 2) := by decide +kernel
theorem dX4_unmark_12 : decode cX4_unmark 12 = .ok (.invokevirtual 116, 3) := by decide +kernel
theorem dX4_unmark_15 : decode cX4_unmark 15 = .ok (.iinc 2 1, 3) := by decide +kernel
theorem dX4_unmark_18 : decode cX4_unmark 18 = .ok (.goto (-16), 3) := by decide +kernel
theorem dX4_unmark_21 : decode cX4_unmark 21 = .ok (.return_, 1) := by decide +kernel
theorem dX4_isWellLaid_0 : decode cX4_isWellLaid 0 = .ok (.iconst 0, 1) := by decide +kernel
theorem dX4_isWellLaid_1 : decode cX4_isWellLaid 1 = .ok (.istore_n 2, 1) := by decide +kernel
theorem dX4_isWellLaid_2 : decode cX4_isWellLaid 2 = .ok (.iload_n 2, 1) := by decide +kernel
theorem dX4_isWellLaid_3 : decode cX4_isWellLaid 3 = .ok (.aload_n 0, 1) := by decide +kernel
theorem dX4_isWellLaid_4 : decode cX4_isWellLaid 4 = .ok (.getfield 32, 3) := by decide +kernel
theorem dX4_isWellLaid_7 : decode cX4_isWellLaid 7 = .ok (.invokevirtual 63, 3) := by decide +kernel
theorem dX4_isWellLaid_10 : decode cX4_isWellLaid 10 = .ok (.if_icmp .ge 23, 3) := by decide +kernel
theorem dX4_isWellLaid_13 : decode cX4_isWellLaid 13 = .ok (.aload_n 0, 1) := by decide +kernel
theorem dX4_isWellLaid_14 : decode cX4_isWellLaid 14 = .ok (.getfield 32, 3) := by decide +kernel
theorem dX4_isWellLaid_17 : decode cX4_isWellLaid 17 = .ok (.iload_n 2, 1) := by decide +kernel
theorem dX4_isWellLaid_18 : decode cX4_isWellLaid 18 = .ok (.invokevirtual 92, 3) := by decide +kernel
theorem dX4_isWellLaid_21 : decode cX4_isWellLaid 21 = .ok (.iload_n 1, 1) := by decide +kernel
theorem dX4_isWellLaid_22 : decode cX4_isWellLaid 22 = .ok (.if_icmp .le 5, 3) := by decide +kernel
theorem dX4_isWellLaid_25 : decode cX4_isWellLaid 25 = .ok (.iconst 0, 1) := by decide +kernel
theorem dX4_isWellLaid_26 : decode cX4_isWellLaid 26 = .ok (.ireturn, 1) := by decide +kernel
theorem dX4_isWellLaid_27 : decode cX4_isWellLaid 27 = .ok (.iinc 2 1, 3) := by decide +kernel
theorem dX4_isWellLaid_30 : decode cX4_isWellLaid 30 = .ok (.goto (-28), 3) := by decide +kernel
theorem dX4_isWellLaid_33 : decode cX4_isWellLaid 33 = .ok (.aload_n 0, 1) := by decide +kernel
theorem dX4_isWellLaid_34 : decode cX4_isWellLaid 34 = .ok (.getfield 32, 3) := by decide +kernel
theorem dX4_isWellLaid_37 : decode cX4_isWellLaid 37 = .ok (.invokevirtual 65, 3) := by decide +kernel
theorem dX4_isWellLaid_40 : decode cX4_isWellLaid 40 = .ok (.astore_n 2, 1) := by decide +kernel
theorem dX4_isWellLaid_41 : decode cX4_isWellLaid 41 = .ok (.iconst 0, 1) := by decide +kernel
theorem dX4_isWellLaid_42 : decode cX4_isWellLaid 42 = .ok (.istore_n 3, 1) := by decide +kernel
theorem dX4_isWellLaid_43 : decode cX4_isWellLaid 43 = .ok (.iconst 0, 1) := by decide +kernel
theorem dX4_isWellLaid_44 : decode cX4_isWellLaid 44 = .ok (.istore 4, 2) := by decide +kernel
theorem dX4_isWellLaid_46 : decode cX4_isWellLaid 46 = .ok (.iload 4, 2) := by decide +kernel
theorem dX4_isWellLaid_48 : decode cX4_isWellLaid 48 = .ok (.aload_n 2, 1) := by decide +kernel
theorem dX4_isWellLaid_49 : decode cX4_isWellLaid 49 = .ok (.invokevirtual 48, 3) := by decide +kernel
theorem dX4_isWellLaid_52 : decode cX4_isWellLaid 52 = .ok (.if_icmp .ge 43, 3) := by decide +kernel
theorem dX4_isWellLaid_55 : decode cX4_isWellLaid 55 = .ok (.aload_n 2, 1) := by decide +kernel
theorem dX4_isWellLaid_56 : decode cX4_isWellLaid 56 = .ok (.iload 4, 2) := by decide +kernel
theorem dX4_isWellLaid_58 : decode cX4_isWellLaid 58 = .ok (.invokevirtual 52, 3) := by decide +kernel
theorem dX4_isWellLaid_61 : decode cX4_isWellLaid 61 = .ok (.ifCond .eq 28, 3) := by decide +kernel
theorem dX4_isWellLaid_64 : decode cX4_isWellLaid 64 = .ok (.aload_n 2, 1) := by decide +kernel
theorem dX4_isWellLaid_65 : decode cX4_isWellLaid 65 = .ok (.iload 4, 2) := by decide +kernel
theorem dX4_isWellLaid_67 : decode cX4_isWellLaid 67 = .ok (.invokevirtual 52, 3) := by decide +kernel
theorem dX4_isWellLaid_70 : decode cX4_isWellLaid 70 = .ok (.aload_n 0, 1) := by decide +kernel
theorem dX4_isWellLaid_71 : decode cX4_isWellLaid 71 = .ok (.getfield 20, 3) := by decide +kernel
theorem dX4_isWellLaid_74 : decode cX4_isWellLaid 74 = .ok (.invokevirtual 65, 3) := by decide +kernel
theorem dX4_isWellLaid_77 : decode cX4_isWellLaid 77 = .ok (.iload_n 3, 1) := by decide +kernel
theorem dX4_isWellLaid_78 : decode cX4_isWellLaid 78 = .ok (.invokevirtual 52, 3) := by decide +kernel
theorem dX4_isWellLaid_81 : decode cX4_isWellLaid 81 = .ok (.if_icmp .eq 5, 3) := by decide +kernel
theorem dX4_isWellLaid_84 : decode cX4_isWellLaid 84 = .ok (.iconst 0, 1) := by decide +kernel
theorem dX4_isWellLaid_85 : decode cX4_isWellLaid 85 = .ok (.ireturn, 1) := by decide +kernel
theorem dX4_isWellLaid_86 : decode cX4_isWellLaid 86 = .ok (.iinc 3 1, 3) := by decide +kernel
theorem dX4_isWellLaid_89 : decode cX4_isWellLaid 89 = .ok (.iinc 4 1, 3) := by decide +kernel
theorem dX4_isWellLaid_92 : decode cX4_isWellLaid 92 = .ok (.goto (-46), 3) := by decide +kernel
theorem dX4_isWellLaid_95 : decode cX4_isWellLaid 95 = .ok (.iload_n 3, 1) := by decide +kernel
theorem dX4_isWellLaid_96 : decode cX4_isWellLaid 96 = .ok (.aload_n 0, 1) := by decide +kernel
theorem dX4_isWellLaid_97 : decode cX4_isWellLaid 97 = .ok (.getfield 20, 3) := by decide +kernel
theorem dX4_isWellLaid_100 : decode cX4_isWellLaid 100 = .ok (.invokevirtual 65, 3) := by decide +kernel
theorem dX4_isWellLaid_103 : decode cX4_isWellLaid 103 = .ok (.invokevirtual 48, 3) := by decide +kernel
theorem dX4_isWellLaid_106 : decode cX4_isWellLaid 106 = .ok (.if_icmp .ne 7, 3) := by decide +kernel
theorem dX4_isWellLaid_109 : decode cX4_isWellLaid 109 = .ok (.iconst 1, 1) := by decide +kernel
theorem dX4_isWellLaid_110 : decode cX4_isWellLaid 110 = .ok (.goto 4, 3) := by decide +kernel
theorem dX4_isWellLaid_113 : decode cX4_isWellLaid 113 = .ok (.iconst 0, 1) := by decide +kernel
theorem dX4_isWellLaid_114 : decode cX4_isWellLaid 114 = .ok (.ireturn, 1) := by decide +kernel
theorem dX5_init_0 : decode cX5_init 0 = .ok (.aload_n 0, 1) := by decide +kernel
theorem dX5_init_1 : decode cX5_init 1 = .ok (.invokespecial 3, 3) := by decide +kernel
theorem dX5_init_4 : decode cX5_init 4 = .ok (.aload_n 0, 1) := by decide +kernel
theorem dX5_init_5 : decode cX5_init 5 = .ok (.new 9, 3) := by decide +kernel
theorem dX5_init_8 : decode cX5_init 8 = .ok (.dup, 1) := by decide +kernel
theorem dX5_init_9 : decode cX5_init 9 = .ok (.bipush 80, 2) := by decide +kernel
theorem dX5_init_11 : decode cX5_init 11 = .ok (.invokespecial 11, 3) := by decide +kernel
theorem dX5_init_14 : decode cX5_init 14 = .ok (.putfield 14, 3) := by decide +kernel
theorem dX5_init_17 : decode cX5_init 17 = .ok (.aload_n 0, 1) := by decide +kernel
theorem dX5_init_18 : decode cX5_init 18 = .ok (.new 18, 3) := by decide +kernel
theorem dX5_init_21 : decode cX5_init 21 = .ok (.dup, 1) := by decide +kernel
theorem dX5_init_22 : decode cX5_init 22 = .ok (.invokespecial 20, 3) := by decide +kernel
theorem dX5_init_25 : decode cX5_init 25 = .ok (.putfield 21, 3) := by decide +kernel
theorem dX5_init_28 : decode cX5_init 28 = .ok (.aload_n 0, 1) := by decide +kernel
theorem dX5_init_29 : decode cX5_init 29 = .ok (.new 25, 3) := by decide +kernel
theorem dX5_init_32 : decode cX5_init 32 = .ok (.dup, 1) := by decide +kernel
theorem dX5_init_33 : decode cX5_init 33 = .ok (.invokespecial 27, 3) := by decide +kernel
theorem dX5_init_36 : decode cX5_init 36 = .ok (.putfield 28, 3) := by decide +kernel
theorem dX5_init_39 : decode cX5_init 39 = .ok (.aload_n 0, 1) := by decide +kernel
theorem dX5_init_40 : decode cX5_init 40 = .ok (.bipush 6, 2) := by decide +kernel
theorem dX5_init_42 : decode cX5_init 42 = .ok (.anewarray 32, 3) := by decide +kernel
theorem dX5_init_45 : decode cX5_init 45 = .ok (.putfield 34, 3) := by decide +kernel
theorem dX5_init_48 : decode cX5_init 48 = .ok (.aload_n 0, 1) := by decide +kernel
theorem dX5_init_49 : decode cX5_init 49 = .ok (.new 38, 3) := by decide +kernel
theorem dX5_init_52 : decode cX5_init 52 = .ok (.dup, 1) := by decide +kernel
theorem dX5_init_53 : decode cX5_init 53 = .ok (.bipush 40, 2) := by decide +kernel
theorem dX5_init_55 : decode cX5_init 55 = .ok (.sipush 160, 3) := by decide +kernel
theorem dX5_init_58 : decode cX5_init 58 = .ok (.invokespecial 40, 3) := by decide +kernel
theorem dX5_init_61 : decode cX5_init 61 = .ok (.putfield 43, 3) := by decide +kernel
theorem dX5_init_64 : decode cX5_init 64 = .ok (.aload_n 0, 1) := by decide +kernel
theorem dX5_init_65 : decode cX5_init 65 = .ok (.iconst 0, 1) := by decide +kernel
theorem dX5_init_66 : decode cX5_init 66 = .ok (.putfield 47, 3) := by decide +kernel
theorem dX5_init_69 : decode cX5_init 69 = .ok (.aload_n 0, 1) := by decide +kernel
theorem dX5_init_70 : decode cX5_init 70 = .ok (.bipush 20, 2) := by decide +kernel
theorem dX5_init_72 : decode cX5_init 72 = .ok (.putfield 51, 3) := by decide +kernel
theorem dX5_init_75 : decode cX5_init 75 = .ok (.return_, 1) := by decide +kernel
theorem dX5_type_0 : decode cX5_type 0 = .ok (.iload_n 1, 1) := by decide +kernel
theorem dX5_type_1 : decode cX5_type 1 = .ok (.bipush 32, 2) := by decide +kernel
theorem dX5_type_3 : decode cX5_type 3 = .ok (.if_icmp .eq 25, 3) := by decide +kernel
theorem dX5_type_6 : decode cX5_type 6 = .ok (.iload_n 1, 1) := by decide +kernel
theorem dX5_type_7 : decode cX5_type 7 = .ok (.bipush 97, 2) := by decide +kernel
theorem dX5_type_9 : decode cX5_type 9 = .ok (.if_icmp .lt 9, 3) := by decide +kernel
theorem dX5_type_12 : decode cX5_type 12 = .ok (.iload_n 1, 1) := by decide +kernel
theorem dX5_type_13 : decode cX5_type 13 = .ok (.bipush 122, 2) := by decide +kernel
theorem dX5_type_15 : decode cX5_type 15 = .ok (.if_icmp .le 13, 3) := by decide +kernel
theorem dX5_type_18 : decode cX5_type 18 = .ok (.new 54, 3) := by decide +kernel
theorem dX5_type_21 : decode cX5_type 21 = .ok (.dup, 1) := by decide +kernel
theorem dX5_type_22 : decode cX5_type 22 = .ok (.ldc 56, 2) := by decide +kernel
theorem dX5_type_24 : decode cX5_type 24 = .ok (.invokespecial 58, 3) := by decide +kernel
theorem dX5_type_27 : decode cX5_type 27 = .ok (.athrow, 1) := by decide +kernel
theorem dX5_type_28 : decode cX5_type 28 = .ok (.aload_n 0, 1) := by decide +kernel
theorem dX5_type_29 : decode cX5_type 29 = .ok (.getfield 14, 3) := by decide +kernel
theorem dX5_type_32 : decode cX5_type 32 = .ok (.invokevirtual 61, 3) := by decide +kernel
theorem dX5_type_35 : decode cX5_type 35 = .ok (.ifCond .eq 13, 3) := by decide +kernel
theorem dX5_type_38 : decode cX5_type 38 = .ok (.new 65, 3) := by decide +kernel
theorem dX5_type_41 : decode cX5_type 41 = .ok (.dup, 1) := by decide +kernel
theorem dX5_type_42 : decode cX5_type 42 = .ok (.ldc 67, 2) := by decide +kernel
theorem dX5_type_44 : decode cX5_type 44 = .ok (.invokespecial 69, 3) := by decide +kernel
theorem dX5_type_47 : decode cX5_type 47 = .ok (.athrow, 1) := by decide +kernel
theorem dX5_type_48 : decode cX5_type 48 = .ok (.aload_n 0, 1) := by decide +kernel
theorem dX5_type_49 : decode cX5_type 49 = .ok (.getfield 14, 3) := by decide +kernel
theorem dX5_type_52 : decode cX5_type 52 = .ok (.iload_n 1, 1) := by decide +kernel
theorem dX5_type_53 : decode cX5_type 53 = .ok (.invokevirtual 70, 3) := by decide +kernel
theorem dX5_type_56 : decode cX5_type 56 = .ok (.aload_n 0, 1) := by decide +kernel
theorem dX5_type_57 : decode cX5_type 57 = .ok (.getfield 14, 3) := by decide +kernel
theorem dX5_type_60 : decode cX5_type 60 = .ok (.invokevirtual 73, 3) := by decide +kernel
theorem dX5_type_63 : decode cX5_type 63 = .ok (.ireturn, 1) := by decide +kernel
theorem dX5_clear_0 : decode cX5_clear 0 = .ok (.aload_n 0, 1) := by decide +kernel
theorem dX5_clear_1 : decode cX5_clear 1 = .ok (.getfield 14, 3) := by decide +kernel
theorem dX5_clear_4 : decode cX5_clear 4 = .ok (.invokevirtual 73, 3) := by decide +kernel
theorem dX5_clear_7 : decode cX5_clear 7 = .ok (.istore_n 1, 1) := by decide +kernel
theorem dX5_clear_8 : decode cX5_clear 8 = .ok (.aload_n 0, 1) := by decide +kernel
theorem dX5_clear_9 : decode cX5_clear 9 = .ok (.getfield 14, 3) := by decide +kernel
theorem dX5_clear_12 : decode cX5_clear 12 = .ok (.invokevirtual 77, 3) := by decide +kernel
theorem dX5_clear_15 : decode cX5_clear 15 = .ok (.iload_n 1, 1) := by decide +kernel
theorem dX5_clear_16 : decode cX5_clear 16 = .ok (.ireturn, 1) := by decide +kernel
theorem dX5_addRule_0 : decode cX5_addRule 0 = .ok (.aload_n 0, 1) := by decide +kernel
theorem dX5_addRule_1 : decode cX5_addRule 1 = .ok (.invokevirtual 80, 3) := by decide +kernel
theorem dX5_addRule_4 : decode cX5_addRule 4 = .ok (.istore 4, 2) := by decide +kernel
theorem dX5_addRule_6 : decode cX5_addRule 6 = .ok (.iload_n 1, 1) := by decide +kernel
theorem dX5_addRule_7 : decode cX5_addRule 7 = .ok (.iload_n 2, 1) := by decide +kernel
theorem dX5_addRule_8 : decode cX5_addRule 8 = .ok (.iload_n 3, 1) := by decide +kernel
theorem dX5_addRule_9 : decode cX5_addRule 9 = .ok (.invokestatic 83, 3) := by decide +kernel
theorem dX5_addRule_12 : decode cX5_addRule 12 = .ok (.ifCond .eq 8, 3) := by decide +kernel
theorem dX5_addRule_15 : decode cX5_addRule 15 = .ok (.iload 4, 2) := by decide +kernel
theorem dX5_addRule_17 : decode cX5_addRule 17 = .ok (.ifCond .ne 13, 3) := by decide +kernel
theorem dX5_addRule_20 : decode cX5_addRule 20 = .ok (.new 54, 3) := by decide +kernel
theorem dX5_addRule_23 : decode cX5_addRule 23 = .ok (.dup, 1) := by decide +kernel
theorem dX5_addRule_24 : decode cX5_addRule 24 = .ok (.ldc 87, 2) := by decide +kernel
theorem dX5_addRule_26 : decode cX5_addRule 26 = .ok (.invokespecial 58, 3) := by decide +kernel
theorem dX5_addRule_29 : decode cX5_addRule 29 = .ok (.athrow, 1) := by decide +kernel
theorem dX5_addRule_30 : decode cX5_addRule 30 = .ok (.aload_n 0, 1) := by decide +kernel
theorem dX5_addRule_31 : decode cX5_addRule 31 = .ok (.getfield 21, 3) := by decide +kernel
theorem dX5_addRule_34 : decode cX5_addRule 34 = .ok (.invokevirtual 89, 3) := by decide +kernel
theorem dX5_addRule_37 : decode cX5_addRule 37 = .ok (.ifCond .eq 13, 3) := by decide +kernel
theorem dX5_addRule_40 : decode cX5_addRule 40 = .ok (.new 65, 3) := by decide +kernel
theorem dX5_addRule_43 : decode cX5_addRule 43 = .ok (.dup, 1) := by decide +kernel
theorem dX5_addRule_44 : decode cX5_addRule 44 = .ok (.ldc 90, 2) := by decide +kernel
theorem dX5_addRule_46 : decode cX5_addRule 46 = .ok (.invokespecial 69, 3) := by decide +kernel
theorem dX5_addRule_49 : decode cX5_addRule 49 = .ok (.athrow, 1) := by decide +kernel
theorem dX5_addRule_50 : decode cX5_addRule 50 = .ok (.aload_n 0, 1) := by decide +kernel
theorem dX5_addRule_51 : decode cX5_addRule 51 = .ok (.getfield 21, 3) := by decide +kernel
theorem dX5_addRule_54 : decode cX5_addRule 54 = .ok (.iload 4, 2) := by decide +kernel
theorem dX5_addRule_56 : decode cX5_addRule 56 = .ok (.invokevirtual 92, 3) := by decide +kernel
theorem dX5_addRule_59 : decode cX5_addRule 59 = .ok (.iconst (-1), 1) := by decide +kernel
theorem dX5_addRule_60 : decode cX5_addRule 60 = .ok (.if_icmp .eq 13, 3) := by decide +kernel
theorem dX5_addRule_63 : decode cX5_addRule 63 = .ok (.new 96, 3) := by decide +kernel
theorem dX5_addRule_66 : decode cX5_addRule 66 = .ok (.dup, 1) := by decide +kernel
theorem dX5_addRule_67 : decode cX5_addRule 67 = .ok (.ldc 98, 2) := by decide +kernel
theorem dX5_addRule_69 : decode cX5_addRule 69 = .ok (.invokespecial 100, 3) := by decide +kernel
theorem dX5_addRule_72 : decode cX5_addRule 72 = .ok (.athrow, 1) := by decide +kernel
theorem dX5_addRule_73 : decode cX5_addRule 73 = .ok (.aload_n 0, 1) := by decide +kernel
theorem dX5_addRule_74 : decode cX5_addRule 74 = .ok (.getfield 21, 3) := by decide +kernel
theorem dX5_addRule_77 : decode cX5_addRule 77 = .ok (.iload 4, 2) := by decide +kernel
theorem dX5_addRule_79 : decode cX5_addRule 79 = .ok (.iload_n 1, 1) := by decide +kernel
theorem dX5_addRule_80 : decode cX5_addRule 80 = .ok (.iload_n 2, 1) := by decide +kernel
theorem dX5_addRule_81 : decode cX5_addRule 81 = .ok (.iload_n 3, 1) := by decide +kernel
theorem dX5_addRule_82 : decode cX5_addRule 82 = .ok (.invokevirtual 101, 3) := by decide +kernel
theorem dX5_addRule_85 : decode cX5_addRule 85 = .ok (.istore 5, 2) := by decide +kernel
theorem dX5_addRule_87 : decode cX5_addRule 87 = .ok (.aload_n 0, 1) := by decide +kernel
theorem dX5_addRule_88 : decode cX5_addRule 88 = .ok (.getfield 14, 3) := by decide +kernel
theorem dX5_addRule_91 : decode cX5_addRule 91 = .ok (.invokevirtual 77, 3) := by decide +kernel
theorem dX5_addRule_94 : decode cX5_addRule 94 = .ok (.aload_n 0, 1) := by decide +kernel
theorem dX5_addRule_95 : decode cX5_addRule 95 = .ok (.invokevirtual 105, 3) := by decide +kernel
theorem dX5_addRule_98 : decode cX5_addRule 98 = .ok (.pop, 1) := by decide +kernel
theorem dX5_addRule_99 : decode cX5_addRule 99 = .ok (.iload 5, 2) := by decide +kernel
theorem dX5_addRule_101 : decode cX5_addRule 101 = .ok (.ireturn, 1) := by decide +kernel
theorem dX5_mend_0 : decode cX5_mend 0 = .ok (.iload_n 1, 1) := by decide +kernel
theorem dX5_mend_1 : decode cX5_mend 1 = .ok (.iload_n 2, 1) := by decide +kernel
theorem dX5_mend_2 : decode cX5_mend 2 = .ok (.iload_n 3, 1) := by decide +kernel
theorem dX5_mend_3 : decode cX5_mend 3 = .ok (.invokestatic 83, 3) := by decide +kernel
theorem dX5_mend_6 : decode cX5_mend 6 = .ok (.ifCond .ne 13, 3) := by decide +kernel
theorem dX5_mend_9 : decode cX5_mend 9 = .ok (.new 54, 3) := by decide +kernel
theorem dX5_mend_12 : decode cX5_mend 12 = .ok (.dup, 1) := by decide +kernel
theorem dX5_mend_13 : decode cX5_mend 13 = .ok (.ldc 108, 2) := by decide +kernel
theorem dX5_mend_15 : decode cX5_mend 15 = .ok (.invokespecial 58, 3) := by decide +kernel
theorem dX5_mend_18 : decode cX5_mend 18 = .ok (.athrow, 1) := by decide +kernel
theorem dX5_mend_19 : decode cX5_mend 19 = .ok (.aload_n 0, 1) := by decide +kernel
theorem dX5_mend_20 : decode cX5_mend 20 = .ok (.getfield 21, 3) := by decide +kernel
theorem dX5_mend_23 : decode cX5_mend 23 = .ok (.aload_n 0, 1) := by decide +kernel
theorem dX5_mend_24 : decode cX5_mend 24 = .ok (.invokevirtual 80, 3) := by decide +kernel
theorem dX5_mend_27 : decode cX5_mend 27 = .ok (.invokevirtual 92, 3) := by decide +kernel
theorem dX5_mend_30 : decode cX5_mend 30 = .ok (.istore 4, 2) := by decide +kernel
theorem dX5_mend_32 : decode cX5_mend 32 = .ok (.iload 4, 2) := by decide +kernel
theorem dX5_mend_34 : decode cX5_mend 34 = .ok (.iconst (-1), 1) := by decide +kernel
theorem dX5_mend_35 : decode cX5_mend 35 = .ok (.if_icmp .ne 13, 3) := by decide +kernel
theorem dX5_mend_38 : decode cX5_mend 38 = .ok (.new 110, 3) := by decide +kernel
theorem dX5_mend_41 : decode cX5_mend 41 = .ok (.dup, 1) := by decide +kernel
theorem dX5_mend_42 : decode cX5_mend 42 = .ok (.ldc 112, 2) := by decide +kernel
theorem dX5_mend_44 : decode cX5_mend 44 = .ok (.invokespecial 114, 3) := by decide +kernel
theorem dX5_mend_47 : decode cX5_mend 47 = .ok (.athrow, 1) := by decide +kernel
theorem dX5_mend_48 : decode cX5_mend 48 = .ok (.aload_n 0, 1) := by decide +kernel
theorem dX5_mend_49 : decode cX5_mend 49 = .ok (.getfield 21, 3) := by decide +kernel
theorem dX5_mend_52 : decode cX5_mend 52 = .ok (.iload 4, 2) := by decide +kernel
theorem dX5_mend_54 : decode cX5_mend 54 = .ok (.iload_n 1, 1) := by decide +kernel
theorem dX5_mend_55 : decode cX5_mend 55 = .ok (.iload_n 2, 1) := by decide +kernel
theorem dX5_mend_56 : decode cX5_mend 56 = .ok (.iload_n 3, 1) := by decide +kernel
theorem dX5_mend_57 : decode cX5_mend 57 = .ok (.invokevirtual 115, 3) := by decide +kernel
theorem dX5_mend_60 : decode cX5_mend 60 = .ok (.aload_n 0, 1) := by decide +kernel
theorem dX5_mend_61 : decode cX5_mend 61 = .ok (.getfield 14, 3) := by decide +kernel
theorem dX5_mend_64 : decode cX5_mend 64 = .ok (.invokevirtual 77, 3) := by decide +kernel
theorem dX5_mend_67 : decode cX5_mend 67 = .ok (.aload_n 0, 1) := by decide +kernel
theorem dX5_mend_68 : decode cX5_mend 68 = .ok (.invokevirtual 105, 3) := by decide +kernel
theorem dX5_mend_71 : decode cX5_mend 71 = .ok (.ireturn, 1) := by decide +kernel
theorem dX5_turnException_0 : decode cX5_turnException 0 = .ok (.aload_n 0, 1) := by decide +kernel
theorem dX5_turnException_1 : decode cX5_turnException 1 = .ok (.getfield 14, 3) := by decide +kernel
theorem dX5_turnException_4 : decode cX5_turnException 4 = .ok (.invokevirtual 73, 3) := by decide +kernel
theorem dX5_turnException_7 : decode cX5_turnException 7 = .ok (.ifCond .eq 16, 3) := by decide +kernel
theorem dX5_turnException_10 : decode cX5_turnException 10 = .ok (.aload_n 0, 1) := by decide +kernel
theorem dX5_turnException_11 : decode cX5_turnException 11 = .ok (.getfield 14, 3) := by decide +kernel
theorem dX5_turnException_14 : decode cX5_turnException 14 = .ok (.bipush 32, 2) := by decide +kernel
theorem dX5_turnException_16 : decode cX5_turnException 16 = .ok (.invokevirtual 138, 3) := by decide +kernel
theorem dX5_turnException_19 : decode cX5_turnException 19 = .ok (.iconst (-1), 1) := by decide +kernel
theorem dX5_turnException_20 : decode cX5_turnException 20 = .ok (.if_icmp .eq 13, 3) := by decide +kernel
theorem dX5_turnException_23 : decode cX5_turnException 23 = .ok (.new 54, 3) := by decide +kernel
theorem dX5_turnException_26 : decode cX5_turnException 26 = .ok (.dup, 1) := by decide +kernel
theorem dX5_turnException_27 : decode cX5_turnException 27 = .ok (.ldc 139, 2) := by decide +kernel
theorem dX5_turnException_29 : decode cX5_turnException 29 = .ok (.invokespecial 58, 3) := by decide +kernel
theorem dX5_turnException_32 : decode cX5_turnException 32 = .ok (.athrow, 1) := by decide +kernel
theorem dX5_turnException_33 : decode cX5_turnException 33 = .ok (.aload_n 0, 1) := by decide +kernel
theorem dX5_turnException_34 : decode cX5_turnException 34 = .ok (.getfield 21, 3) := by decide +kernel
theorem dX5_turnException_37 : decode cX5_turnException 37 = .ok (.aload_n 0, 1) := by decide +kernel
theorem dX5_turnException_38 : decode cX5_turnException 38 = .ok (.getfield 14, 3) := by decide +kernel
theorem dX5_turnException_41 : decode cX5_turnException 41 = .ok (.iconst 0, 1) := by decide +kernel
theorem dX5_turnException_42 : decode cX5_turnException 42 = .ok (.aload_n 0, 1) := by decide +kernel
theorem dX5_turnException_43 : decode cX5_turnException 43 = .ok (.getfield 14, 3) := by decide +kernel
theorem dX5_turnException_46 : decode cX5_turnException 46 = .ok (.invokevirtual 73, 3) := by decide +kernel
theorem dX5_turnException_49 : decode cX5_turnException 49 = .ok (.invokevirtual 141, 3) := by decide +kernel
theorem dX5_turnException_52 : decode cX5_turnException 52 = .ok (.istore_n 1, 1) := by decide +kernel
theorem dX5_turnException_53 : decode cX5_turnException 53 = .ok (.iload_n 1, 1) := by decide +kernel
theorem dX5_turnException_54 : decode cX5_turnException 54 = .ok (.iconst (-1), 1) := by decide +kernel
theorem dX5_turnException_55 : decode cX5_turnException 55 = .ok (.if_icmp .ne 23, 3) := by decide +kernel
theorem dX5_turnException_58 : decode cX5_turnException 58 = .ok (.aload_n 0, 1) := by decide +kernel
theorem dX5_turnException_59 : decode cX5_turnException 59 = .ok (.getfield 21, 3) := by decide +kernel
theorem dX5_turnException_62 : decode cX5_turnException 62 = .ok (.invokevirtual 145, 3) := by decide +kernel
theorem dX5_turnException_65 : decode cX5_turnException 65 = .ok (.ifCond .eq 13, 3) := by decide +kernel
theorem dX5_turnException_68 : decode cX5_turnException 68 = .ok (.new 65, 3) := by decide +kernel
theorem dX5_turnException_71 : decode cX5_turnException 71 = .ok (.dup, 1) := by decide +kernel
theorem dX5_turnException_72 : decode cX5_turnException 72 = .ok (.ldc 148, 2) := by decide +kernel
theorem dX5_turnException_74 : decode cX5_turnException 74 = .ok (.invokespecial 69, 3) := by decide +kernel
theorem dX5_turnException_77 : decode cX5_turnException 77 = .ok (.athrow, 1) := by decide +kernel
theorem dX5_turnException_78 : decode cX5_turnException 78 = .ok (.iload_n 1, 1) := by decide +kernel
theorem dX5_turnException_79 : decode cX5_turnException 79 = .ok (.iconst (-1), 1) := by decide +kernel
theorem dX5_turnException_80 : decode cX5_turnException 80 = .ok (.if_icmp .ne 17, 3) := by decide +kernel
theorem dX5_turnException_83 : decode cX5_turnException 83 = .ok (.aload_n 0, 1) := by decide +kernel
theorem dX5_turnException_84 : decode cX5_turnException 84 = .ok (.getfield 21, 3) := by decide +kernel
theorem dX5_turnException_87 : decode cX5_turnException 87 = .ok (.aload_n 0, 1) := by decide +kernel
theorem dX5_turnException_88 : decode cX5_turnException 88 = .ok (.getfield 14, 3) := by decide +kernel
theorem dX5_turnException_91 : decode cX5_turnException 91 = .ok (.invokevirtual 150, 3) := by decide +kernel
theorem dX5_turnException_94 : decode cX5_turnException 94 = .ok (.goto 11, 3) := by decide +kernel
theorem dX5_turnException_97 : decode cX5_turnException 97 = .ok (.aload_n 0, 1) := by decide +kernel
theorem dX5_turnException_98 : decode cX5_turnException 98 = .ok (.getfield 21, 3) := by decide +kernel
theorem dX5_turnException_101 : decode cX5_turnException 101 = .ok (.iload_n 1, 1) := by decide +kernel
theorem dX5_turnException_102 : decode cX5_turnException 102 = .ok (.invokevirtual 154, 3) := by decide +kernel
theorem dX5_turnException_105 : decode cX5_turnException 105 = .ok (.aload_n 0, 1) := by decide +kernel
theorem dX5_turnException_106 : decode cX5_turnException 106 = .ok (.getfield 14, 3) := by decide +kernel
theorem dX5_turnException_109 : decode cX5_turnException 109 = .ok (.invokevirtual 77, 3) := by decide +kernel
theorem dX5_turnException_112 : decode cX5_turnException 112 = .ok (.aload_n 0, 1) := by decide +kernel
theorem dX5_turnException_113 : decode cX5_turnException 113 = .ok (.invokevirtual 105, 3) := by decide +kernel
theorem dX5_turnException_116 : decode cX5_turnException 116 = .ok (.pop, 1) := by decide +kernel
theorem dX5_turnException_117 : decode cX5_turnException 117 = .ok (.iload_n 1, 1) := by decide +kernel
theorem dX5_turnException_118 : decode cX5_turnException 118 = .ok (.iconst (-1), 1) := by decide +kernel
theorem dX5_turnException_119 : decode cX5_turnException 119 = .ok (.if_icmp .ne 7, 3) := by decide +kernel
theorem dX5_turnException_122 : decode cX5_turnException 122 = .ok (.iconst 1, 1) := by decide +kernel
theorem dX5_turnException_123 : decode cX5_turnException 123 = .ok (.goto 4, 3) := by decide +kernel
theorem dX5_turnException_126 : decode cX5_turnException 126 = .ok (.iconst 0, 1) := by decide +kernel
theorem dX5_turnException_127 : decode cX5_turnException 127 = .ok (.ireturn, 1) := by decide +kernel
theorem dX5_setText_0 : decode cX5_setText 0 = .ok (.iload_n 1, 1) := by decide +kernel
theorem dX5_setText_1 : decode cX5_setText 1 = .ok (.ifCond .lt 20, 3) := by decide +kernel
theorem dX5_setText_4 : decode cX5_setText 4 = .ok (.iload_n 1, 1) := by decide +kernel
theorem dX5_setText_5 : decode cX5_setText 5 = .ok (.aload_n 0, 1) := by decide +kernel
theorem dX5_setText_6 : decode cX5_setText 6 = .ok (.getfield 47, 3) := by decide +kernel
theorem dX5_setText_9 : decode cX5_setText 9 = .ok (.if_icmp .gt 12, 3) := by decide +kernel
theorem dX5_setText_12 : decode cX5_setText 12 = .ok (.iload_n 1, 1) := by decide +kernel
theorem dX5_setText_13 : decode cX5_setText 13 = .ok (.aload_n 0, 1) := by decide +kernel
theorem dX5_setText_14 : decode cX5_setText 14 = .ok (.getfield 34, 3) := by decide +kernel
theorem dX5_setText_17 : decode cX5_setText 17 = .ok (.arraylength, 1) := by decide +kernel
theorem dX5_setText_18 : decode cX5_setText 18 = .ok (.if_icmp .lt 13, 3) := by decide +kernel
theorem dX5_setText_21 : decode cX5_setText 21 = .ok (.new 123, 3) := by decide +kernel
theorem dX5_setText_24 : decode cX5_setText 24 = .ok (.dup, 1) := by decide +kernel
theorem dX5_setText_25 : decode cX5_setText 25 = .ok (.ldc 157, 2) := by decide +kernel
theorem dX5_setText_27 : decode cX5_setText 27 = .ok (.invokespecial 127, 3) := by decide +kernel
theorem dX5_setText_30 : decode cX5_setText 30 = .ok (.athrow, 1) := by decide +kernel
theorem dX5_setText_31 : decode cX5_setText 31 = .ok (.iload_n 2, 1) := by decide +kernel
theorem dX5_setText_32 : decode cX5_setText 32 = .ok (.invokestatic 159, 3) := by decide +kernel
theorem dX5_setText_35 : decode cX5_setText 35 = .ok (.ifCond .ne 13, 3) := by decide +kernel
theorem dX5_setText_38 : decode cX5_setText 38 = .ok (.new 54, 3) := by decide +kernel
theorem dX5_setText_41 : decode cX5_setText 41 = .ok (.dup, 1) := by decide +kernel
theorem dX5_setText_42 : decode cX5_setText 42 = .ok (.ldc 162, 2) := by decide +kernel
theorem dX5_setText_44 : decode cX5_setText 44 = .ok (.invokespecial 58, 3) := by decide +kernel
theorem dX5_setText_47 : decode cX5_setText 47 = .ok (.athrow, 1) := by decide +kernel
theorem dX5_setText_48 : decode cX5_setText 48 = .ok (.aload_n 0, 1) := by decide +kernel
theorem dX5_setText_49 : decode cX5_setText 49 = .ok (.getfield 34, 3) := by decide +kernel
theorem dX5_setText_52 : decode cX5_setText 52 = .ok (.iload_n 1, 1) := by decide +kernel
theorem dX5_setText_53 : decode cX5_setText 53 = .ok (.aaload, 1) := by decide +kernel
theorem dX5_setText_54 : decode cX5_setText 54 = .ok (.astore_n 3, 1) := by decide +kernel
theorem dX5_setText_55 : decode cX5_setText 55 = .ok (.aload_n 3, 1) := by decide +kernel
theorem dX5_setText_56 : decode cX5_setText 56 = .ok (.ifnonnull 28, 3) := by decide +kernel
theorem dX5_setText_59 : decode cX5_setText 59 = .ok (.new 32, 3) := by decide +kernel
theorem dX5_setText_62 : decode cX5_setText 62 = .ok (.dup, 1) := by decide +kernel
theorem dX5_setText_63 : decode cX5_setText 63 = .ok (.invokespecial 164, 3) := by decide +kernel
theorem dX5_setText_66 : decode cX5_setText 66 = .ok (.astore_n 3, 1) := by decide +kernel
theorem dX5_setText_67 : decode cX5_setText 67 = .ok (.aload_n 0, 1) := by decide +kernel
theorem dX5_setText_68 : decode cX5_setText 68 = .ok (.getfield 34, 3) := by decide +kernel
theorem dX5_setText_71 : decode cX5_setText 71 = .ok (.iload_n 1, 1) := by decide +kernel
theorem dX5_setText_72 : decode cX5_setText 72 = .ok (.aload_n 3, 1) := by decide +kernel
theorem dX5_setText_73 : decode cX5_setText 73 = .ok (.aastore, 1) := by decide +kernel
theorem dX5_setText_74 : decode cX5_setText 74 = .ok (.aload_n 0, 1) := by decide +kernel
theorem dX5_setText_75 : decode cX5_setText 75 = .ok (.dup, 1) := by decide +kernel
theorem dX5_setText_76 : decode cX5_setText 76 = .ok (.getfield 47, 3) := by decide +kernel
theorem dX5_setText_79 : decode cX5_setText 79 = .ok (.iconst 1, 1) := by decide +kernel
theorem dX5_setText_80 : decode cX5_setText 80 = .ok (.iadd, 1) := by decide +kernel
theorem dX5_setText_81 : decode cX5_setText 81 = .ok (.putfield 47, 3) := by decide +kernel
theorem dX5_setText_84 : decode cX5_setText 84 = .ok (.aload_n 3, 1) := by decide +kernel
theorem dX5_setText_85 : decode cX5_setText 85 = .ok (.aload_n 0, 1) := by decide +kernel
theorem dX5_setText_86 : decode cX5_setText 86 = .ok (.getfield 14, 3) := by decide +kernel
theorem dX5_setText_89 : decode cX5_setText 89 = .ok (.iload_n 2, 1) := by decide +kernel
theorem dX5_setText_90 : decode cX5_setText 90 = .ok (.invokevirtual 165, 3) := by decide +kernel
theorem dX5_setText_93 : decode cX5_setText 93 = .ok (.aload_n 3, 1) := by decide +kernel
theorem dX5_setText_94 : decode cX5_setText 94 = .ok (.aload_n 0, 1) := by decide +kernel
theorem dX5_setText_95 : decode cX5_setText 95 = .ok (.getfield 21, 3) := by decide +kernel
theorem dX5_setText_98 : decode cX5_setText 98 = .ok (.aload_n 0, 1) := by decide +kernel
theorem dX5_setText_99 : decode cX5_setText 99 = .ok (.getfield 43, 3) := by decide +kernel
theorem dX5_setText_102 : decode cX5_setText 102 = .ok (.invokevirtual 169, 3) := by decide +kernel
theorem dX5_setText_105 : decode cX5_setText 105 = .ok (.pop, 1) := by decide +kernel
theorem dX5_setText_106 : decode cX5_setText 106 = .ok (.aload_n 3, 1) := by decide +kernel
theorem dX5_setText_107 : decode cX5_setText 107 = .ok (.aload_n 0, 1) := by decide +kernel
theorem dX5_setText_108 : decode cX5_setText 108 = .ok (.getfield 51, 3) := by decide +kernel
theorem dX5_setText_111 : decode cX5_setText 111 = .ok (.invokevirtual 173, 3) := by decide +kernel
theorem dX5_setText_114 : decode cX5_setText 114 = .ok (.aload_n 0, 1) := by decide +kernel
theorem dX5_setText_115 : decode cX5_setText 115 = .ok (.getfield 14, 3) := by decide +kernel
theorem dX5_setText_118 : decode cX5_setText 118 = .ok (.invokevirtual 77, 3) := by decide +kernel
theorem dX5_setText_121 : decode cX5_setText 121 = .ok (.aload_n 3, 1) := by decide +kernel
theorem dX5_setText_122 : decode cX5_setText 122 = .ok (.invokevirtual 176, 3) := by decide +kernel
theorem dX5_setText_125 : decode cX5_setText 125 = .ok (.ireturn, 1) := by decide +kernel
theorem dX5_setWidth_0 : decode cX5_setWidth 0 = .ok (.iload_n 1, 1) := by decide +kernel
theorem dX5_setWidth_1 : decode cX5_setWidth 1 = .ok (.bipush 8, 2) := by decide +kernel
theorem dX5_setWidth_3 : decode cX5_setWidth 3 = .ok (.if_icmp .lt 9, 3) := by decide +kernel
theorem dX5_setWidth_6 : decode cX5_setWidth 6 = .ok (.iload_n 1, 1) := by decide +kernel
theorem dX5_setWidth_7 : decode cX5_setWidth 7 = .ok (.bipush 40, 2) := by decide +kernel
theorem dX5_setWidth_9 : decode cX5_setWidth 9 = .ok (.if_icmp .le 13, 3) := by decide +kernel
theorem dX5_setWidth_12 : decode cX5_setWidth 12 = .ok (.new 54, 3) := by decide +kernel
theorem dX5_setWidth_15 : decode cX5_setWidth 15 = .ok (.dup, 1) := by decide +kernel
theorem dX5_setWidth_16 : decode cX5_setWidth 16 = .ok (.ldc 179, 2) := by decide +kernel
theorem dX5_setWidth_18 : decode cX5_setWidth 18 = .ok (.invokespecial 58, 3) := by decide +kernel
theorem dX5_setWidth_21 : decode cX5_setWidth 21 = .ok (.athrow, 1) := by decide +kernel
theorem dX5_setWidth_22 : decode cX5_setWidth 22 = .ok (.aload_n 0, 1) := by decide +kernel
theorem dX5_setWidth_23 : decode cX5_setWidth 23 = .ok (.getfield 51, 3) := by decide +kernel
theorem dX5_setWidth_26 : decode cX5_setWidth 26 = .ok (.istore_n 2, 1) := by decide +kernel
theorem dX5_setWidth_27 : decode cX5_setWidth 27 = .ok (.aload_n 0, 1) := by decide +kernel
theorem dX5_setWidth_28 : decode cX5_setWidth 28 = .ok (.iload_n 1, 1) := by decide +kernel
theorem dX5_setWidth_29 : decode cX5_setWidth 29 = .ok (.putfield 51, 3) := by decide +kernel
theorem dX5_setWidth_32 : decode cX5_setWidth 32 = .ok (.aload_n 0, 1) := by decide +kernel
theorem dX5_setWidth_33 : decode cX5_setWidth 33 = .ok (.getfield 34, 3) := by decide +kernel
theorem dX5_setWidth_36 : decode cX5_setWidth 36 = .ok (.astore_n 3, 1) := by decide +kernel
theorem dX5_setWidth_37 : decode cX5_setWidth 37 = .ok (.aload_n 3, 1) := by decide +kernel
theorem dX5_setWidth_38 : decode cX5_setWidth 38 = .ok (.arraylength, 1) := by decide +kernel
theorem dX5_setWidth_39 : decode cX5_setWidth 39 = .ok (.istore 4, 2) := by decide +kernel
theorem dX5_setWidth_41 : decode cX5_setWidth 41 = .ok (.iconst 0, 1) := by decide +kernel
theorem dX5_setWidth_42 : decode cX5_setWidth 42 = .ok (.istore 5, 2) := by decide +kernel
theorem dX5_setWidth_44 : decode cX5_setWidth 44 = .ok (.iload 5, 2) := by decide +kernel
theorem dX5_setWidth_46 : decode cX5_setWidth 46 = .ok (.iload 4, 2) := by decide +kernel
theorem dX5_setWidth_48 : decode cX5_setWidth 48 = .ok (.if_icmp .ge 26, 3) := by decide +kernel
theorem dX5_setWidth_51 : decode cX5_setWidth 51 = .ok (.aload_n 3, 1) := by decide +kernel
theorem dX5_setWidth_52 : decode cX5_setWidth 52 = .ok (.iload 5, 2) := by decide +kernel
theorem dX5_setWidth_54 : decode cX5_setWidth 54 = .ok (.aaload, 1) := by decide +kernel
theorem dX5_setWidth_55 : decode cX5_setWidth 55 = .ok (.astore 6, 2) := by decide +kernel
theorem dX5_setWidth_57 : decode cX5_setWidth 57 = .ok (.aload 6, 2) := by decide +kernel
theorem dX5_setWidth_59 : decode cX5_setWidth 59 = .ok (.ifnull 9, 3) := by decide +kernel
theorem dX5_setWidth_62 : decode cX5_setWidth 62 = .ok (.aload 6, 2) := by decide +kernel
theorem dX5_setWidth_64 : decode cX5_setWidth 64 = .ok (.iload_n 1, 1) := by decide +kernel
theorem dX5_setWidth_65 : decode cX5_setWidth 65 = .ok (.invokevirtual 173, 3) := by decide +kernel
theorem dX5_setWidth_68 : decode cX5_setWidth 68 = .ok (.iinc 5 1, 3) := by decide +kernel
theorem dX5_setWidth_71 : decode cX5_setWidth 71 = .ok (.goto (-27), 3) := by decide +kernel
theorem dX5_setWidth_74 : decode cX5_setWidth 74 = .ok (.iload_n 2, 1) := by decide +kernel
theorem dX5_setWidth_75 : decode cX5_setWidth 75 = .ok (.ireturn, 1) := by decide +kernel
theorem dX5_words_0 : decode cX5_words 0 = .ok (.aload_n 0, 1) := by decide +kernel
theorem dX5_words_1 : decode cX5_words 1 = .ok (.iload_n 1, 1) := by decide +kernel
theorem dX5_words_2 : decode cX5_words 2 = .ok (.invokevirtual 181, 3) := by decide +kernel
theorem dX5_words_5 : decode cX5_words 5 = .ok (.invokevirtual 176, 3) := by decide +kernel
theorem dX5_words_8 : decode cX5_words 8 = .ok (.ireturn, 1) := by decide +kernel
theorem dX5_length_0 : decode cX5_length 0 = .ok (.aload_n 0, 1) := by decide +kernel
theorem dX5_length_1 : decode cX5_length 1 = .ok (.iload_n 1, 1) := by decide +kernel
theorem dX5_length_2 : decode cX5_length 2 = .ok (.iload_n 2, 1) := by decide +kernel
theorem dX5_length_3 : decode cX5_length 3 = .ok (.invokevirtual 185, 3) := by decide +kernel
theorem dX5_length_6 : decode cX5_length 6 = .ok (.iload_n 2, 1) := by decide +kernel
theorem dX5_length_7 : decode cX5_length 7 = .ok (.invokevirtual 189, 3) := by decide +kernel
theorem dX5_length_10 : decode cX5_length 10 = .ok (.ireturn, 1) := by decide +kernel
theorem dX5_cellOf_0 : decode cX5_cellOf 0 = .ok (.aload_n 0, 1) := by decide +kernel
theorem dX5_cellOf_1 : decode cX5_cellOf 1 = .ok (.iload_n 1, 1) := by decide +kernel
theorem dX5_cellOf_2 : decode cX5_cellOf 2 = .ok (.iload_n 2, 1) := by decide +kernel
theorem dX5_cellOf_3 : decode cX5_cellOf 3 = .ok (.invokevirtual 185, 3) := by decide +kernel
theorem dX5_cellOf_6 : decode cX5_cellOf 6 = .ok (.astore 4, 2) := by decide +kernel
theorem dX5_cellOf_8 : decode cX5_cellOf 8 = .ok (.iload_n 3, 1) := by decide +kernel
theorem dX5_cellOf_9 : decode cX5_cellOf 9 = .ok (.ifCond .lt 13, 3) := by decide +kernel
theorem dX5_cellOf_12 : decode cX5_cellOf 12 = .ok (.iload_n 3, 1) := by decide +kernel
theorem dX5_cellOf_13 : decode cX5_cellOf 13 = .ok (.aload 4, 2) := by decide +kernel
theorem dX5_cellOf_15 : decode cX5_cellOf 15 = .ok (.iload_n 2, 1) := by decide +kernel
theorem dX5_cellOf_16 : decode cX5_cellOf 16 = .ok (.invokevirtual 189, 3) := by decide +kernel
theorem dX5_cellOf_19 : decode cX5_cellOf 19 = .ok (.if_icmp .lt 13, 3) := by decide +kernel
theorem dX5_cellOf_22 : decode cX5_cellOf 22 = .ok (.new 110, 3) := by decide +kernel
theorem dX5_cellOf_25 : decode cX5_cellOf 25 = .ok (.dup, 1) := by decide +kernel
theorem dX5_cellOf_26 : decode cX5_cellOf 26 = .ok (.ldc 192, 2) := by decide +kernel
theorem dX5_cellOf_28 : decode cX5_cellOf 28 = .ok (.invokespecial 114, 3) := by decide +kernel
theorem dX5_cellOf_31 : decode cX5_cellOf 31 = .ok (.athrow, 1) := by decide +kernel
theorem dX5_cellOf_32 : decode cX5_cellOf 32 = .ok (.aload 4, 2) := by decide +kernel
theorem dX5_cellOf_34 : decode cX5_cellOf 34 = .ok (.iload_n 2, 1) := by decide +kernel
theorem dX5_cellOf_35 : decode cX5_cellOf 35 = .ok (.iload_n 3, 1) := by decide +kernel
theorem dX5_cellOf_36 : decode cX5_cellOf 36 = .ok (.invokevirtual 194, 3) := by decide +kernel
theorem dX5_cellOf_39 : decode cX5_cellOf 39 = .ok (.ireturn, 1) := by decide +kernel
theorem dX5_lines_0 : decode cX5_lines 0 = .ok (.aload_n 0, 1) := by decide +kernel
theorem dX5_lines_1 : decode cX5_lines 1 = .ok (.iload_n 1, 1) := by decide +kernel
theorem dX5_lines_2 : decode cX5_lines 2 = .ok (.invokevirtual 181, 3) := by decide +kernel
theorem dX5_lines_5 : decode cX5_lines 5 = .ok (.invokevirtual 197, 3) := by decide +kernel
theorem dX5_lines_8 : decode cX5_lines 8 = .ok (.ireturn, 1) := by decide +kernel
theorem dX5_lineAt_0 : decode cX5_lineAt 0 = .ok (.aload_n 0, 1) := by decide +kernel
theorem dX5_lineAt_1 : decode cX5_lineAt 1 = .ok (.iload_n 1, 1) := by decide +kernel
theorem dX5_lineAt_2 : decode cX5_lineAt 2 = .ok (.invokevirtual 181, 3) := by decide +kernel
theorem dX5_lineAt_5 : decode cX5_lineAt 5 = .ok (.astore 4, 2) := by decide +kernel
theorem dX5_lineAt_7 : decode cX5_lineAt 7 = .ok (.iload_n 2, 1) := by decide +kernel
theorem dX5_lineAt_8 : decode cX5_lineAt 8 = .ok (.ifCond .lt 12, 3) := by decide +kernel
theorem dX5_lineAt_11 : decode cX5_lineAt 11 = .ok (.iload_n 2, 1) := by decide +kernel
theorem dX5_lineAt_12 : decode cX5_lineAt 12 = .ok (.aload 4, 2) := by decide +kernel
theorem dX5_lineAt_14 : decode cX5_lineAt 14 = .ok (.invokevirtual 197, 3) := by decide +kernel
theorem dX5_lineAt_17 : decode cX5_lineAt 17 = .ok (.if_icmp .lt 13, 3) := by decide +kernel
theorem dX5_lineAt_20 : decode cX5_lineAt 20 = .ok (.new 123, 3) := by decide +kernel
theorem dX5_lineAt_23 : decode cX5_lineAt 23 = .ok (.dup, 1) := by decide +kernel
theorem dX5_lineAt_24 : decode cX5_lineAt 24 = .ok (.ldc 200, 2) := by decide +kernel
theorem dX5_lineAt_26 : decode cX5_lineAt 26 = .ok (.invokespecial 127, 3) := by decide +kernel
theorem dX5_lineAt_29 : decode cX5_lineAt 29 = .ok (.athrow, 1) := by decide +kernel
theorem dX5_lineAt_30 : decode cX5_lineAt 30 = .ok (.iload_n 3, 1) := by decide +kernel
theorem dX5_lineAt_31 : decode cX5_lineAt 31 = .ok (.ifCond .lt 13, 3) := by decide +kernel
theorem dX5_lineAt_34 : decode cX5_lineAt 34 = .ok (.iload_n 3, 1) := by decide +kernel
theorem dX5_lineAt_35 : decode cX5_lineAt 35 = .ok (.aload 4, 2) := by decide +kernel
theorem dX5_lineAt_37 : decode cX5_lineAt 37 = .ok (.iload_n 2, 1) := by decide +kernel
theorem dX5_lineAt_38 : decode cX5_lineAt 38 = .ok (.invokevirtual 202, 3) := by decide +kernel
theorem dX5_lineAt_41 : decode cX5_lineAt 41 = .ok (.if_icmp .lt 13, 3) := by decide +kernel
theorem dX5_lineAt_44 : decode cX5_lineAt 44 = .ok (.new 110, 3) := by decide +kernel
theorem dX5_lineAt_47 : decode cX5_lineAt 47 = .ok (.dup, 1) := by decide +kernel
theorem dX5_lineAt_48 : decode cX5_lineAt 48 = .ok (.ldc 205, 2) := by decide +kernel
theorem dX5_lineAt_50 : decode cX5_lineAt 50 = .ok (.invokespecial 114, 3) := by decide +kernel
theorem dX5_lineAt_53 : decode cX5_lineAt 53 = .ok (.athrow, 1) := by decide +kernel
theorem dX5_lineAt_54 : decode cX5_lineAt 54 = .ok (.aload 4, 2) := by decide +kernel
theorem dX5_lineAt_56 : decode cX5_lineAt 56 = .ok (.iload_n 2, 1) := by decide +kernel
theorem dX5_lineAt_57 : decode cX5_lineAt 57 = .ok (.iload_n 3, 1) := by decide +kernel
theorem dX5_lineAt_58 : decode cX5_lineAt 58 = .ok (.invokevirtual 207, 3) := by decide +kernel
theorem dX5_lineAt_61 : decode cX5_lineAt 61 = .ok (.ireturn, 1) := by decide +kernel
theorem dX5_lineOf_0 : decode cX5_lineOf 0 = .ok (.aload_n 0, 1) := by decide +kernel
theorem dX5_lineOf_1 : decode cX5_lineOf 1 = .ok (.iload_n 1, 1) := by decide +kernel
theorem dX5_lineOf_2 : decode cX5_lineOf 2 = .ok (.iload_n 2, 1) := by decide +kernel
theorem dX5_lineOf_3 : decode cX5_lineOf 3 = .ok (.invokevirtual 185, 3) := by decide +kernel
theorem dX5_lineOf_6 : decode cX5_lineOf 6 = .ok (.iload_n 2, 1) := by decide +kernel
theorem dX5_lineOf_7 : decode cX5_lineOf 7 = .ok (.invokevirtual 210, 3) := by decide +kernel
theorem dX5_lineOf_10 : decode cX5_lineOf 10 = .ok (.ireturn, 1) := by decide +kernel
theorem dX5_emboss_0 : decode cX5_emboss 0 = .ok (.aload_n 0, 1) := by decide +kernel
theorem dX5_emboss_1 : decode cX5_emboss 1 = .ok (.iload_n 1, 1) := by decide +kernel
theorem dX5_emboss_2 : decode cX5_emboss 2 = .ok (.invokevirtual 181, 3) := by decide +kernel
theorem dX5_emboss_5 : decode cX5_emboss 5 = .ok (.astore_n 2, 1) := by decide +kernel
theorem dX5_emboss_6 : decode cX5_emboss 6 = .ok (.aload_n 0, 1) := by decide +kernel
theorem dX5_emboss_7 : decode cX5_emboss 7 = .ok (.getfield 28, 3) := by decide +kernel
theorem dX5_emboss_10 : decode cX5_emboss 10 = .ok (.invokevirtual 213, 3) := by decide +kernel
theorem dX5_emboss_13 : decode cX5_emboss 13 = .ok (.iconst 0, 1) := by decide +kernel
theorem dX5_emboss_14 : decode cX5_emboss 14 = .ok (.istore_n 3, 1) := by decide +kernel
theorem dX5_emboss_15 : decode cX5_emboss 15 = .ok (.iconst 0, 1) := by decide +kernel
theorem dX5_emboss_16 : decode cX5_emboss 16 = .ok (.istore 4, 2) := by decide +kernel
theorem dX5_emboss_18 : decode cX5_emboss 18 = .ok (.iconst (-1), 1) := by decide +kernel
theorem dX5_emboss_19 : decode cX5_emboss 19 = .ok (.istore 5, 2) := by decide +kernel
theorem dX5_emboss_21 : decode cX5_emboss 21 = .ok (.iconst 0, 1) := by decide +kernel
theorem dX5_emboss_22 : decode cX5_emboss 22 = .ok (.istore 6, 2) := by decide +kernel
theorem dX5_emboss_24 : decode cX5_emboss 24 = .ok (.iload 6, 2) := by decide +kernel
theorem dX5_emboss_26 : decode cX5_emboss 26 = .ok (.aload_n 2, 1) := by decide +kernel
theorem dX5_emboss_27 : decode cX5_emboss 27 = .ok (.invokevirtual 197, 3) := by decide +kernel
theorem dX5_emboss_30 : decode cX5_emboss 30 = .ok (.if_icmp .ge 53, 3) := by decide +kernel
theorem dX5_emboss_33 : decode cX5_emboss 33 = .ok (.aload_n 2, 1) := by decide +kernel
theorem dX5_emboss_34 : decode cX5_emboss 34 = .ok (.iload 6, 2) := by decide +kernel
theorem dX5_emboss_36 : decode cX5_emboss 36 = .ok (.invokevirtual 216, 3) := by decide +kernel
theorem dX5_emboss_39 : decode cX5_emboss 39 = .ok (.ifCond .eq 38, 3) := by decide +kernel
theorem dX5_emboss_42 : decode cX5_emboss 42 = .ok (.aload_n 0, 1) := by decide +kernel
theorem dX5_emboss_43 : decode cX5_emboss 43 = .ok (.aload_n 2, 1) := by decide +kernel
theorem dX5_emboss_44 : decode cX5_emboss 44 = .ok (.iload 6, 2) := by decide +kernel
theorem dX5_emboss_46 : decode cX5_emboss 46 = .ok (.invokevirtual 219, 3) := by decide +kernel
theorem dX5_emboss_49 : decode cX5_emboss 49 = .ok (.iinc 4 1, 3) := by decide +kernel
theorem dX5_emboss_52 : decode cX5_emboss 52 = .ok (.iload 6, 2) := by decide +kernel
theorem dX5_emboss_54 : decode cX5_emboss 54 = .ok (.iconst 4, 1) := by decide +kernel
theorem dX5_emboss_55 : decode cX5_emboss 55 = .ok (.idiv, 1) := by decide +kernel
theorem dX5_emboss_56 : decode cX5_emboss 56 = .ok (.istore 7, 2) := by decide +kernel
theorem dX5_emboss_58 : decode cX5_emboss 58 = .ok (.iload_n 3, 1) := by decide +kernel
theorem dX5_emboss_59 : decode cX5_emboss 59 = .ok (.iload 7, 2) := by decide +kernel
theorem dX5_emboss_61 : decode cX5_emboss 61 = .ok (.iload 5, 2) := by decide +kernel
theorem dX5_emboss_63 : decode cX5_emboss 63 = .ok (.if_icmp .ne 7, 3) := by decide +kernel
theorem dX5_emboss_66 : decode cX5_emboss 66 = .ok (.iconst 0, 1) := by decide +kernel
theorem dX5_emboss_67 : decode cX5_emboss 67 = .ok (.goto 4, 3) := by decide +kernel
theorem dX5_emboss_70 : decode cX5_emboss 70 = .ok (.iconst 1, 1) := by decide +kernel
theorem dX5_emboss_71 : decode cX5_emboss 71 = .ok (.iadd, 1) := by decide +kernel
theorem dX5_emboss_72 : decode cX5_emboss 72 = .ok (.istore_n 3, 1) := by decide +kernel
theorem dX5_emboss_73 : decode cX5_emboss 73 = .ok (.iload 7, 2) := by decide +kernel
theorem dX5_emboss_75 : decode cX5_emboss 75 = .ok (.istore 5, 2) := by decide +kernel
theorem dX5_emboss_77 : decode cX5_emboss 77 = .ok (.iinc 6 1, 3) := by decide +kernel
theorem dX5_emboss_80 : decode cX5_emboss 80 = .ok (.goto (-56), 3) := by decide +kernel
theorem dX5_emboss_83 : decode cX5_emboss 83 = .ok (.aload_n 0, 1) := by decide +kernel
theorem dX5_emboss_84 : decode cX5_emboss 84 = .ok (.getfield 28, 3) := by decide +kernel
theorem dX5_emboss_87 : decode cX5_emboss 87 = .ok (.invokevirtual 223, 3) := by decide +kernel
theorem dX5_emboss_90 : decode cX5_emboss 90 = .ok (.ifCond .ne 13, 3) := by decide +kernel
theorem dX5_emboss_93 : decode cX5_emboss 93 = .ok (.new 65, 3) := by decide +kernel
theorem dX5_emboss_96 : decode cX5_emboss 96 = .ok (.dup, 1) := by decide +kernel
theorem dX5_emboss_97 : decode cX5_emboss 97 = .ok (.ldc 226, 2) := by decide +kernel
theorem dX5_emboss_99 : decode cX5_emboss 99 = .ok (.invokespecial 69, 3) := by decide +kernel
theorem dX5_emboss_102 : decode cX5_emboss 102 = .ok (.athrow, 1) := by decide +kernel
theorem dX5_emboss_103 : decode cX5_emboss 103 = .ok (.aload_n 0, 1) := by decide +kernel
theorem dX5_emboss_104 : decode cX5_emboss 104 = .ok (.getfield 28, 3) := by decide +kernel
theorem dX5_emboss_107 : decode cX5_emboss 107 = .ok (.invokevirtual 228, 3) := by decide +kernel
theorem dX5_emboss_110 : decode cX5_emboss 110 = .ok (.aload_n 2, 1) := by decide +kernel
theorem dX5_emboss_111 : decode cX5_emboss 111 = .ok (.invokevirtual 231, 3) := by decide +kernel
theorem dX5_emboss_114 : decode cX5_emboss 114 = .ok (.bipush 100, 2) := by decide +kernel
theorem dX5_emboss_116 : decode cX5_emboss 116 = .ok (.iload_n 3, 1) := by decide +kernel
theorem dX5_emboss_117 : decode cX5_emboss 117 = .ok (.imul, 1) := by decide +kernel
theorem dX5_emboss_118 : decode cX5_emboss 118 = .ok (.iload 4, 2) := by decide +kernel
theorem dX5_emboss_120 : decode cX5_emboss 120 = .ok (.iadd, 1) := by decide +kernel
theorem dX5_emboss_121 : decode cX5_emboss 121 = .ok (.ireturn, 1) := by decide +kernel
theorem dX5_changed_0 : decode cX5_changed 0 = .ok (.aload_n 0, 1) := by decide +kernel
theorem dX5_changed_1 : decode cX5_changed 1 = .ok (.iload_n 1, 1) := by decide +kernel
theorem dX5_changed_2 : decode cX5_changed 2 = .ok (.invokevirtual 181, 3) := by decide +kernel
theorem dX5_changed_5 : decode cX5_changed 5 = .ok (.invokevirtual 234, 3) := by decide +kernel
theorem dX5_changed_8 : decode cX5_changed 8 = .ok (.ireturn, 1) := by decide +kernel
theorem dX5_setBearing_0 : decode cX5_setBearing 0 = .ok (.iload_n 1, 1) := by decide +kernel
theorem dX5_setBearing_1 : decode cX5_setBearing 1 = .ok (.bipush 10, 2) := by decide +kernel
theorem dX5_setBearing_3 : decode cX5_setBearing 3 = .ok (.if_icmp .lt 10, 3) := by decide +kernel
theorem dX5_setBearing_6 : decode cX5_setBearing 6 = .ok (.iload_n 1, 1) := by decide +kernel
theorem dX5_setBearing_7 : decode cX5_setBearing 7 = .ok (.sipush 9999, 3) := by decide +kernel
theorem dX5_setBearing_10 : decode cX5_setBearing 10 = .ok (.if_icmp .le 13, 3) := by decide +kernel
theorem dX5_setBearing_13 : decode cX5_setBearing 13 = .ok (.new 54, 3) := by decide +kernel
theorem dX5_setBearing_16 : decode cX5_setBearing 16 = .ok (.dup, 1) := by decide +kernel
theorem dX5_setBearing_17 : decode cX5_setBearing 17 = .ok (.ldc 237, 2) := by decide +kernel
theorem dX5_setBearing_19 : decode cX5_setBearing 19 = .ok (.invokespecial 58, 3) := by decide +kernel
theorem dX5_setBearing_22 : decode cX5_setBearing 22 = .ok (.athrow, 1) := by decide +kernel
theorem dX5_setBearing_23 : decode cX5_setBearing 23 = .ok (.aload_n 0, 1) := by decide +kernel
theorem dX5_setBearing_24 : decode cX5_setBearing 24 = .ok (.getfield 28, 3) := by decide +kernel
theorem dX5_setBearing_27 : decode cX5_setBearing 27 = .ok (.iload_n 1, 1) := by decide +kernel
theorem dX5_setBearing_28 : decode cX5_setBearing 28 = .ok (.invokevirtual 239, 3) := by decide +kernel
theorem dX5_setBearing_31 : decode cX5_setBearing 31 = .ok (.ireturn, 1) := by decide +kernel
theorem dX5_replace_0 : decode cX5_replace 0 = .ok (.iload_n 1, 1) := by decide +kernel
theorem dX5_replace_1 : decode cX5_replace 1 = .ok (.iconst 1, 1) := by decide +kernel
theorem dX5_replace_2 : decode cX5_replace 2 = .ok (.if_icmp .lt 9, 3) := by decide +kernel
theorem dX5_replace_5 : decode cX5_replace 5 = .ok (.iload_n 1, 1) := by decide +kernel
theorem dX5_replace_6 : decode cX5_replace 6 = .ok (.bipush 6, 2) := by decide +kernel
theorem dX5_replace_8 : decode cX5_replace 8 = .ok (.if_icmp .le 13, 3) := by decide +kernel
theorem dX5_replace_11 : decode cX5_replace 11 = .ok (.new 123, 3) := by decide +kernel
theorem dX5_replace_14 : decode cX5_replace 14 = .ok (.dup, 1) := by decide +kernel
theorem dX5_replace_15 : decode cX5_replace 15 = .ok (.ldc 242, 2) := by decide +kernel
theorem dX5_replace_17 : decode cX5_replace 17 = .ok (.invokespecial 127, 3) := by decide +kernel
theorem dX5_replace_20 : decode cX5_replace 20 = .ok (.athrow, 1) := by decide +kernel
theorem dX5_replace_21 : decode cX5_replace 21 = .ok (.aload_n 0, 1) := by decide +kernel
theorem dX5_replace_22 : decode cX5_replace 22 = .ok (.getfield 28, 3) := by decide +kernel
theorem dX5_replace_25 : decode cX5_replace 25 = .ok (.iload_n 1, 1) := by decide +kernel
theorem dX5_replace_26 : decode cX5_replace 26 = .ok (.invokevirtual 244, 3) := by decide +kernel
theorem dX5_replace_29 : decode cX5_replace 29 = .ok (.ireturn, 1) := by decide +kernel
theorem dX5_strikes_0 : decode cX5_strikes 0 = .ok (.iload_n 1, 1) := by decide +kernel
theorem dX5_strikes_1 : decode cX5_strikes 1 = .ok (.iconst 1, 1) := by decide +kernel
theorem dX5_strikes_2 : decode cX5_strikes 2 = .ok (.if_icmp .lt 9, 3) := by decide +kernel
theorem dX5_strikes_5 : decode cX5_strikes 5 = .ok (.iload_n 1, 1) := by decide +kernel
theorem dX5_strikes_6 : decode cX5_strikes 6 = .ok (.bipush 6, 2) := by decide +kernel
theorem dX5_strikes_8 : decode cX5_strikes 8 = .ok (.if_icmp .le 13, 3) := by decide +kernel
theorem dX5_strikes_11 : decode cX5_strikes 11 = .ok (.new 123, 3) := by decide +kernel
theorem dX5_strikes_14 : decode cX5_strikes 14 = .ok (.dup, 1) := by decide +kernel
theorem dX5_strikes_15 : decode cX5_strikes 15 = .ok (.ldc 242, 2) := by decide +kernel
theorem dX5_strikes_17 : decode cX5_strikes 17 = .ok (.invokespecial 127, 3) := by decide +kernel
theorem dX5_strikes_20 : decode cX5_strikes 20 = .ok (.athrow, 1) := by decide +kernel
theorem dX5_strikes_21 : decode cX5_strikes 21 = .ok (.aload_n 0, 1) := by decide +kernel
theorem dX5_strikes_22 : decode cX5_strikes 22 = .ok (.getfield 28, 3) := by decide +kernel
theorem dX5_strikes_25 : decode cX5_strikes 25 = .ok (.iload_n 1, 1) := by decide +kernel
theorem dX5_strikes_26 : decode cX5_strikes 26 = .ok (.invokevirtual 247, 3) := by decide +kernel
theorem dX5_strikes_29 : decode cX5_strikes 29 = .ok (.ireturn, 1) := by decide +kernel
theorem dX5_mark_0 : decode cX5_mark 0 = .ok (.iload_n 1, 1) := by decide +kernel
theorem dX5_mark_1 : decode cX5_mark 1 = .ok (.invokestatic 250, 3) := by decide +kernel
theorem dX5_mark_4 : decode cX5_mark 4 = .ok (.ifCond .ne 13, 3) := by decide +kernel
theorem dX5_mark_7 : decode cX5_mark 7 = .ok (.new 123, 3) := by decide +kernel
theorem dX5_mark_10 : decode cX5_mark 10 = .ok (.dup, 1) := by decide +kernel
theorem dX5_mark_11 : decode cX5_mark 11 = .ok (.ldc 253, 2) := by decide +kernel
theorem dX5_mark_13 : decode cX5_mark 13 = .ok (.invokespecial 127, 3) := by decide +kernel
theorem dX5_mark_16 : decode cX5_mark 16 = .ok (.athrow, 1) := by decide +kernel
theorem dX5_mark_17 : decode cX5_mark 17 = .ok (.aload_n 0, 1) := by decide +kernel
theorem dX5_mark_18 : decode cX5_mark 18 = .ok (.iload_n 2, 1) := by decide +kernel
theorem dX5_mark_19 : decode cX5_mark 19 = .ok (.iload_n 3, 1) := by decide +kernel
theorem dX5_mark_20 : decode cX5_mark 20 = .ok (.invokevirtual 185, 3) := by decide +kernel
theorem dX5_mark_23 : decode cX5_mark 23 = .ok (.astore 5, 2) := by decide +kernel
theorem dX5_mark_25 : decode cX5_mark 25 = .ok (.iload 4, 2) := by decide +kernel
theorem dX5_mark_27 : decode cX5_mark 27 = .ok (.ifCond .eq 8, 3) := by decide +kernel
theorem dX5_mark_30 : decode cX5_mark 30 = .ok (.bipush 114, 2) := by decide +kernel
theorem dX5_mark_32 : decode cX5_mark 32 = .ok (.goto 5, 3) := by decide +kernel
theorem dX5_mark_35 : decode cX5_mark 35 = .ok (.bipush 119, 2) := by decide +kernel
theorem dX5_mark_37 : decode cX5_mark 37 = .ok (.istore 6, 2) := by decide +kernel
theorem dX5_mark_39 : decode cX5_mark 39 = .ok (.aload 5, 2) := by decide +kernel
theorem dX5_mark_41 : decode cX5_mark 41 = .ok (.iload_n 1, 1) := by decide +kernel
theorem dX5_mark_42 : decode cX5_mark 42 = .ok (.iload_n 3, 1) := by decide +kernel
theorem dX5_mark_43 : decode cX5_mark 43 = .ok (.iload 6, 2) := by decide +kernel
theorem dX5_mark_45 : decode cX5_mark 45 = .ok (.invokevirtual 255, 3) := by decide +kernel
theorem dX5_mark_48 : decode cX5_mark 48 = .ok (.aload 5, 2) := by decide +kernel
theorem dX5_mark_50 : decode cX5_mark 50 = .ok (.iconst 1, 1) := by decide +kernel
theorem dX5_mark_51 : decode cX5_mark 51 = .ok (.iload_n 1, 1) := by decide +kernel
theorem dX5_mark_52 : decode cX5_mark 52 = .ok (.isub, 1) := by decide +kernel
theorem dX5_mark_53 : decode cX5_mark 53 = .ok (.iload_n 3, 1) := by decide +kernel
theorem dX5_mark_54 : decode cX5_mark 54 = .ok (.invokevirtual 259, 3) := by decide +kernel
theorem dX5_mark_57 : decode cX5_mark 57 = .ok (.iload 6, 2) := by decide +kernel
theorem dX5_mark_59 : decode cX5_mark 59 = .ok (.if_icmp .ne 7, 3) := by decide +kernel
theorem dX5_mark_62 : decode cX5_mark 62 = .ok (.iconst 1, 1) := by decide +kernel
theorem dX5_mark_63 : decode cX5_mark 63 = .ok (.goto 4, 3) := by decide +kernel
theorem dX5_mark_66 : decode cX5_mark 66 = .ok (.iconst 0, 1) := by decide +kernel
theorem dX5_mark_67 : decode cX5_mark 67 = .ok (.ireturn, 1) := by decide +kernel
theorem dX5_markOf_0 : decode cX5_markOf 0 = .ok (.iload_n 1, 1) := by decide +kernel
theorem dX5_markOf_1 : decode cX5_markOf 1 = .ok (.invokestatic 250, 3) := by decide +kernel
theorem dX5_markOf_4 : decode cX5_markOf 4 = .ok (.ifCond .ne 13, 3) := by decide +kernel
theorem dX5_markOf_7 : decode cX5_markOf 7 = .ok (.new 123, 3) := by decide +kernel
theorem dX5_markOf_10 : decode cX5_markOf 10 = .ok (.dup, 1) := by decide +kernel
theorem dX5_markOf_11 : decode cX5_markOf 11 = .ok (.ldc 253, 2) := by decide +kernel
theorem dX5_markOf_13 : decode cX5_markOf 13 = .ok (.invokespecial 127, 3) := by decide +kernel
theorem dX5_markOf_16 : decode cX5_markOf 16 = .ok (.athrow, 1) := by decide +kernel
theorem dX5_markOf_17 : decode cX5_markOf 17 = .ok (.aload_n 0, 1) := by decide +kernel
theorem dX5_markOf_18 : decode cX5_markOf 18 = .ok (.iload_n 2, 1) := by decide +kernel
theorem dX5_markOf_19 : decode cX5_markOf 19 = .ok (.iload_n 3, 1) := by decide +kernel
theorem dX5_markOf_20 : decode cX5_markOf 20 = .ok (.invokevirtual 185, 3) := by decide +kernel
theorem dX5_markOf_23 : decode cX5_markOf 23 = .ok (.iload_n 1, 1) := by decide +kernel
theorem dX5_markOf_24 : decode cX5_markOf 24 = .ok (.iload_n 3, 1) := by decide +kernel
theorem dX5_markOf_25 : decode cX5_markOf 25 = .ok (.invokevirtual 259, 3) := by decide +kernel
theorem dX5_markOf_28 : decode cX5_markOf 28 = .ok (.ireturn, 1) := by decide +kernel
theorem dX5_isSound_0 : decode cX5_isSound 0 = .ok (.aload_n 0, 1) := by decide +kernel
theorem dX5_isSound_1 : decode cX5_isSound 1 = .ok (.getfield 34, 3) := by decide +kernel
theorem dX5_isSound_4 : decode cX5_isSound 4 = .ok (.astore_n 1, 1) := by decide +kernel
theorem dX5_isSound_5 : decode cX5_isSound 5 = .ok (.aload_n 1, 1) := by decide +kernel
theorem dX5_isSound_6 : decode cX5_isSound 6 = .ok (.arraylength, 1) := by decide +kernel
theorem dX5_isSound_7 : decode cX5_isSound 7 = .ok (.istore_n 2, 1) := by decide +kernel
theorem dX5_isSound_8 : decode cX5_isSound 8 = .ok (.iconst 0, 1) := by decide +kernel
theorem dX5_isSound_9 : decode cX5_isSound 9 = .ok (.istore_n 3, 1) := by decide +kernel
theorem dX5_isSound_10 : decode cX5_isSound 10 = .ok (.iload_n 3, 1) := by decide +kernel
theorem dX5_isSound_11 : decode cX5_isSound 11 = .ok (.iload_n 2, 1) := by decide +kernel
theorem dX5_isSound_12 : decode cX5_isSound 12 = .ok (.if_icmp .ge 33, 3) := by decide +kernel
theorem dX5_isSound_15 : decode cX5_isSound 15 = .ok (.aload_n 1, 1) := by decide +kernel
theorem dX5_isSound_16 : decode cX5_isSound 16 = .ok (.iload_n 3, 1) := by decide +kernel
theorem dX5_isSound_17 : decode cX5_isSound 17 = .ok (.aaload, 1) := by decide +kernel
theorem dX5_isSound_18 : decode cX5_isSound 18 = .ok (.astore 4, 2) := by decide +kernel
theorem dX5_isSound_20 : decode cX5_isSound 20 = .ok (.aload 4, 2) := by decide +kernel
theorem dX5_isSound_22 : decode cX5_isSound 22 = .ok (.ifnull 17, 3) := by decide +kernel
theorem dX5_isSound_25 : decode cX5_isSound 25 = .ok (.aload 4, 2) := by decide +kernel
theorem dX5_isSound_27 : decode cX5_isSound 27 = .ok (.aload_n 0, 1) := by decide +kernel
theorem dX5_isSound_28 : decode cX5_isSound 28 = .ok (.getfield 51, 3) := by decide +kernel
theorem dX5_isSound_31 : decode cX5_isSound 31 = .ok (.invokevirtual 280, 3) := by decide +kernel
theorem dX5_isSound_34 : decode cX5_isSound 34 = .ok (.ifCond .ne 5, 3) := by decide +kernel
theorem dX5_isSound_37 : decode cX5_isSound 37 = .ok (.iconst 0, 1) := by decide +kernel
theorem dX5_isSound_38 : decode cX5_isSound 38 = .ok (.ireturn, 1) := by decide +kernel
theorem dX5_isSound_39 : decode cX5_isSound 39 = .ok (.iinc 3 1, 3) := by decide +kernel
theorem dX5_isSound_42 : decode cX5_isSound 42 = .ok (.goto (-32), 3) := by decide +kernel
theorem dX5_isSound_45 : decode cX5_isSound 45 = .ok (.aload_n 0, 1) := by decide +kernel
theorem dX5_isSound_46 : decode cX5_isSound 46 = .ok (.getfield 21, 3) := by decide +kernel
theorem dX5_isSound_49 : decode cX5_isSound 49 = .ok (.invokevirtual 283, 3) := by decide +kernel
theorem dX5_isSound_52 : decode cX5_isSound 52 = .ok (.ireturn, 1) := by decide +kernel
theorem dX5_isGrade_0 : decode cX5_isGrade 0 = .ok (.iload_n 0, 1) := by decide +kernel
theorem dX5_isGrade_1 : decode cX5_isGrade 1 = .ok (.iconst 1, 1) := by decide +kernel
theorem dX5_isGrade_2 : decode cX5_isGrade 2 = .ok (.if_icmp .lt 12, 3) := by decide +kernel
theorem dX5_isGrade_5 : decode cX5_isGrade 5 = .ok (.iload_n 0, 1) := by decide +kernel
theorem dX5_isGrade_6 : decode cX5_isGrade 6 = .ok (.iconst 2, 1) := by decide +kernel
theorem dX5_isGrade_7 : decode cX5_isGrade 7 = .ok (.if_icmp .gt 7, 3) := by decide +kernel
theorem dX5_isGrade_10 : decode cX5_isGrade 10 = .ok (.iconst 1, 1) := by decide +kernel
theorem dX5_isGrade_11 : decode cX5_isGrade 11 = .ok (.goto 4, 3) := by decide +kernel
theorem dX5_isGrade_14 : decode cX5_isGrade 14 = .ok (.iconst 0, 1) := by decide +kernel
theorem dX5_isGrade_15 : decode cX5_isGrade 15 = .ok (.ireturn, 1) := by decide +kernel
theorem dX5_isRule_0 : decode cX5_isRule 0 = .ok (.iload_n 0, 1) := by decide +kernel
theorem dX5_isRule_1 : decode cX5_isRule 1 = .ok (.invokestatic 159, 3) := by decide +kernel
theorem dX5_isRule_4 : decode cX5_isRule 4 = .ok (.ifCond .eq 28, 3) := by decide +kernel
theorem dX5_isRule_7 : decode cX5_isRule 7 = .ok (.iload_n 1, 1) := by decide +kernel
theorem dX5_isRule_8 : decode cX5_isRule 8 = .ok (.iconst 1, 1) := by decide +kernel
theorem dX5_isRule_9 : decode cX5_isRule 9 = .ok (.if_icmp .lt 23, 3) := by decide +kernel
theorem dX5_isRule_12 : decode cX5_isRule 12 = .ok (.iload_n 1, 1) := by decide +kernel
theorem dX5_isRule_13 : decode cX5_isRule 13 = .ok (.bipush 63, 2) := by decide +kernel
theorem dX5_isRule_15 : decode cX5_isRule 15 = .ok (.if_icmp .gt 17, 3) := by decide +kernel
theorem dX5_isRule_18 : decode cX5_isRule 18 = .ok (.iload_n 2, 1) := by decide +kernel
theorem dX5_isRule_19 : decode cX5_isRule 19 = .ok (.ifCond .lt 13, 3) := by decide +kernel
theorem dX5_isRule_22 : decode cX5_isRule 22 = .ok (.iload_n 2, 1) := by decide +kernel
theorem dX5_isRule_23 : decode cX5_isRule 23 = .ok (.bipush 63, 2) := by decide +kernel
theorem dX5_isRule_25 : decode cX5_isRule 25 = .ok (.if_icmp .gt 7, 3) := by decide +kernel
theorem dX5_isRule_28 : decode cX5_isRule 28 = .ok (.iconst 1, 1) := by decide +kernel
theorem dX5_isRule_29 : decode cX5_isRule 29 = .ok (.goto 4, 3) := by decide +kernel
theorem dX5_isRule_32 : decode cX5_isRule 32 = .ok (.iconst 0, 1) := by decide +kernel
theorem dX5_isRule_33 : decode cX5_isRule 33 = .ok (.ireturn, 1) := by decide +kernel
theorem dX5_isReader_0 : decode cX5_isReader 0 = .ok (.iload_n 0, 1) := by decide +kernel
theorem dX5_isReader_1 : decode cX5_isReader 1 = .ok (.ifCond .lt 12, 3) := by decide +kernel
theorem dX5_isReader_4 : decode cX5_isReader 4 = .ok (.iload_n 0, 1) := by decide +kernel
theorem dX5_isReader_5 : decode cX5_isReader 5 = .ok (.iconst 2, 1) := by decide +kernel
theorem dX5_isReader_6 : decode cX5_isReader 6 = .ok (.if_icmp .ge 7, 3) := by decide +kernel
theorem dX5_isReader_9 : decode cX5_isReader 9 = .ok (.iconst 1, 1) := by decide +kernel
theorem dX5_isReader_10 : decode cX5_isReader 10 = .ok (.goto 4, 3) := by decide +kernel
theorem dX5_isReader_13 : decode cX5_isReader 13 = .ok (.iconst 0, 1) := by decide +kernel
theorem dX5_isReader_14 : decode cX5_isReader 14 = .ok (.ireturn, 1) := by decide +kernel
theorem dX5_typedKey_0 : decode cX5_typedKey 0 = .ok (.aload_n 0, 1) := by decide +kernel
theorem dX5_typedKey_1 : decode cX5_typedKey 1 = .ok (.getfield 14, 3) := by decide +kernel
theorem dX5_typedKey_4 : decode cX5_typedKey 4 = .ok (.bipush 32, 2) := by decide +kernel
theorem dX5_typedKey_6 : decode cX5_typedKey 6 = .ok (.invokevirtual 138, 3) := by decide +kernel
theorem dX5_typedKey_9 : decode cX5_typedKey 9 = .ok (.iconst (-1), 1) := by decide +kernel
theorem dX5_typedKey_10 : decode cX5_typedKey 10 = .ok (.if_icmp .eq 5, 3) := by decide +kernel
theorem dX5_typedKey_13 : decode cX5_typedKey 13 = .ok (.iconst 0, 1) := by decide +kernel
theorem dX5_typedKey_14 : decode cX5_typedKey 14 = .ok (.ireturn, 1) := by decide +kernel
theorem dX5_typedKey_15 : decode cX5_typedKey 15 = .ok (.aload_n 0, 1) := by decide +kernel
theorem dX5_typedKey_16 : decode cX5_typedKey 16 = .ok (.getfield 14, 3) := by decide +kernel
theorem dX5_typedKey_19 : decode cX5_typedKey 19 = .ok (.iconst 0, 1) := by decide +kernel
theorem dX5_typedKey_20 : decode cX5_typedKey 20 = .ok (.aload_n 0, 1) := by decide +kernel
theorem dX5_typedKey_21 : decode cX5_typedKey 21 = .ok (.getfield 14, 3) := by decide +kernel
theorem dX5_typedKey_24 : decode cX5_typedKey 24 = .ok (.invokevirtual 73, 3) := by decide +kernel
theorem dX5_typedKey_27 : decode cX5_typedKey 27 = .ok (.invokestatic 286, 3) := by decide +kernel
theorem dX5_typedKey_30 : decode cX5_typedKey 30 = .ok (.ireturn, 1) := by decide +kernel
theorem dX5_textNumbered_0 : decode cX5_textNumbered 0 = .ok (.iload_n 1, 1) := by decide +kernel
theorem dX5_textNumbered_1 : decode cX5_textNumbered 1 = .ok (.ifCond .lt 12, 3) := by decide +kernel
theorem dX5_textNumbered_4 : decode cX5_textNumbered 4 = .ok (.iload_n 1, 1) := by decide +kernel
theorem dX5_textNumbered_5 : decode cX5_textNumbered 5 = .ok (.aload_n 0, 1) := by decide +kernel
theorem dX5_textNumbered_6 : decode cX5_textNumbered 6 = .ok (.getfield 34, 3) := by decide +kernel
theorem dX5_textNumbered_9 : decode cX5_textNumbered 9 = .ok (.arraylength, 1) := by decide +kernel
theorem dX5_textNumbered_10 : decode cX5_textNumbered 10 = .ok (.if_icmp .lt 7, 3) := by decide +kernel
theorem dX5_textNumbered_13 : decode cX5_textNumbered 13 = .ok (.aconst_null, 1) := by decide +kernel
theorem dX5_textNumbered_14 : decode cX5_textNumbered 14 = .ok (.goto 9, 3) := by decide +kernel
theorem dX5_textNumbered_17 : decode cX5_textNumbered 17 = .ok (.aload_n 0, 1) := by decide +kernel
theorem dX5_textNumbered_18 : decode cX5_textNumbered 18 = .ok (.getfield 34, 3) := by decide +kernel
theorem dX5_textNumbered_21 : decode cX5_textNumbered 21 = .ok (.iload_n 1, 1) := by decide +kernel
theorem dX5_textNumbered_22 : decode cX5_textNumbered 22 = .ok (.aaload, 1) := by decide +kernel
theorem dX5_textNumbered_23 : decode cX5_textNumbered 23 = .ok (.astore_n 2, 1) := by decide +kernel
theorem dX5_textNumbered_24 : decode cX5_textNumbered 24 = .ok (.aload_n 2, 1) := by decide +kernel
theorem dX5_textNumbered_25 : decode cX5_textNumbered 25 = .ok (.ifnonnull 14, 3) := by decide +kernel
theorem dX5_textNumbered_28 : decode cX5_textNumbered 28 = .ok (.new 123, 3) := by decide +kernel
theorem dX5_textNumbered_31 : decode cX5_textNumbered 31 = .ok (.dup, 1) := by decide +kernel
theorem dX5_textNumbered_32 : decode cX5_textNumbered 32 = .ok (.ldc_w 289, 3) := by decide +kernel
theorem dX5_textNumbered_35 : decode cX5_textNumbered 35 = .ok (.invokespecial 127, 3) := by decide +kernel
theorem dX5_textNumbered_38 : decode cX5_textNumbered 38 = .ok (.athrow, 1) := by decide +kernel
theorem dX5_textNumbered_39 : decode cX5_textNumbered 39 = .ok (.aload_n 2, 1) := by decide +kernel
theorem dX5_textNumbered_40 : decode cX5_textNumbered 40 = .ok (.areturn, 1) := by decide +kernel
theorem dX5_textWithWord_0 : decode cX5_textWithWord 0 = .ok (.aload_n 0, 1) := by decide +kernel
theorem dX5_textWithWord_1 : decode cX5_textWithWord 1 = .ok (.iload_n 1, 1) := by decide +kernel
theorem dX5_textWithWord_2 : decode cX5_textWithWord 2 = .ok (.invokevirtual 181, 3) := by decide +kernel
theorem dX5_textWithWord_5 : decode cX5_textWithWord 5 = .ok (.astore_n 3, 1) := by decide +kernel
theorem dX5_textWithWord_6 : decode cX5_textWithWord 6 = .ok (.iload_n 2, 1) := by decide +kernel
theorem dX5_textWithWord_7 : decode cX5_textWithWord 7 = .ok (.ifCond .lt 11, 3) := by decide +kernel
theorem dX5_textWithWord_10 : decode cX5_textWithWord 10 = .ok (.iload_n 2, 1) := by decide +kernel
theorem dX5_textWithWord_11 : decode cX5_textWithWord 11 = .ok (.aload_n 3, 1) := by decide +kernel
theorem dX5_textWithWord_12 : decode cX5_textWithWord 12 = .ok (.invokevirtual 176, 3) := by decide +kernel
theorem dX5_textWithWord_15 : decode cX5_textWithWord 15 = .ok (.if_icmp .lt 14, 3) := by decide +kernel
theorem dX5_textWithWord_18 : decode cX5_textWithWord 18 = .ok (.new 123, 3) := by decide +kernel
theorem dX5_textWithWord_21 : decode cX5_textWithWord 21 = .ok (.dup, 1) := by decide +kernel
theorem dX5_textWithWord_22 : decode cX5_textWithWord 22 = .ok (.ldc_w 291, 3) := by decide +kernel
theorem dX5_textWithWord_25 : decode cX5_textWithWord 25 = .ok (.invokespecial 127, 3) := by decide +kernel
theorem dX5_textWithWord_28 : decode cX5_textWithWord 28 = .ok (.athrow, 1) := by decide +kernel
theorem dX5_textWithWord_29 : decode cX5_textWithWord 29 = .ok (.aload_n 3, 1) := by decide +kernel
theorem dX5_textWithWord_30 : decode cX5_textWithWord 30 = .ok (.areturn, 1) := by decide +kernel
theorem dX5_translateTexts_0 : decode cX5_translateTexts 0 = .ok (.iconst 0, 1) := by decide +kernel
theorem dX5_translateTexts_1 : decode cX5_translateTexts 1 = .ok (.istore_n 1, 1) := by decide +kernel
theorem dX5_translateTexts_2 : decode cX5_translateTexts 2 = .ok (.aload_n 0, 1) := by decide +kernel
theorem dX5_translateTexts_3 : decode cX5_translateTexts 3 = .ok (.getfield 34, 3) := by decide +kernel
theorem dX5_translateTexts_6 : decode cX5_translateTexts 6 = .ok (.astore_n 2, 1) := by decide +kernel
theorem dX5_translateTexts_7 : decode cX5_translateTexts 7 = .ok (.aload_n 2, 1) := by decide +kernel
theorem dX5_translateTexts_8 : decode cX5_translateTexts 8 = .ok (.arraylength, 1) := by decide +kernel
theorem dX5_translateTexts_9 : decode cX5_translateTexts 9 = .ok (.istore_n 3, 1) := by decide +kernel
theorem dX5_translateTexts_10 : decode cX5_translateTexts 10 = .ok (.iconst 0, 1) := by decide +kernel
theorem dX5_translateTexts_11 : decode cX5_translateTexts 11 = .ok (.istore 4, 2) := by decide +kernel
theorem dX5_translateTexts_13 : decode cX5_translateTexts 13 = .ok (.iload 4, 2) := by decide +kernel
theorem dX5_translateTexts_15 : decode cX5_translateTexts 15 = .ok (.iload_n 3, 1) := by decide +kernel
theorem dX5_translateTexts_16 : decode cX5_translateTexts 16 = .ok (.if_icmp .ge 48, 3) := by decide +kernel
theorem dX5_translateTexts_19 : decode cX5_translateTexts 19 = .ok (.aload_n 2, 1) := by decide +kernel
theorem dX5_translateTexts_20 : decode cX5_translateTexts 20 = .ok (.iload 4, 2) := by decide +kernel
theorem dX5_translateTexts_22 : decode cX5_translateTexts 22 = .ok (.aaload, 1) := by decide +kernel
theorem dX5_translateTexts_23 : decode cX5_translateTexts 23 = .ok (.astore 5, 2) := by decide +kernel
theorem dX5_translateTexts_25 : decode cX5_translateTexts 25 = .ok (.aload 5, 2) := by decide +kernel
theorem dX5_translateTexts_27 : decode cX5_translateTexts 27 = .ok (.ifnull 31, 3) := by decide +kernel
theorem dX5_translateTexts_30 : decode cX5_translateTexts 30 = .ok (.aload 5, 2) := by decide +kernel
theorem dX5_translateTexts_32 : decode cX5_translateTexts 32 = .ok (.aload_n 0, 1) := by decide +kernel
theorem dX5_translateTexts_33 : decode cX5_translateTexts 33 = .ok (.getfield 21, 3) := by decide +kernel
theorem dX5_translateTexts_36 : decode cX5_translateTexts 36 = .ok (.aload_n 0, 1) := by decide +kernel
theorem dX5_translateTexts_37 : decode cX5_translateTexts 37 = .ok (.getfield 43, 3) := by decide +kernel
theorem dX5_translateTexts_40 : decode cX5_translateTexts 40 = .ok (.invokevirtual 169, 3) := by decide +kernel
theorem dX5_translateTexts_43 : decode cX5_translateTexts 43 = .ok (.ifCond .eq 15, 3) := by decide +kernel
theorem dX5_translateTexts_46 : decode cX5_translateTexts 46 = .ok (.aload 5, 2) := by decide +kernel
theorem dX5_translateTexts_48 : decode cX5_translateTexts 48 = .ok (.aload_n 0, 1) := by decide +kernel
theorem dX5_translateTexts_49 : decode cX5_translateTexts 49 = .ok (.getfield 51, 3) := by decide +kernel
theorem dX5_translateTexts_52 : decode cX5_translateTexts 52 = .ok (.invokevirtual 173, 3) := by decide +kernel
theorem dX5_translateTexts_55 : decode cX5_translateTexts 55 = .ok (.iinc 1 1, 3) := by decide +kernel
theorem dX5_translateTexts_58 : decode cX5_translateTexts 58 = .ok (.iinc 4 1, 3) := by decide +kernel
theorem dX5_translateTexts_61 : decode cX5_translateTexts 61 = .ok (.goto (-48), 3) := by decide +kernel
theorem dX5_translateTexts_64 : decode cX5_translateTexts 64 = .ok (.iload_n 1, 1) := by decide +kernel
theorem dX5_translateTexts_65 : decode cX5_translateTexts 65 = .ok (.ireturn, 1) := by decide +kernel
theorem dX5_planLine_0 : decode cX5_planLine 0 = .ok (.iconst 0, 1) := by decide +kernel
theorem dX5_planLine_1 : decode cX5_planLine 1 = .ok (.istore_n 3, 1) := by decide +kernel
theorem dX5_planLine_2 : decode cX5_planLine 2 = .ok (.iload_n 3, 1) := by decide +kernel
theorem dX5_planLine_3 : decode cX5_planLine 3 = .ok (.aload_n 1, 1) := by decide +kernel
theorem dX5_planLine_4 : decode cX5_planLine 4 = .ok (.iload_n 2, 1) := by decide +kernel
theorem dX5_planLine_5 : decode cX5_planLine 5 = .ok (.invokevirtual 202, 3) := by decide +kernel
theorem dX5_planLine_8 : decode cX5_planLine 8 = .ok (.if_icmp .ge 22, 3) := by decide +kernel
theorem dX5_planLine_11 : decode cX5_planLine 11 = .ok (.aload_n 0, 1) := by decide +kernel
theorem dX5_planLine_12 : decode cX5_planLine 12 = .ok (.getfield 28, 3) := by decide +kernel
theorem dX5_planLine_15 : decode cX5_planLine 15 = .ok (.aload_n 1, 1) := by decide +kernel
theorem dX5_planLine_16 : decode cX5_planLine 16 = .ok (.iload_n 2, 1) := by decide +kernel
theorem dX5_planLine_17 : decode cX5_planLine 17 = .ok (.iload_n 3, 1) := by decide +kernel
theorem dX5_planLine_18 : decode cX5_planLine 18 = .ok (.invokevirtual 207, 3) := by decide +kernel
theorem dX5_planLine_21 : decode cX5_planLine 21 = .ok (.invokevirtual 293, 3) := by decide +kernel
theorem dX5_planLine_24 : decode cX5_planLine 24 = .ok (.iinc 3 1, 3) := by decide +kernel
theorem dX5_planLine_27 : decode cX5_planLine 27 = .ok (.goto (-25), 3) := by decide +kernel
theorem dX5_planLine_30 : decode cX5_planLine 30 = .ok (.return_, 1) := by decide +kernel
end
section
theorem dJ5_init_d00df_0 : decode cJ5_init_d00df 0 = .ok (.aload_n 0, 1) := by decide +kernel
theorem dJ5_init_d00df_1 : decode cJ5_init_d00df 1 = .ok (.invokespecial 3, 3) := by decide +kernel
theorem dJ5_init_d00df_4 : decode cJ5_init_d00df 4 = .ok (.getstatic 18, 3) := by decide +kernel
theorem dJ5_init_d00df_7 : decode cJ5_init_d00df 7 = .ok (.ifCond .eq 18, 3) := by decide +kernel
theorem dJ5_init_d00df_10 : decode cJ5_init_d00df 10 = .ok (.aload_n 0, 1) := by decide +kernel
theorem dJ5_init_d00df_11 : decode cJ5_init_d00df 11 = .ok (.iload_n 1, 1) := by decide +kernel
theorem dJ5_init_d00df_12 : decode cJ5_init_d00df 12 = .ok (.newarray .byte, 2) := by decide +kernel
theorem dJ5_init_d00df_14 : decode cJ5_init_d00df 14 = .ok (.putfield 15, 3) := by decide +kernel
theorem dJ5_init_d00df_17 : decode cJ5_init_d00df 17 = .ok (.aload_n 0, 1) := by decide +kernel
theorem dJ5_init_d00df_18 : decode cJ5_init_d00df 18 = .ok (.iconst 0, 1) := by decide +kernel
theorem dJ5_init_d00df_19 : decode cJ5_init_d00df 19 = .ok (.putfield 22, 3) := by decide +kernel
theorem dJ5_init_d00df_22 : decode cJ5_init_d00df 22 = .ok (.goto 16, 3) := by decide +kernel
theorem dJ5_init_d00df_25 : decode cJ5_init_d00df 25 = .ok (.aload_n 0, 1) := by decide +kernel
theorem dJ5_init_d00df_26 : decode cJ5_init_d00df 26 = .ok (.iload_n 1, 1) := by decide +kernel
theorem dJ5_init_d00df_27 : decode cJ5_init_d00df 27 = .ok (.invokestatic 26, 3) := by decide +kernel
theorem dJ5_init_d00df_30 : decode cJ5_init_d00df 30 = .ok (.putfield 15, 3) := by decide +kernel
theorem dJ5_init_d00df_33 : decode cJ5_init_d00df 33 = .ok (.aload_n 0, 1) := by decide +kernel
theorem dJ5_init_d00df_34 : decode cJ5_init_d00df 34 = .ok (.iconst 1, 1) := by decide +kernel
theorem dJ5_init_d00df_35 : decode cJ5_init_d00df 35 = .ok (.putfield 22, 3) := by decide +kernel
theorem dJ5_init_d00df_38 : decode cJ5_init_d00df 38 = .ok (.return_, 1) := by decide +kernel
theorem dJ5_length_8abf5_0 : decode cJ5_length_8abf5 0 = .ok (.aload_n 0, 1) := by decide +kernel
theorem dJ5_length_8abf5_1 : decode cJ5_length_8abf5 1 = .ok (.getfield 79, 3) := by decide +kernel
theorem dJ5_length_8abf5_4 : decode cJ5_length_8abf5 4 = .ok (.ireturn, 1) := by decide +kernel
theorem dJ5_ensureCapacityInternal_d00df_0 : decode cJ5_ensureCapacityInternal_d00df 0 = .ok (.aload_n 0, 1) := by decide +kernel
theorem dJ5_ensureCapacityInternal_d00df_1 : decode cJ5_ensureCapacityInternal_d00df 1 = .ok (.getfield 15, 3) := by decide +kernel
theorem dJ5_ensureCapacityInternal_d00df_4 : decode cJ5_ensureCapacityInternal_d00df 4 = .ok (.arraylength, 1) := by decide +kernel
theorem dJ5_ensureCapacityInternal_d00df_5 : decode cJ5_ensureCapacityInternal_d00df 5 = .ok (.aload_n 0, 1) := by decide +kernel
theorem dJ5_ensureCapacityInternal_d00df_6 : decode cJ5_ensureCapacityInternal_d00df 6 = .ok (.getfield 22, 3) := by decide +kernel
theorem dJ5_ensureCapacityInternal_d00df_9 : decode cJ5_ensureCapacityInternal_d00df 9 = .ok (.ishr, 1) := by decide +kernel
theorem dJ5_ensureCapacityInternal_d00df_10 : decode cJ5_ensureCapacityInternal_d00df 10 = .ok (.istore_n 2, 1) := by decide +kernel
theorem dJ5_ensureCapacityInternal_d00df_11 : decode cJ5_ensureCapacityInternal_d00df 11 = .ok (.iload_n 1, 1) := by decide +kernel
theorem dJ5_ensureCapacityInternal_d00df_12 : decode cJ5_ensureCapacityInternal_d00df 12 = .ok (.iload_n 2, 1) := by decide +kernel
theorem dJ5_ensureCapacityInternal_d00df_13 : decode cJ5_ensureCapacityInternal_d00df 13 = .ok (.isub, 1) := by decide +kernel
theorem dJ5_ensureCapacityInternal_d00df_14 : decode cJ5_ensureCapacityInternal_d00df 14 = .ok (.ifCond .le 24, 3) := by decide +kernel
theorem dJ5_ensureCapacityInternal_d00df_17 : decode cJ5_ensureCapacityInternal_d00df 17 = .ok (.aload_n 0, 1) := by decide +kernel
theorem dJ5_ensureCapacityInternal_d00df_18 : decode cJ5_ensureCapacityInternal_d00df 18 = .ok (.aload_n 0, 1) := by decide +kernel
theorem dJ5_ensureCapacityInternal_d00df_19 : decode cJ5_ensureCapacityInternal_d00df 19 = .ok (.getfield 15, 3) := by decide +kernel
theorem dJ5_ensureCapacityInternal_d00df_22 : decode cJ5_ensureCapacityInternal_d00df 22 = .ok (.aload_n 0, 1) := by decide +kernel
theorem dJ5_ensureCapacityInternal_d00df_23 : decode cJ5_ensureCapacityInternal_d00df 23 = .ok (.iload_n 1, 1) := by decide +kernel
theorem dJ5_ensureCapacityInternal_d00df_24 : decode cJ5_ensureCapacityInternal_d00df 24 = .ok (.invokevirtual 104, 3) := by decide +kernel
theorem dJ5_ensureCapacityInternal_d00df_27 : decode cJ5_ensureCapacityInternal_d00df 27 = .ok (.aload_n 0, 1) := by decide +kernel
theorem dJ5_ensureCapacityInternal_d00df_28 : decode cJ5_ensureCapacityInternal_d00df 28 = .ok (.getfield 22, 3) := by decide +kernel
theorem dJ5_ensureCapacityInternal_d00df_31 : decode cJ5_ensureCapacityInternal_d00df 31 = .ok (.ishl, 1) := by decide +kernel
theorem dJ5_ensureCapacityInternal_d00df_32 : decode cJ5_ensureCapacityInternal_d00df 32 = .ok (.invokestatic 108, 3) := by decide +kernel
theorem dJ5_ensureCapacityInternal_d00df_35 : decode cJ5_ensureCapacityInternal_d00df 35 = .ok (.putfield 15, 3) := by decide +kernel
theorem dJ5_ensureCapacityInternal_d00df_38 : decode cJ5_ensureCapacityInternal_d00df 38 = .ok (.return_, 1) := by decide +kernel
theorem dJ5_newCapacity_0f7a4_0 : decode cJ5_newCapacity_0f7a4 0 = .ok (.aload_n 0, 1) := by decide +kernel
theorem dJ5_newCapacity_0f7a4_1 : decode cJ5_newCapacity_0f7a4 1 = .ok (.getfield 15, 3) := by decide +kernel
theorem dJ5_newCapacity_0f7a4_4 : decode cJ5_newCapacity_0f7a4 4 = .ok (.arraylength, 1) := by decide +kernel
theorem dJ5_newCapacity_0f7a4_5 : decode cJ5_newCapacity_0f7a4 5 = .ok (.istore_n 2, 1) := by decide +kernel
theorem dJ5_newCapacity_0f7a4_6 : decode cJ5_newCapacity_0f7a4 6 = .ok (.iload_n 1, 1) := by decide +kernel
theorem dJ5_newCapacity_0f7a4_7 : decode cJ5_newCapacity_0f7a4 7 = .ok (.aload_n 0, 1) := by decide +kernel
theorem dJ5_newCapacity_0f7a4_8 : decode cJ5_newCapacity_0f7a4 8 = .ok (.getfield 22, 3) := by decide +kernel
theorem dJ5_newCapacity_0f7a4_11 : decode cJ5_newCapacity_0f7a4 11 = .ok (.ishl, 1) := by decide +kernel
theorem dJ5_newCapacity_0f7a4_12 : decode cJ5_newCapacity_0f7a4 12 = .ok (.istore_n 3, 1) := by decide +kernel
theorem dJ5_newCapacity_0f7a4_13 : decode cJ5_newCapacity_0f7a4 13 = .ok (.iload_n 3, 1) := by decide +kernel
theorem dJ5_newCapacity_0f7a4_14 : decode cJ5_newCapacity_0f7a4 14 = .ok (.iload_n 2, 1) := by decide +kernel
theorem dJ5_newCapacity_0f7a4_15 : decode cJ5_newCapacity_0f7a4 15 = .ok (.isub, 1) := by decide +kernel
theorem dJ5_newCapacity_0f7a4_16 : decode cJ5_newCapacity_0f7a4 16 = .ok (.istore 4, 2) := by decide +kernel
theorem dJ5_newCapacity_0f7a4_18 : decode cJ5_newCapacity_0f7a4 18 = .ok (.iload_n 2, 1) := by decide +kernel
theorem dJ5_newCapacity_0f7a4_19 : decode cJ5_newCapacity_0f7a4 19 = .ok (.iload 4, 2) := by decide +kernel
theorem dJ5_newCapacity_0f7a4_21 : decode cJ5_newCapacity_0f7a4 21 = .ok (.iload_n 2, 1) := by decide +kernel
theorem dJ5_newCapacity_0f7a4_22 : decode cJ5_newCapacity_0f7a4 22 = .ok (.iconst 2, 1) := by decide +kernel
theorem dJ5_newCapacity_0f7a4_23 : decode cJ5_newCapacity_0f7a4 23 = .ok (.aload_n 0, 1) := by decide +kernel
theorem dJ5_newCapacity_0f7a4_24 : decode cJ5_newCapacity_0f7a4 24 = .ok (.getfield 22, 3) := by decide +kernel
theorem dJ5_newCapacity_0f7a4_27 : decode cJ5_newCapacity_0f7a4 27 = .ok (.ishl, 1) := by decide +kernel
theorem dJ5_newCapacity_0f7a4_28 : decode cJ5_newCapacity_0f7a4 28 = .ok (.iadd, 1) := by decide +kernel
theorem dJ5_newCapacity_0f7a4_29 : decode cJ5_newCapacity_0f7a4 29 = .ok (.invokestatic 114, 3) := by decide +kernel
theorem dJ5_newCapacity_0f7a4_32 : decode cJ5_newCapacity_0f7a4 32 = .ok (.istore 5, 2) := by decide +kernel
theorem dJ5_newCapacity_0f7a4_34 : decode cJ5_newCapacity_0f7a4 34 = .ok (.iload 5, 2) := by decide +kernel
theorem dJ5_newCapacity_0f7a4_36 : decode cJ5_newCapacity_0f7a4 36 = .ok (.ldc 39, 2) := by decide +kernel
theorem dJ5_newCapacity_0f7a4_38 : decode cJ5_newCapacity_0f7a4 38 = .ok (.if_icmp .ne 13, 3) := by decide +kernel
theorem dJ5_newCapacity_0f7a4_41 : decode cJ5_newCapacity_0f7a4 41 = .ok (.new 120, 3) := by decide +kernel
theorem dJ5_newCapacity_0f7a4_44 : decode cJ5_newCapacity_0f7a4 44 = .ok (.dup, 1) := by decide +kernel
theorem dJ5_newCapacity_0f7a4_45 : decode cJ5_newCapacity_0f7a4 45 = .ok (.ldc 122, 2) := by decide +kernel
theorem dJ5_newCapacity_0f7a4_47 : decode cJ5_newCapacity_0f7a4 47 = .ok (.invokespecial 124, 3) := by decide +kernel
theorem dJ5_newCapacity_0f7a4_50 : decode cJ5_newCapacity_0f7a4 50 = .ok (.athrow, 1) := by decide +kernel
theorem dJ5_newCapacity_0f7a4_51 : decode cJ5_newCapacity_0f7a4 51 = .ok (.iload 5, 2) := by decide +kernel
theorem dJ5_newCapacity_0f7a4_53 : decode cJ5_newCapacity_0f7a4 53 = .ok (.aload_n 0, 1) := by decide +kernel
theorem dJ5_newCapacity_0f7a4_54 : decode cJ5_newCapacity_0f7a4 54 = .ok (.getfield 22, 3) := by decide +kernel
theorem dJ5_newCapacity_0f7a4_57 : decode cJ5_newCapacity_0f7a4 57 = .ok (.ishr, 1) := by decide +kernel
theorem dJ5_newCapacity_0f7a4_58 : decode cJ5_newCapacity_0f7a4 58 = .ok (.ireturn, 1) := by decide +kernel
theorem dJ5_append_cf1ce_0 : decode cJ5_append_cf1ce 0 = .ok (.aload_n 1, 1) := by decide +kernel
theorem dJ5_append_cf1ce_1 : decode cJ5_append_cf1ce 1 = .ok (.ifnonnull 8, 3) := by decide +kernel
theorem dJ5_append_cf1ce_4 : decode cJ5_append_cf1ce 4 = .ok (.aload_n 0, 1) := by decide +kernel
theorem dJ5_append_cf1ce_5 : decode cJ5_append_cf1ce 5 = .ok (.invokevirtual 204, 3) := by decide +kernel
theorem dJ5_append_cf1ce_8 : decode cJ5_append_cf1ce 8 = .ok (.areturn, 1) := by decide +kernel
theorem dJ5_append_cf1ce_9 : decode cJ5_append_cf1ce 9 = .ok (.aload_n 1, 1) := by decide +kernel
theorem dJ5_append_cf1ce_10 : decode cJ5_append_cf1ce 10 = .ok (.invokevirtual 32, 3) := by decide +kernel
theorem dJ5_append_cf1ce_13 : decode cJ5_append_cf1ce 13 = .ok (.istore_n 2, 1) := by decide +kernel
theorem dJ5_append_cf1ce_14 : decode cJ5_append_cf1ce 14 = .ok (.aload_n 0, 1) := by decide +kernel
theorem dJ5_append_cf1ce_15 : decode cJ5_append_cf1ce 15 = .ok (.aload_n 0, 1) := by decide +kernel
theorem dJ5_append_cf1ce_16 : decode cJ5_append_cf1ce 16 = .ok (.getfield 79, 3) := by decide +kernel
theorem dJ5_append_cf1ce_19 : decode cJ5_append_cf1ce 19 = .ok (.iload_n 2, 1) := by decide +kernel
theorem dJ5_append_cf1ce_20 : decode cJ5_append_cf1ce 20 = .ok (.iadd, 1) := by decide +kernel
theorem dJ5_append_cf1ce_21 : decode cJ5_append_cf1ce 21 = .ok (.invokevirtual 100, 3) := by decide +kernel
theorem dJ5_append_cf1ce_24 : decode cJ5_append_cf1ce 24 = .ok (.aload_n 0, 1) := by decide +kernel
theorem dJ5_append_cf1ce_25 : decode cJ5_append_cf1ce 25 = .ok (.aload_n 0, 1) := by decide +kernel
theorem dJ5_append_cf1ce_26 : decode cJ5_append_cf1ce 26 = .ok (.getfield 79, 3) := by decide +kernel
theorem dJ5_append_cf1ce_29 : decode cJ5_append_cf1ce 29 = .ok (.aload_n 1, 1) := by decide +kernel
theorem dJ5_append_cf1ce_30 : decode cJ5_append_cf1ce 30 = .ok (.invokevirtual 208, 3) := by decide +kernel
theorem dJ5_append_cf1ce_33 : decode cJ5_append_cf1ce 33 = .ok (.aload_n 0, 1) := by decide +kernel
theorem dJ5_append_cf1ce_34 : decode cJ5_append_cf1ce 34 = .ok (.dup, 1) := by decide +kernel
theorem dJ5_append_cf1ce_35 : decode cJ5_append_cf1ce 35 = .ok (.getfield 79, 3) := by decide +kernel
theorem dJ5_append_cf1ce_38 : decode cJ5_append_cf1ce 38 = .ok (.iload_n 2, 1) := by decide +kernel
theorem dJ5_append_cf1ce_39 : decode cJ5_append_cf1ce 39 = .ok (.iadd, 1) := by decide +kernel
theorem dJ5_append_cf1ce_40 : decode cJ5_append_cf1ce 40 = .ok (.putfield 79, 3) := by decide +kernel
theorem dJ5_append_cf1ce_43 : decode cJ5_append_cf1ce 43 = .ok (.aload_n 0, 1) := by decide +kernel
theorem dJ5_append_cf1ce_44 : decode cJ5_append_cf1ce 44 = .ok (.areturn, 1) := by decide +kernel
theorem dJ5_append_3fe6f_0 : decode cJ5_append_3fe6f 0 = .ok (.aload_n 0, 1) := by decide +kernel
theorem dJ5_append_3fe6f_1 : decode cJ5_append_3fe6f 1 = .ok (.aload_n 0, 1) := by decide +kernel
theorem dJ5_append_3fe6f_2 : decode cJ5_append_3fe6f 2 = .ok (.getfield 79, 3) := by decide +kernel
theorem dJ5_append_3fe6f_5 : decode cJ5_append_3fe6f 5 = .ok (.iconst 1, 1) := by decide +kernel
theorem dJ5_append_3fe6f_6 : decode cJ5_append_3fe6f 6 = .ok (.iadd, 1) := by decide +kernel
theorem dJ5_append_3fe6f_7 : decode cJ5_append_3fe6f 7 = .ok (.invokevirtual 100, 3) := by decide +kernel
theorem dJ5_append_3fe6f_10 : decode cJ5_append_3fe6f 10 = .ok (.aload_n 0, 1) := by decide +kernel
theorem dJ5_append_3fe6f_11 : decode cJ5_append_3fe6f 11 = .ok (.invokevirtual 83, 3) := by decide +kernel
theorem dJ5_append_3fe6f_14 : decode cJ5_append_3fe6f 14 = .ok (.ifCond .eq 31, 3) := by decide +kernel
theorem dJ5_append_3fe6f_17 : decode cJ5_append_3fe6f 17 = .ok (.iload_n 1, 1) := by decide +kernel
theorem dJ5_append_3fe6f_18 : decode cJ5_append_3fe6f 18 = .ok (.invokestatic 191, 3) := by decide +kernel
theorem dJ5_append_3fe6f_21 : decode cJ5_append_3fe6f 21 = .ok (.ifCond .eq 24, 3) := by decide +kernel
theorem dJ5_append_3fe6f_24 : decode cJ5_append_3fe6f 24 = .ok (.aload_n 0, 1) := by decide +kernel
theorem dJ5_append_3fe6f_25 : decode cJ5_append_3fe6f 25 = .ok (.getfield 15, 3) := by decide +kernel
theorem dJ5_append_3fe6f_28 : decode cJ5_append_3fe6f 28 = .ok (.aload_n 0, 1) := by decide +kernel
theorem dJ5_append_3fe6f_29 : decode cJ5_append_3fe6f 29 = .ok (.dup, 1) := by decide +kernel
theorem dJ5_append_3fe6f_30 : decode cJ5_append_3fe6f 30 = .ok (.getfield 79, 3) := by decide +kernel
theorem dJ5_append_3fe6f_33 : decode cJ5_append_3fe6f 33 = .ok (.dup_x1, 1) := by decide +kernel
theorem dJ5_append_3fe6f_34 : decode cJ5_append_3fe6f 34 = .ok (.iconst 1, 1) := by decide +kernel
theorem dJ5_append_3fe6f_35 : decode cJ5_append_3fe6f 35 = .ok (.iadd, 1) := by decide +kernel
theorem dJ5_append_3fe6f_36 : decode cJ5_append_3fe6f 36 = .ok (.putfield 79, 3) := by decide +kernel
theorem dJ5_append_3fe6f_39 : decode cJ5_append_3fe6f 39 = .ok (.iload_n 1, 1) := by decide +kernel
theorem dJ5_append_3fe6f_40 : decode cJ5_append_3fe6f 40 = .ok (.i2b, 1) := by decide +kernel
theorem dJ5_append_3fe6f_41 : decode cJ5_append_3fe6f 41 = .ok (.bastore, 1) := by decide +kernel
theorem dJ5_append_3fe6f_42 : decode cJ5_append_3fe6f 42 = .ok (.goto 33, 3) := by decide +kernel
theorem dJ5_append_3fe6f_45 : decode cJ5_append_3fe6f 45 = .ok (.aload_n 0, 1) := by decide +kernel
theorem dJ5_append_3fe6f_46 : decode cJ5_append_3fe6f 46 = .ok (.invokevirtual 83, 3) := by decide +kernel
theorem dJ5_append_3fe6f_49 : decode cJ5_append_3fe6f 49 = .ok (.ifCond .eq 7, 3) := by decide +kernel
theorem dJ5_append_3fe6f_52 : decode cJ5_append_3fe6f 52 = .ok (.aload_n 0, 1) := by decide +kernel
theorem dJ5_append_3fe6f_53 : decode cJ5_append_3fe6f 53 = .ok (.invokevirtual 195, 3) := by decide +kernel
theorem dJ5_append_3fe6f_56 : decode cJ5_append_3fe6f 56 = .ok (.aload_n 0, 1) := by decide +kernel
theorem dJ5_append_3fe6f_57 : decode cJ5_append_3fe6f 57 = .ok (.getfield 15, 3) := by decide +kernel
theorem dJ5_append_3fe6f_60 : decode cJ5_append_3fe6f 60 = .ok (.aload_n 0, 1) := by decide +kernel
theorem dJ5_append_3fe6f_61 : decode cJ5_append_3fe6f 61 = .ok (.dup, 1) := by decide +kernel
theorem dJ5_append_3fe6f_62 : decode cJ5_append_3fe6f 62 = .ok (.getfield 79, 3) := by decide +kernel
theorem dJ5_append_3fe6f_65 : decode cJ5_append_3fe6f 65 = .ok (.dup_x1, 1) := by decide +kernel
theorem dJ5_append_3fe6f_66 : decode cJ5_append_3fe6f 66 = .ok (.iconst 1, 1) := by decide +kernel
theorem dJ5_append_3fe6f_67 : decode cJ5_append_3fe6f 67 = .ok (.iadd, 1) := by decide +kernel
theorem dJ5_append_3fe6f_68 : decode cJ5_append_3fe6f 68 = .ok (.putfield 79, 3) := by decide +kernel
theorem dJ5_append_3fe6f_71 : decode cJ5_append_3fe6f 71 = .ok (.iload_n 1, 1) := by decide +kernel
theorem dJ5_append_3fe6f_72 : decode cJ5_append_3fe6f 72 = .ok (.invokestatic 197, 3) := by decide +kernel
theorem dJ5_append_3fe6f_75 : decode cJ5_append_3fe6f 75 = .ok (.aload_n 0, 1) := by decide +kernel
theorem dJ5_append_3fe6f_76 : decode cJ5_append_3fe6f 76 = .ok (.areturn, 1) := by decide +kernel
theorem dJ5_getValue_6d5f1_0 : decode cJ5_getValue_6d5f1 0 = .ok (.aload_n 0, 1) := by decide +kernel
theorem dJ5_getValue_6d5f1_1 : decode cJ5_getValue_6d5f1 1 = .ok (.getfield 15, 3) := by decide +kernel
theorem dJ5_getValue_6d5f1_4 : decode cJ5_getValue_6d5f1 4 = .ok (.areturn, 1) := by decide +kernel
theorem dJ5_isLatin1_aae02_0 : decode cJ5_isLatin1_aae02 0 = .ok (.getstatic 18, 3) := by decide +kernel
theorem dJ5_isLatin1_aae02_3 : decode cJ5_isLatin1_aae02 3 = .ok (.ifCond .eq 14, 3) := by decide +kernel
theorem dJ5_isLatin1_aae02_6 : decode cJ5_isLatin1_aae02 6 = .ok (.aload_n 0, 1) := by decide +kernel
theorem dJ5_isLatin1_aae02_7 : decode cJ5_isLatin1_aae02 7 = .ok (.getfield 22, 3) := by decide +kernel
theorem dJ5_isLatin1_aae02_10 : decode cJ5_isLatin1_aae02 10 = .ok (.ifCond .ne 7, 3) := by decide +kernel
theorem dJ5_isLatin1_aae02_13 : decode cJ5_isLatin1_aae02 13 = .ok (.iconst 1, 1) := by decide +kernel
theorem dJ5_isLatin1_aae02_14 : decode cJ5_isLatin1_aae02 14 = .ok (.goto 4, 3) := by decide +kernel
theorem dJ5_isLatin1_aae02_17 : decode cJ5_isLatin1_aae02 17 = .ok (.iconst 0, 1) := by decide +kernel
theorem dJ5_isLatin1_aae02_18 : decode cJ5_isLatin1_aae02 18 = .ok (.ireturn, 1) := by decide +kernel
theorem dJ5_inflateIfNeededFor_a7421_0 : decode cJ5_inflateIfNeededFor_a7421 0 = .ok (.getstatic 18, 3) := by decide +kernel
theorem dJ5_inflateIfNeededFor_a7421_3 : decode cJ5_inflateIfNeededFor_a7421 3 = .ok (.ifCond .eq 18, 3) := by decide +kernel
theorem dJ5_inflateIfNeededFor_a7421_6 : decode cJ5_inflateIfNeededFor_a7421 6 = .ok (.aload_n 0, 1) := by decide +kernel
theorem dJ5_inflateIfNeededFor_a7421_7 : decode cJ5_inflateIfNeededFor_a7421 7 = .ok (.getfield 22, 3) := by decide +kernel
theorem dJ5_inflateIfNeededFor_a7421_10 : decode cJ5_inflateIfNeededFor_a7421 10 = .ok (.aload_n 1, 1) := by decide +kernel
theorem dJ5_inflateIfNeededFor_a7421_11 : decode cJ5_inflateIfNeededFor_a7421 11 = .ok (.invokevirtual 40, 3) := by decide +kernel
theorem dJ5_inflateIfNeededFor_a7421_14 : decode cJ5_inflateIfNeededFor_a7421 14 = .ok (.if_icmp .eq 7, 3) := by decide +kernel
theorem dJ5_inflateIfNeededFor_a7421_17 : decode cJ5_inflateIfNeededFor_a7421 17 = .ok (.aload_n 0, 1) := by decide +kernel
theorem dJ5_inflateIfNeededFor_a7421_18 : decode cJ5_inflateIfNeededFor_a7421 18 = .ok (.invokevirtual 195, 3) := by decide +kernel
theorem dJ5_inflateIfNeededFor_a7421_21 : decode cJ5_inflateIfNeededFor_a7421 21 = .ok (.return_, 1) := by decide +kernel
theorem dJ5_putStringAt_47b60_0 : decode cJ5_putStringAt_47b60 0 = .ok (.aload_n 0, 1) := by decide +kernel
theorem dJ5_putStringAt_47b60_1 : decode cJ5_putStringAt_47b60 1 = .ok (.aload_n 2, 1) := by decide +kernel
theorem dJ5_putStringAt_47b60_2 : decode cJ5_putStringAt_47b60 2 = .ok (.invokevirtual 397, 3) := by decide +kernel
theorem dJ5_putStringAt_47b60_5 : decode cJ5_putStringAt_47b60 5 = .ok (.aload_n 2, 1) := by decide +kernel
theorem dJ5_putStringAt_47b60_6 : decode cJ5_putStringAt_47b60 6 = .ok (.aload_n 0, 1) := by decide +kernel
theorem dJ5_putStringAt_47b60_7 : decode cJ5_putStringAt_47b60 7 = .ok (.getfield 15, 3) := by decide +kernel
theorem dJ5_putStringAt_47b60_10 : decode cJ5_putStringAt_47b60 10 = .ok (.iload_n 1, 1) := by decide +kernel
theorem dJ5_putStringAt_47b60_11 : decode cJ5_putStringAt_47b60 11 = .ok (.aload_n 0, 1) := by decide +kernel
theorem dJ5_putStringAt_47b60_12 : decode cJ5_putStringAt_47b60 12 = .ok (.getfield 22, 3) := by decide +kernel
theorem dJ5_putStringAt_47b60_15 : decode cJ5_putStringAt_47b60 15 = .ok (.invokevirtual 399, 3) := by decide +kernel
theorem dJ5_putStringAt_47b60_18 : decode cJ5_putStringAt_47b60 18 = .ok (.return_, 1) := by decide +kernel
theorem dJ0_init_81219_0 : decode cJ0_init_81219 0 = .ok (.aload_n 0, 1) := by decide +kernel
theorem dJ0_init_81219_1 : decode cJ0_init_81219 1 = .ok (.aload_n 1, 1) := by decide +kernel
theorem dJ0_init_81219_2 : decode cJ0_init_81219 2 = .ok (.aconst_null, 1) := by decide +kernel
theorem dJ0_init_81219_3 : decode cJ0_init_81219 3 = .ok (.invokespecial 489, 3) := by decide +kernel
theorem dJ0_init_81219_6 : decode cJ0_init_81219 6 = .ok (.return_, 1) := by decide +kernel
theorem dJ0_length_8abf5_0 : decode cJ0_length_8abf5 0 = .ok (.aload_n 0, 1) := by decide +kernel
theorem dJ0_length_8abf5_1 : decode cJ0_length_8abf5 1 = .ok (.getfield 9, 3) := by decide +kernel
theorem dJ0_length_8abf5_4 : decode cJ0_length_8abf5 4 = .ok (.arraylength, 1) := by decide +kernel
theorem dJ0_length_8abf5_5 : decode cJ0_length_8abf5 5 = .ok (.aload_n 0, 1) := by decide +kernel
theorem dJ0_length_8abf5_6 : decode cJ0_length_8abf5 6 = .ok (.invokevirtual 335, 3) := by decide +kernel
theorem dJ0_length_8abf5_9 : decode cJ0_length_8abf5 9 = .ok (.ishr, 1) := by decide +kernel
theorem dJ0_length_8abf5_10 : decode cJ0_length_8abf5 10 = .ok (.ireturn, 1) := by decide +kernel
theorem dJ0_charAt_5068e_0 : decode cJ0_charAt_5068e 0 = .ok (.aload_n 0, 1) := by decide +kernel
theorem dJ0_charAt_5068e_1 : decode cJ0_charAt_5068e 1 = .ok (.invokevirtual 492, 3) := by decide +kernel
theorem dJ0_charAt_5068e_4 : decode cJ0_charAt_5068e 4 = .ok (.ifCond .eq 12, 3) := by decide +kernel
theorem dJ0_charAt_5068e_7 : decode cJ0_charAt_5068e 7 = .ok (.aload_n 0, 1) := by decide +kernel
theorem dJ0_charAt_5068e_8 : decode cJ0_charAt_5068e 8 = .ok (.getfield 9, 3) := by decide +kernel
theorem dJ0_charAt_5068e_11 : decode cJ0_charAt_5068e 11 = .ok (.iload_n 1, 1) := by decide +kernel
theorem dJ0_charAt_5068e_12 : decode cJ0_charAt_5068e 12 = .ok (.invokestatic 495, 3) := by decide +kernel
theorem dJ0_charAt_5068e_15 : decode cJ0_charAt_5068e 15 = .ok (.ireturn, 1) := by decide +kernel
theorem dJ0_charAt_5068e_16 : decode cJ0_charAt_5068e 16 = .ok (.aload_n 0, 1) := by decide +kernel
theorem dJ0_charAt_5068e_17 : decode cJ0_charAt_5068e 17 = .ok (.getfield 9, 3) := by decide +kernel
theorem dJ0_charAt_5068e_20 : decode cJ0_charAt_5068e 20 = .ok (.iload_n 1, 1) := by decide +kernel
theorem dJ0_charAt_5068e_21 : decode cJ0_charAt_5068e 21 = .ok (.invokestatic 498, 3) := by decide +kernel
theorem dJ0_charAt_5068e_24 : decode cJ0_charAt_5068e 24 = .ok (.ireturn, 1) := by decide +kernel
theorem dJ0_getBytes_840e7_0 : decode cJ0_getBytes_840e7 0 = .ok (.aload_n 0, 1) := by decide +kernel
theorem dJ0_getBytes_840e7_1 : decode cJ0_getBytes_840e7 1 = .ok (.invokevirtual 335, 3) := by decide +kernel
theorem dJ0_getBytes_840e7_4 : decode cJ0_getBytes_840e7 4 = .ok (.iload_n 3, 1) := by decide +kernel
theorem dJ0_getBytes_840e7_5 : decode cJ0_getBytes_840e7 5 = .ok (.if_icmp .ne 23, 3) := by decide +kernel
theorem dJ0_getBytes_840e7_8 : decode cJ0_getBytes_840e7 8 = .ok (.aload_n 0, 1) := by decide +kernel
theorem dJ0_getBytes_840e7_9 : decode cJ0_getBytes_840e7 9 = .ok (.getfield 9, 3) := by decide +kernel
theorem dJ0_getBytes_840e7_12 : decode cJ0_getBytes_840e7 12 = .ok (.iconst 0, 1) := by decide +kernel
theorem dJ0_getBytes_840e7_13 : decode cJ0_getBytes_840e7 13 = .ok (.aload_n 1, 1) := by decide +kernel
theorem dJ0_getBytes_840e7_14 : decode cJ0_getBytes_840e7 14 = .ok (.iload_n 2, 1) := by decide +kernel
theorem dJ0_getBytes_840e7_15 : decode cJ0_getBytes_840e7 15 = .ok (.iload_n 3, 1) := by decide +kernel
theorem dJ0_getBytes_840e7_16 : decode cJ0_getBytes_840e7 16 = .ok (.ishl, 1) := by decide +kernel
theorem dJ0_getBytes_840e7_17 : decode cJ0_getBytes_840e7 17 = .ok (.aload_n 0, 1) := by decide +kernel
theorem dJ0_getBytes_840e7_18 : decode cJ0_getBytes_840e7 18 = .ok (.getfield 9, 3) := by decide +kernel
theorem dJ0_getBytes_840e7_21 : decode cJ0_getBytes_840e7 21 = .ok (.arraylength, 1) := by decide +kernel
theorem dJ0_getBytes_840e7_22 : decode cJ0_getBytes_840e7 22 = .ok (.invokestatic 212, 3) := by decide +kernel
theorem dJ0_getBytes_840e7_25 : decode cJ0_getBytes_840e7 25 = .ok (.goto 18, 3) := by decide +kernel
theorem dJ0_getBytes_840e7_28 : decode cJ0_getBytes_840e7 28 = .ok (.aload_n 0, 1) := by decide +kernel
theorem dJ0_getBytes_840e7_29 : decode cJ0_getBytes_840e7 29 = .ok (.getfield 9, 3) := by decide +kernel
theorem dJ0_getBytes_840e7_32 : decode cJ0_getBytes_840e7 32 = .ok (.iconst 0, 1) := by decide +kernel
theorem dJ0_getBytes_840e7_33 : decode cJ0_getBytes_840e7 33 = .ok (.aload_n 1, 1) := by decide +kernel
theorem dJ0_getBytes_840e7_34 : decode cJ0_getBytes_840e7 34 = .ok (.iload_n 2, 1) := by decide +kernel
theorem dJ0_getBytes_840e7_35 : decode cJ0_getBytes_840e7 35 = .ok (.aload_n 0, 1) := by decide +kernel
theorem dJ0_getBytes_840e7_36 : decode cJ0_getBytes_840e7 36 = .ok (.getfield 9, 3) := by decide +kernel
theorem dJ0_getBytes_840e7_39 : decode cJ0_getBytes_840e7 39 = .ok (.arraylength, 1) := by decide +kernel
theorem dJ0_getBytes_840e7_40 : decode cJ0_getBytes_840e7 40 = .ok (.invokestatic 106, 3) := by decide +kernel
theorem dJ0_getBytes_840e7_43 : decode cJ0_getBytes_840e7 43 = .ok (.return_, 1) := by decide +kernel
theorem dJ0_init_db425_0 : decode cJ0_init_db425 0 = .ok (.aload_n 0, 1) := by decide +kernel
theorem dJ0_init_db425_1 : decode cJ0_init_db425 1 = .ok (.invokespecial 1, 3) := by decide +kernel
theorem dJ0_init_db425_4 : decode cJ0_init_db425 4 = .ok (.aload_n 1, 1) := by decide +kernel
theorem dJ0_init_db425_5 : decode cJ0_init_db425 5 = .ok (.invokevirtual 552, 3) := by decide +kernel
theorem dJ0_init_db425_8 : decode cJ0_init_db425 8 = .ok (.astore_n 3, 1) := by decide +kernel
theorem dJ0_init_db425_9 : decode cJ0_init_db425 9 = .ok (.aload_n 1, 1) := by decide +kernel
theorem dJ0_init_db425_10 : decode cJ0_init_db425 10 = .ok (.invokevirtual 549, 3) := by decide +kernel
theorem dJ0_init_db425_13 : decode cJ0_init_db425 13 = .ok (.istore 4, 2) := by decide +kernel
theorem dJ0_init_db425_15 : decode cJ0_init_db425 15 = .ok (.aload_n 1, 1) := by decide +kernel
theorem dJ0_init_db425_16 : decode cJ0_init_db425 16 = .ok (.invokevirtual 1047, 3) := by decide +kernel
theorem dJ0_init_db425_19 : decode cJ0_init_db425 19 = .ok (.ifCond .eq 22, 3) := by decide +kernel
theorem dJ0_init_db425_22 : decode cJ0_init_db425 22 = .ok (.aload_n 0, 1) := by decide +kernel
theorem dJ0_init_db425_23 : decode cJ0_init_db425 23 = .ok (.iconst 0, 1) := by decide +kernel
theorem dJ0_init_db425_24 : decode cJ0_init_db425 24 = .ok (.putfield 15, 3) := by decide +kernel
theorem dJ0_init_db425_27 : decode cJ0_init_db425 27 = .ok (.aload_n 0, 1) := by decide +kernel
theorem dJ0_init_db425_28 : decode cJ0_init_db425 28 = .ok (.aload_n 3, 1) := by decide +kernel
theorem dJ0_init_db425_29 : decode cJ0_init_db425 29 = .ok (.iconst 0, 1) := by decide +kernel
theorem dJ0_init_db425_30 : decode cJ0_init_db425 30 = .ok (.iload 4, 2) := by decide +kernel
theorem dJ0_init_db425_32 : decode cJ0_init_db425 32 = .ok (.invokestatic 54, 3) := by decide +kernel
theorem dJ0_init_db425_35 : decode cJ0_init_db425 35 = .ok (.putfield 9, 3) := by decide +kernel
theorem dJ0_init_db425_38 : decode cJ0_init_db425 38 = .ok (.goto 59, 3) := by decide +kernel
theorem dJ0_init_db425_41 : decode cJ0_init_db425 41 = .ok (.getstatic 38, 3) := by decide +kernel
theorem dJ0_init_db425_44 : decode cJ0_init_db425 44 = .ok (.ifCond .eq 35, 3) := by decide +kernel
theorem dJ0_init_db425_47 : decode cJ0_init_db425 47 = .ok (.aload_n 1, 1) := by decide +kernel
theorem dJ0_init_db425_48 : decode cJ0_init_db425 48 = .ok (.getfield 1048, 3) := by decide +kernel
theorem dJ0_init_db425_51 : decode cJ0_init_db425 51 = .ok (.ifCond .eq 28, 3) := by decide +kernel
theorem dJ0_init_db425_54 : decode cJ0_init_db425 54 = .ok (.aload_n 0, 1) := by decide +kernel
theorem dJ0_init_db425_55 : decode cJ0_init_db425 55 = .ok (.aload_n 3, 1) := by decide +kernel
theorem dJ0_init_db425_56 : decode cJ0_init_db425 56 = .ok (.iconst 0, 1) := by decide +kernel
theorem dJ0_init_db425_57 : decode cJ0_init_db425 57 = .ok (.iload 4, 2) := by decide +kernel
theorem dJ0_init_db425_59 : decode cJ0_init_db425 59 = .ok (.invokestatic 1051, 3) := by decide +kernel
theorem dJ0_init_db425_62 : decode cJ0_init_db425 62 = .ok (.putfield 9, 3) := by decide +kernel
theorem dJ0_init_db425_65 : decode cJ0_init_db425 65 = .ok (.aload_n 0, 1) := by decide +kernel
theorem dJ0_init_db425_66 : decode cJ0_init_db425 66 = .ok (.aload_n 0, 1) := by decide +kernel
theorem dJ0_init_db425_67 : decode cJ0_init_db425 67 = .ok (.getfield 9, 3) := by decide +kernel
theorem dJ0_init_db425_70 : decode cJ0_init_db425 70 = .ok (.iload 4, 2) := by decide +kernel
theorem dJ0_init_db425_72 : decode cJ0_init_db425 72 = .ok (.invokestatic 47, 3) := by decide +kernel
theorem dJ0_init_db425_75 : decode cJ0_init_db425 75 = .ok (.putfield 15, 3) := by decide +kernel
theorem dJ0_init_db425_78 : decode cJ0_init_db425 78 = .ok (.return_, 1) := by decide +kernel
theorem dJ0_init_db425_79 : decode cJ0_init_db425 79 = .ok (.aload_n 0, 1) := by decide +kernel
theorem dJ0_init_db425_80 : decode cJ0_init_db425 80 = .ok (.iconst 1, 1) := by decide +kernel
theorem dJ0_init_db425_81 : decode cJ0_init_db425 81 = .ok (.putfield 15, 3) := by decide +kernel
theorem dJ0_init_db425_84 : decode cJ0_init_db425 84 = .ok (.aload_n 0, 1) := by decide +kernel
theorem dJ0_init_db425_85 : decode cJ0_init_db425 85 = .ok (.aload_n 3, 1) := by decide +kernel
theorem dJ0_init_db425_86 : decode cJ0_init_db425 86 = .ok (.iconst 0, 1) := by decide +kernel
theorem dJ0_init_db425_87 : decode cJ0_init_db425 87 = .ok (.iload 4, 2) := by decide +kernel
theorem dJ0_init_db425_89 : decode cJ0_init_db425 89 = .ok (.iconst 1, 1) := by decide +kernel
theorem dJ0_init_db425_90 : decode cJ0_init_db425 90 = .ok (.ishl, 1) := by decide +kernel
theorem dJ0_init_db425_91 : decode cJ0_init_db425 91 = .ok (.invokestatic 54, 3) := by decide +kernel
theorem dJ0_init_db425_94 : decode cJ0_init_db425 94 = .ok (.putfield 9, 3) := by decide +kernel
theorem dJ0_init_db425_97 : decode cJ0_init_db425 97 = .ok (.return_, 1) := by decide +kernel
theorem dJ0_coder_7d493_0 : decode cJ0_coder_7d493 0 = .ok (.getstatic 38, 3) := by decide +kernel
theorem dJ0_coder_7d493_3 : decode cJ0_coder_7d493 3 = .ok (.ifCond .eq 10, 3) := by decide +kernel
theorem dJ0_coder_7d493_6 : decode cJ0_coder_7d493 6 = .ok (.aload_n 0, 1) := by decide +kernel
theorem dJ0_coder_7d493_7 : decode cJ0_coder_7d493 7 = .ok (.getfield 15, 3) := by decide +kernel
theorem dJ0_coder_7d493_10 : decode cJ0_coder_7d493 10 = .ok (.goto 4, 3) := by decide +kernel
theorem dJ0_coder_7d493_13 : decode cJ0_coder_7d493 13 = .ok (.iconst 1, 1) := by decide +kernel
theorem dJ0_coder_7d493_14 : decode cJ0_coder_7d493 14 = .ok (.ireturn, 1) := by decide +kernel
theorem dJ0_isLatin1_aae02_0 : decode cJ0_isLatin1_aae02 0 = .ok (.getstatic 38, 3) := by decide +kernel
theorem dJ0_isLatin1_aae02_3 : decode cJ0_isLatin1_aae02 3 = .ok (.ifCond .eq 14, 3) := by decide +kernel
theorem dJ0_isLatin1_aae02_6 : decode cJ0_isLatin1_aae02 6 = .ok (.aload_n 0, 1) := by decide +kernel
theorem dJ0_isLatin1_aae02_7 : decode cJ0_isLatin1_aae02 7 = .ok (.getfield 15, 3) := by decide +kernel
theorem dJ0_isLatin1_aae02_10 : decode cJ0_isLatin1_aae02 10 = .ok (.ifCond .ne 7, 3) := by decide +kernel
theorem dJ0_isLatin1_aae02_13 : decode cJ0_isLatin1_aae02 13 = .ok (.iconst 1, 1) := by decide +kernel
theorem dJ0_isLatin1_aae02_14 : decode cJ0_isLatin1_aae02 14 = .ok (.goto 4, 3) := by decide +kernel
theorem dJ0_isLatin1_aae02_17 : decode cJ0_isLatin1_aae02 17 = .ok (.iconst 0, 1) := by decide +kernel
theorem dJ0_isLatin1_aae02_18 : decode cJ0_isLatin1_aae02 18 = .ok (.ireturn, 1) := by decide +kernel
theorem dJ0_checkIndex_df160_0 : decode cJ0_checkIndex_df160 0 = .ok (.iload_n 0, 1) := by decide +kernel
theorem dJ0_checkIndex_df160_1 : decode cJ0_checkIndex_df160 1 = .ok (.iload_n 1, 1) := by decide +kernel
theorem dJ0_checkIndex_df160_2 : decode cJ0_checkIndex_df160 2 = .ok (.getstatic 1053, 3) := by decide +kernel
theorem dJ0_checkIndex_df160_5 : decode cJ0_checkIndex_df160 5 = .ok (.invokestatic 1059, 3) := by decide +kernel
theorem dJ0_checkIndex_df160_8 : decode cJ0_checkIndex_df160 8 = .ok (.pop, 1) := by decide +kernel
theorem dJ0_checkIndex_df160_9 : decode cJ0_checkIndex_df160 9 = .ok (.return_, 1) := by decide +kernel
theorem dJ4_init_da8c8_0 : decode cJ4_init_da8c8 0 = .ok (.aload_n 0, 1) := by decide +kernel
theorem dJ4_init_da8c8_1 : decode cJ4_init_da8c8 1 = .ok (.bipush 16, 2) := by decide +kernel
theorem dJ4_init_da8c8_3 : decode cJ4_init_da8c8 3 = .ok (.invokespecial 1, 3) := by decide +kernel
theorem dJ4_init_da8c8_6 : decode cJ4_init_da8c8 6 = .ok (.return_, 1) := by decide +kernel
theorem dJ4_append_15ec4_0 : decode cJ4_append_15ec4 0 = .ok (.aload_n 0, 1) := by decide +kernel
theorem dJ4_append_15ec4_1 : decode cJ4_append_15ec4 1 = .ok (.aload_n 1, 1) := by decide +kernel
theorem dJ4_append_15ec4_2 : decode cJ4_append_15ec4 2 = .ok (.invokespecial 29, 3) := by decide +kernel
theorem dJ4_append_15ec4_5 : decode cJ4_append_15ec4 5 = .ok (.pop, 1) := by decide +kernel
theorem dJ4_append_15ec4_6 : decode cJ4_append_15ec4 6 = .ok (.aload_n 0, 1) := by decide +kernel
theorem dJ4_append_15ec4_7 : decode cJ4_append_15ec4 7 = .ok (.areturn, 1) := by decide +kernel
theorem dJ4_append_cf468_0 : decode cJ4_append_cf468 0 = .ok (.aload_n 0, 1) := by decide +kernel
theorem dJ4_append_cf468_1 : decode cJ4_append_cf468 1 = .ok (.iload_n 1, 1) := by decide +kernel
theorem dJ4_append_cf468_2 : decode cJ4_append_cf468 2 = .ok (.invokespecial 50, 3) := by decide +kernel
theorem dJ4_append_cf468_5 : decode cJ4_append_cf468 5 = .ok (.pop, 1) := by decide +kernel
theorem dJ4_append_cf468_6 : decode cJ4_append_cf468 6 = .ok (.aload_n 0, 1) := by decide +kernel
theorem dJ4_append_cf468_7 : decode cJ4_append_cf468 7 = .ok (.areturn, 1) := by decide +kernel
theorem dJ4_toString_0e30d_0 : decode cJ4_toString_0e30d 0 = .ok (.new 18, 3) := by decide +kernel
theorem dJ4_toString_0e30d_3 : decode cJ4_toString_0e30d 3 = .ok (.dup, 1) := by decide +kernel
theorem dJ4_toString_0e30d_4 : decode cJ4_toString_0e30d 4 = .ok (.aload_n 0, 1) := by decide +kernel
theorem dJ4_toString_0e30d_5 : decode cJ4_toString_0e30d 5 = .ok (.invokespecial 137, 3) := by decide +kernel
theorem dJ4_toString_0e30d_8 : decode cJ4_toString_0e30d 8 = .ok (.areturn, 1) := by decide +kernel
theorem dJ4_length_8abf5_0 : decode cJ4_length_8abf5 0 = .ok (.aload_n 0, 1) := by decide +kernel
theorem dJ4_length_8abf5_1 : decode cJ4_length_8abf5 1 = .ok (.invokespecial 343, 3) := by decide +kernel
theorem dJ4_length_8abf5_4 : decode cJ4_length_8abf5 4 = .ok (.ireturn, 1) := by decide +kernel
theorem dJ1_charAt_3b067_0 : decode cJ1_charAt_3b067 0 = .ok (.iload_n 1, 1) := by decide +kernel
theorem dJ1_charAt_3b067_1 : decode cJ1_charAt_3b067 1 = .ok (.aload_n 0, 1) := by decide +kernel
theorem dJ1_charAt_3b067_2 : decode cJ1_charAt_3b067 2 = .ok (.arraylength, 1) := by decide +kernel
theorem dJ1_charAt_3b067_3 : decode cJ1_charAt_3b067 3 = .ok (.invokestatic 9, 3) := by decide +kernel
theorem dJ1_charAt_3b067_6 : decode cJ1_charAt_3b067 6 = .ok (.aload_n 0, 1) := by decide +kernel
theorem dJ1_charAt_3b067_7 : decode cJ1_charAt_3b067 7 = .ok (.iload_n 1, 1) := by decide +kernel
theorem dJ1_charAt_3b067_8 : decode cJ1_charAt_3b067 8 = .ok (.baload, 1) := by decide +kernel
theorem dJ1_charAt_3b067_9 : decode cJ1_charAt_3b067 9 = .ok (.sipush 255, 3) := by decide +kernel
theorem dJ1_charAt_3b067_12 : decode cJ1_charAt_3b067 12 = .ok (.iand, 1) := by decide +kernel
theorem dJ1_charAt_3b067_13 : decode cJ1_charAt_3b067 13 = .ok (.i2c, 1) := by decide +kernel
theorem dJ1_charAt_3b067_14 : decode cJ1_charAt_3b067 14 = .ok (.ireturn, 1) := by decide +kernel
theorem dJ1_canEncode_fc78d_0 : decode cJ1_canEncode_fc78d 0 = .ok (.iload_n 0, 1) := by decide +kernel
theorem dJ1_canEncode_fc78d_1 : decode cJ1_canEncode_fc78d 1 = .ok (.sipush 255, 3) := by decide +kernel
theorem dJ1_canEncode_fc78d_4 : decode cJ1_canEncode_fc78d 4 = .ok (.if_icmp .gt 7, 3) := by decide +kernel
theorem dJ1_canEncode_fc78d_7 : decode cJ1_canEncode_fc78d 7 = .ok (.iconst 1, 1) := by decide +kernel
theorem dJ1_canEncode_fc78d_8 : decode cJ1_canEncode_fc78d 8 = .ok (.goto 4, 3) := by decide +kernel
theorem dJ1_canEncode_fc78d_11 : decode cJ1_canEncode_fc78d 11 = .ok (.iconst 0, 1) := by decide +kernel
theorem dJ1_canEncode_fc78d_12 : decode cJ1_canEncode_fc78d 12 = .ok (.ireturn, 1) := by decide +kernel
theorem dJ7_copyOf_9075b_0 : decode cJ7_copyOf_9075b 0 = .ok (.iload_n 1, 1) := by decide +kernel
theorem dJ7_copyOf_9075b_1 : decode cJ7_copyOf_9075b 1 = .ok (.aload_n 0, 1) := by decide +kernel
theorem dJ7_copyOf_9075b_2 : decode cJ7_copyOf_9075b 2 = .ok (.arraylength, 1) := by decide +kernel
theorem dJ7_copyOf_9075b_3 : decode cJ7_copyOf_9075b 3 = .ok (.if_icmp .ne 11, 3) := by decide +kernel
theorem dJ7_copyOf_9075b_6 : decode cJ7_copyOf_9075b 6 = .ok (.aload_n 0, 1) := by decide +kernel
theorem dJ7_copyOf_9075b_7 : decode cJ7_copyOf_9075b 7 = .ok (.invokevirtual 310, 3) := by decide +kernel
theorem dJ7_copyOf_9075b_10 : decode cJ7_copyOf_9075b 10 = .ok (.checkcast 311, 3) := by decide +kernel
theorem dJ7_copyOf_9075b_13 : decode cJ7_copyOf_9075b 13 = .ok (.areturn, 1) := by decide +kernel
theorem dJ7_copyOf_9075b_14 : decode cJ7_copyOf_9075b 14 = .ok (.iload_n 1, 1) := by decide +kernel
theorem dJ7_copyOf_9075b_15 : decode cJ7_copyOf_9075b 15 = .ok (.newarray .byte, 2) := by decide +kernel
theorem dJ7_copyOf_9075b_17 : decode cJ7_copyOf_9075b 17 = .ok (.astore_n 2, 1) := by decide +kernel
theorem dJ7_copyOf_9075b_18 : decode cJ7_copyOf_9075b 18 = .ok (.aload_n 0, 1) := by decide +kernel
theorem dJ7_copyOf_9075b_19 : decode cJ7_copyOf_9075b 19 = .ok (.iconst 0, 1) := by decide +kernel
theorem dJ7_copyOf_9075b_20 : decode cJ7_copyOf_9075b 20 = .ok (.aload_n 2, 1) := by decide +kernel
theorem dJ7_copyOf_9075b_21 : decode cJ7_copyOf_9075b 21 = .ok (.iconst 0, 1) := by decide +kernel
theorem dJ7_copyOf_9075b_22 : decode cJ7_copyOf_9075b 22 = .ok (.aload_n 0, 1) := by decide +kernel
theorem dJ7_copyOf_9075b_23 : decode cJ7_copyOf_9075b 23 = .ok (.arraylength, 1) := by decide +kernel
theorem dJ7_copyOf_9075b_24 : decode cJ7_copyOf_9075b 24 = .ok (.iload_n 1, 1) := by decide +kernel
theorem dJ7_copyOf_9075b_25 : decode cJ7_copyOf_9075b 25 = .ok (.invokestatic 304, 3) := by decide +kernel
theorem dJ7_copyOf_9075b_28 : decode cJ7_copyOf_9075b 28 = .ok (.invokestatic 150, 3) := by decide +kernel
theorem dJ7_copyOf_9075b_31 : decode cJ7_copyOf_9075b 31 = .ok (.aload_n 2, 1) := by decide +kernel
theorem dJ7_copyOf_9075b_32 : decode cJ7_copyOf_9075b 32 = .ok (.areturn, 1) := by decide +kernel
theorem dJ7_checkLength_df160_0 : decode cJ7_checkLength_df160 0 = .ok (.iload_n 1, 1) := by decide +kernel
theorem dJ7_checkLength_df160_1 : decode cJ7_checkLength_df160 1 = .ok (.iload_n 0, 1) := by decide +kernel
theorem dJ7_checkLength_df160_2 : decode cJ7_checkLength_df160 2 = .ok (.if_icmp .ge 35, 3) := by decide +kernel
theorem dJ7_checkLength_df160_5 : decode cJ7_checkLength_df160 5 = .ok (.new 43, 3) := by decide +kernel
theorem dJ7_checkLength_df160_8 : decode cJ7_checkLength_df160 8 = .ok (.dup, 1) := by decide +kernel
theorem dJ7_checkLength_df160_9 : decode cJ7_checkLength_df160 9 = .ok (.new 45, 3) := by decide +kernel
theorem dJ7_checkLength_df160_12 : decode cJ7_checkLength_df160 12 = .ok (.dup, 1) := by decide +kernel
theorem dJ7_checkLength_df160_13 : decode cJ7_checkLength_df160 13 = .ok (.invokespecial 47, 3) := by decide +kernel
theorem dJ7_checkLength_df160_16 : decode cJ7_checkLength_df160 16 = .ok (.iload_n 0, 1) := by decide +kernel
theorem dJ7_checkLength_df160_17 : decode cJ7_checkLength_df160 17 = .ok (.invokevirtual 54, 3) := by decide +kernel
theorem dJ7_checkLength_df160_20 : decode cJ7_checkLength_df160 20 = .ok (.ldc_w 337, 3) := by decide +kernel
theorem dJ7_checkLength_df160_23 : decode cJ7_checkLength_df160 23 = .ok (.invokevirtual 50, 3) := by decide +kernel
theorem dJ7_checkLength_df160_26 : decode cJ7_checkLength_df160 26 = .ok (.iload_n 1, 1) := by decide +kernel
theorem dJ7_checkLength_df160_27 : decode cJ7_checkLength_df160 27 = .ok (.invokevirtual 54, 3) := by decide +kernel
theorem dJ7_checkLength_df160_30 : decode cJ7_checkLength_df160 30 = .ok (.invokevirtual 61, 3) := by decide +kernel
theorem dJ7_checkLength_df160_33 : decode cJ7_checkLength_df160 33 = .ok (.invokespecial 65, 3) := by decide +kernel
theorem dJ7_checkLength_df160_36 : decode cJ7_checkLength_df160 36 = .ok (.athrow, 1) := by decide +kernel
theorem dJ7_checkLength_df160_37 : decode cJ7_checkLength_df160 37 = .ok (.return_, 1) := by decide +kernel
theorem dJ7_copyOfRange_39247_0 : decode cJ7_copyOfRange_39247 0 = .ok (.iload_n 1, 1) := by decide +kernel
theorem dJ7_copyOfRange_39247_1 : decode cJ7_copyOfRange_39247 1 = .ok (.ifCond .ne 9, 3) := by decide +kernel
theorem dJ7_copyOfRange_39247_4 : decode cJ7_copyOfRange_39247 4 = .ok (.iload_n 2, 1) := by decide +kernel
theorem dJ7_copyOfRange_39247_5 : decode cJ7_copyOfRange_39247 5 = .ok (.aload_n 0, 1) := by decide +kernel
theorem dJ7_copyOfRange_39247_6 : decode cJ7_copyOfRange_39247 6 = .ok (.arraylength, 1) := by decide +kernel
theorem dJ7_copyOfRange_39247_7 : decode cJ7_copyOfRange_39247 7 = .ok (.if_icmp .eq 10, 3) := by decide +kernel
theorem dJ7_copyOfRange_39247_10 : decode cJ7_copyOfRange_39247 10 = .ok (.aload_n 0, 1) := by decide +kernel
theorem dJ7_copyOfRange_39247_11 : decode cJ7_copyOfRange_39247 11 = .ok (.iload_n 1, 1) := by decide +kernel
theorem dJ7_copyOfRange_39247_12 : decode cJ7_copyOfRange_39247 12 = .ok (.iload_n 2, 1) := by decide +kernel
theorem dJ7_copyOfRange_39247_13 : decode cJ7_copyOfRange_39247 13 = .ok (.invokestatic 339, 3) := by decide +kernel
theorem dJ7_copyOfRange_39247_16 : decode cJ7_copyOfRange_39247 16 = .ok (.areturn, 1) := by decide +kernel
theorem dJ7_copyOfRange_39247_17 : decode cJ7_copyOfRange_39247 17 = .ok (.aload_n 0, 1) := by decide +kernel
theorem dJ7_copyOfRange_39247_18 : decode cJ7_copyOfRange_39247 18 = .ok (.invokevirtual 310, 3) := by decide +kernel
theorem dJ7_copyOfRange_39247_21 : decode cJ7_copyOfRange_39247 21 = .ok (.checkcast 311, 3) := by decide +kernel
theorem dJ7_copyOfRange_39247_24 : decode cJ7_copyOfRange_39247 24 = .ok (.areturn, 1) := by decide +kernel
theorem dJ7_copyOfRangeByte_39247_0 : decode cJ7_copyOfRangeByte_39247 0 = .ok (.iload_n 1, 1) := by decide +kernel
theorem dJ7_copyOfRangeByte_39247_1 : decode cJ7_copyOfRangeByte_39247 1 = .ok (.iload_n 2, 1) := by decide +kernel
theorem dJ7_copyOfRangeByte_39247_2 : decode cJ7_copyOfRangeByte_39247 2 = .ok (.invokestatic 343, 3) := by decide +kernel
theorem dJ7_copyOfRangeByte_39247_5 : decode cJ7_copyOfRangeByte_39247 5 = .ok (.iload_n 2, 1) := by decide +kernel
theorem dJ7_copyOfRangeByte_39247_6 : decode cJ7_copyOfRangeByte_39247 6 = .ok (.iload_n 1, 1) := by decide +kernel
theorem dJ7_copyOfRangeByte_39247_7 : decode cJ7_copyOfRangeByte_39247 7 = .ok (.isub, 1) := by decide +kernel
theorem dJ7_copyOfRangeByte_39247_8 : decode cJ7_copyOfRangeByte_39247 8 = .ok (.istore_n 3, 1) := by decide +kernel
theorem dJ7_copyOfRangeByte_39247_9 : decode cJ7_copyOfRangeByte_39247 9 = .ok (.iload_n 3, 1) := by decide +kernel
theorem dJ7_copyOfRangeByte_39247_10 : decode cJ7_copyOfRangeByte_39247 10 = .ok (.newarray .byte, 2) := by decide +kernel
theorem dJ7_copyOfRangeByte_39247_12 : decode cJ7_copyOfRangeByte_39247 12 = .ok (.astore 4, 2) := by decide +kernel
theorem dJ7_copyOfRangeByte_39247_14 : decode cJ7_copyOfRangeByte_39247 14 = .ok (.aload_n 0, 1) := by decide +kernel
theorem dJ7_copyOfRangeByte_39247_15 : decode cJ7_copyOfRangeByte_39247 15 = .ok (.iload_n 1, 1) := by decide +kernel
theorem dJ7_copyOfRangeByte_39247_16 : decode cJ7_copyOfRangeByte_39247 16 = .ok (.aload 4, 2) := by decide +kernel
theorem dJ7_copyOfRangeByte_39247_18 : decode cJ7_copyOfRangeByte_39247 18 = .ok (.iconst 0, 1) := by decide +kernel
theorem dJ7_copyOfRangeByte_39247_19 : decode cJ7_copyOfRangeByte_39247 19 = .ok (.aload_n 0, 1) := by decide +kernel
theorem dJ7_copyOfRangeByte_39247_20 : decode cJ7_copyOfRangeByte_39247 20 = .ok (.arraylength, 1) := by decide +kernel
theorem dJ7_copyOfRangeByte_39247_21 : decode cJ7_copyOfRangeByte_39247 21 = .ok (.iload_n 1, 1) := by decide +kernel
theorem dJ7_copyOfRangeByte_39247_22 : decode cJ7_copyOfRangeByte_39247 22 = .ok (.isub, 1) := by decide +kernel
theorem dJ7_copyOfRangeByte_39247_23 : decode cJ7_copyOfRangeByte_39247 23 = .ok (.iload_n 3, 1) := by decide +kernel
theorem dJ7_copyOfRangeByte_39247_24 : decode cJ7_copyOfRangeByte_39247 24 = .ok (.invokestatic 304, 3) := by decide +kernel
theorem dJ7_copyOfRangeByte_39247_27 : decode cJ7_copyOfRangeByte_39247 27 = .ok (.invokestatic 150, 3) := by decide +kernel
theorem dJ7_copyOfRangeByte_39247_30 : decode cJ7_copyOfRangeByte_39247 30 = .ok (.aload 4, 2) := by decide +kernel
theorem dJ7_copyOfRangeByte_39247_32 : decode cJ7_copyOfRangeByte_39247 32 = .ok (.areturn, 1) := by decide +kernel
theorem dJ8_newLength_cabcc_0 : decode cJ8_newLength_cabcc 0 = .ok (.iload_n 0, 1) := by decide +kernel
theorem dJ8_newLength_cabcc_1 : decode cJ8_newLength_cabcc 1 = .ok (.iload_n 1, 1) := by decide +kernel
theorem dJ8_newLength_cabcc_2 : decode cJ8_newLength_cabcc 2 = .ok (.iload_n 2, 1) := by decide +kernel
theorem dJ8_newLength_cabcc_3 : decode cJ8_newLength_cabcc 3 = .ok (.invokestatic 194, 3) := by decide +kernel
theorem dJ8_newLength_cabcc_6 : decode cJ8_newLength_cabcc 6 = .ok (.iadd, 1) := by decide +kernel
theorem dJ8_newLength_cabcc_7 : decode cJ8_newLength_cabcc 7 = .ok (.istore_n 3, 1) := by decide +kernel
theorem dJ8_newLength_cabcc_8 : decode cJ8_newLength_cabcc 8 = .ok (.iconst 0, 1) := by decide +kernel
theorem dJ8_newLength_cabcc_9 : decode cJ8_newLength_cabcc 9 = .ok (.iload_n 3, 1) := by decide +kernel
theorem dJ8_newLength_cabcc_10 : decode cJ8_newLength_cabcc 10 = .ok (.if_icmp .ge 11, 3) := by decide +kernel
theorem dJ8_newLength_cabcc_13 : decode cJ8_newLength_cabcc 13 = .ok (.iload_n 3, 1) := by decide +kernel
theorem dJ8_newLength_cabcc_14 : decode cJ8_newLength_cabcc 14 = .ok (.ldc 200, 2) := by decide +kernel
theorem dJ8_newLength_cabcc_16 : decode cJ8_newLength_cabcc 16 = .ok (.if_icmp .gt 5, 3) := by decide +kernel
theorem dJ8_newLength_cabcc_19 : decode cJ8_newLength_cabcc 19 = .ok (.iload_n 3, 1) := by decide +kernel
theorem dJ8_newLength_cabcc_20 : decode cJ8_newLength_cabcc 20 = .ok (.ireturn, 1) := by decide +kernel
theorem dJ8_newLength_cabcc_21 : decode cJ8_newLength_cabcc 21 = .ok (.iload_n 0, 1) := by decide +kernel
theorem dJ8_newLength_cabcc_22 : decode cJ8_newLength_cabcc 22 = .ok (.iload_n 1, 1) := by decide +kernel
theorem dJ8_newLength_cabcc_23 : decode cJ8_newLength_cabcc 23 = .ok (.invokestatic 201, 3) := by decide +kernel
theorem dJ8_newLength_cabcc_26 : decode cJ8_newLength_cabcc 26 = .ok (.ireturn, 1) := by decide +kernel
theorem dJ3_checkIndex_8e157_0 : decode cJ3_checkIndex_8e157 0 = .ok (.iload_n 0, 1) := by decide +kernel
theorem dJ3_checkIndex_8e157_1 : decode cJ3_checkIndex_8e157 1 = .ok (.ifCond .lt 8, 3) := by decide +kernel
theorem dJ3_checkIndex_8e157_4 : decode cJ3_checkIndex_8e157 4 = .ok (.iload_n 0, 1) := by decide +kernel
theorem dJ3_checkIndex_8e157_5 : decode cJ3_checkIndex_8e157 5 = .ok (.iload_n 1, 1) := by decide +kernel
theorem dJ3_checkIndex_8e157_6 : decode cJ3_checkIndex_8e157 6 = .ok (.if_icmp .lt 10, 3) := by decide +kernel
theorem dJ3_checkIndex_8e157_9 : decode cJ3_checkIndex_8e157 9 = .ok (.aload_n 2, 1) := by decide +kernel
theorem dJ3_checkIndex_8e157_10 : decode cJ3_checkIndex_8e157 10 = .ok (.iload_n 0, 1) := by decide +kernel
theorem dJ3_checkIndex_8e157_11 : decode cJ3_checkIndex_8e157 11 = .ok (.iload_n 1, 1) := by decide +kernel
theorem dJ3_checkIndex_8e157_12 : decode cJ3_checkIndex_8e157 12 = .ok (.invokestatic 95, 3) := by decide +kernel
theorem dJ3_checkIndex_8e157_15 : decode cJ3_checkIndex_8e157 15 = .ok (.athrow, 1) := by decide +kernel
theorem dJ3_checkIndex_8e157_16 : decode cJ3_checkIndex_8e157 16 = .ok (.iload_n 0, 1) := by decide +kernel
theorem dJ3_checkIndex_8e157_17 : decode cJ3_checkIndex_8e157 17 = .ok (.ireturn, 1) := by decide +kernel
end
section
theorem dL_cell_0 : decode cL_cell 0 = .ok (.iload_n 1, 1) := by decide +kernel
theorem dL_cell_1 : decode cL_cell 1 = .ok (.aload_n 0, 1) := by decide +kernel
theorem dL_cell_2 : decode cL_cell 2 = .ok (.arraylength, 1) := by decide +kernel
theorem dL_cell_3 : decode cL_cell 3 = .ok (.if_icmp .ge 9, 3) := by decide +kernel
theorem dL_cell_6 : decode cL_cell 6 = .ok (.aload_n 0, 1) := by decide +kernel
theorem dL_cell_7 : decode cL_cell 7 = .ok (.iload_n 1, 1) := by decide +kernel
theorem dL_cell_8 : decode cL_cell 8 = .ok (.iaload, 1) := by decide +kernel
theorem dL_cell_9 : decode cL_cell 9 = .ok (.goto 11, 3) := by decide +kernel
theorem dL_cell_12 : decode cL_cell 12 = .ok (.ldc 7, 2) := by decide +kernel
theorem dL_cell_14 : decode cL_cell 14 = .ok (.iload_n 1, 1) := by decide +kernel
theorem dL_cell_15 : decode cL_cell 15 = .ok (.imul, 1) := by decide +kernel
theorem dL_cell_16 : decode cL_cell 16 = .ok (.sipush 5779, 3) := by decide +kernel
theorem dL_cell_19 : decode cL_cell 19 = .ok (.iadd, 1) := by decide +kernel
theorem dL_cell_20 : decode cL_cell 20 = .ok (.ireturn, 1) := by decide +kernel
theorem dL_low_0 : decode cL_low 0 = .ok (.iload_n 0, 1) := by decide +kernel
theorem dL_low_1 : decode cL_low 1 = .ok (.ldc 8, 2) := by decide +kernel
theorem dL_low_3 : decode cL_low 3 = .ok (.iand, 1) := by decide +kernel
theorem dL_low_4 : decode cL_low 4 = .ok (.iload_n 1, 1) := by decide +kernel
theorem dL_low_5 : decode cL_low 5 = .ok (.irem, 1) := by decide +kernel
theorem dL_low_6 : decode cL_low 6 = .ok (.ireturn, 1) := by decide +kernel
theorem dL_types_0 : decode cL_types 0 = .ok (.aload_n 0, 1) := by decide +kernel
theorem dL_types_1 : decode cL_types 1 = .ok (.invokevirtual 9, 3) := by decide +kernel
theorem dL_types_4 : decode cL_types 4 = .ok (.istore 4, 2) := by decide +kernel
theorem dL_types_6 : decode cL_types 6 = .ok (.iconst 1, 1) := by decide +kernel
theorem dL_types_7 : decode cL_types 7 = .ok (.iload_n 1, 1) := by decide +kernel
theorem dL_types_8 : decode cL_types 8 = .ok (.iload_n 2, 1) := by decide +kernel
theorem dL_types_9 : decode cL_types 9 = .ok (.invokestatic 15, 3) := by decide +kernel
theorem dL_types_12 : decode cL_types 12 = .ok (.iadd, 1) := by decide +kernel
theorem dL_types_13 : decode cL_types 13 = .ok (.istore 5, 2) := by decide +kernel
theorem dL_types_15 : decode cL_types 15 = .ok (.iconst 0, 1) := by decide +kernel
theorem dL_types_16 : decode cL_types 16 = .ok (.istore 6, 2) := by decide +kernel
theorem dL_types_18 : decode cL_types 18 = .ok (.iload 6, 2) := by decide +kernel
theorem dL_types_20 : decode cL_types 20 = .ok (.iload 5, 2) := by decide +kernel
theorem dL_types_22 : decode cL_types 22 = .ok (.if_icmp .ge 63, 3) := by decide +kernel
theorem dL_types_25 : decode cL_types 25 = .ok (.ldc 7, 2) := by decide +kernel
theorem dL_types_27 : decode cL_types 27 = .ok (.iload_n 1, 1) := by decide +kernel
theorem dL_types_28 : decode cL_types 28 = .ok (.iconst 5, 1) := by decide +kernel
theorem dL_types_29 : decode cL_types 29 = .ok (.ishr, 1) := by decide +kernel
theorem dL_types_30 : decode cL_types 30 = .ok (.imul, 1) := by decide +kernel
theorem dL_types_31 : decode cL_types 31 = .ok (.sipush 2749, 3) := by decide +kernel
theorem dL_types_34 : decode cL_types 34 = .ok (.iload 6, 2) := by decide +kernel
theorem dL_types_36 : decode cL_types 36 = .ok (.imul, 1) := by decide +kernel
theorem dL_types_37 : decode cL_types 37 = .ok (.iadd, 1) := by decide +kernel
theorem dL_types_38 : decode cL_types 38 = .ok (.iconst 3, 1) := by decide +kernel
theorem dL_types_39 : decode cL_types 39 = .ok (.ishr, 1) := by decide +kernel
theorem dL_types_40 : decode cL_types 40 = .ok (.istore 7, 2) := by decide +kernel
theorem dL_types_42 : decode cL_types 42 = .ok (.aload_n 0, 1) := by decide +kernel
theorem dL_types_43 : decode cL_types 43 = .ok (.iload_n 3, 1) := by decide +kernel
theorem dL_types_44 : decode cL_types 44 = .ok (.ifCond .eq 17, 3) := by decide +kernel
theorem dL_types_47 : decode cL_types 47 = .ok (.iload 7, 2) := by decide +kernel
theorem dL_types_49 : decode cL_types 49 = .ok (.iconst 4, 1) := by decide +kernel
theorem dL_types_50 : decode cL_types 50 = .ok (.invokestatic 15, 3) := by decide +kernel
theorem dL_types_53 : decode cL_types 53 = .ok (.ifCond .ne 8, 3) := by decide +kernel
theorem dL_types_56 : decode cL_types 56 = .ok (.bipush 32, 2) := by decide +kernel
theorem dL_types_58 : decode cL_types 58 = .ok (.goto 16, 3) := by decide +kernel
theorem dL_types_61 : decode cL_types 61 = .ok (.ldc 21, 2) := by decide +kernel
theorem dL_types_63 : decode cL_types 63 = .ok (.iload 7, 2) := by decide +kernel
theorem dL_types_65 : decode cL_types 65 = .ok (.iconst 2, 1) := by decide +kernel
theorem dL_types_66 : decode cL_types 66 = .ok (.ishr, 1) := by decide +kernel
theorem dL_types_67 : decode cL_types 67 = .ok (.iconst 4, 1) := by decide +kernel
theorem dL_types_68 : decode cL_types 68 = .ok (.invokestatic 15, 3) := by decide +kernel
theorem dL_types_71 : decode cL_types 71 = .ok (.invokevirtual 23, 3) := by decide +kernel
theorem dL_types_74 : decode cL_types 74 = .ok (.invokevirtual 29, 3) := by decide +kernel
theorem dL_types_77 : decode cL_types 77 = .ok (.istore 8, 2) := by decide +kernel
theorem dL_types_79 : decode cL_types 79 = .ok (.iinc 6 1, 3) := by decide +kernel
theorem dL_types_82 : decode cL_types 82 = .ok (.goto (-64), 3) := by decide +kernel
theorem dL_types_85 : decode cL_types 85 = .ok (.return_, 1) := by decide +kernel
theorem dL_line_0 : decode cL_line 0 = .ok (.ldc 54, 2) := by decide +kernel
theorem dL_line_2 : decode cL_line 2 = .ok (.astore_n 3, 1) := by decide +kernel
theorem dL_line_3 : decode cL_line 3 = .ok (.iconst 0, 1) := by decide +kernel
theorem dL_line_4 : decode cL_line 4 = .ok (.istore 4, 2) := by decide +kernel
theorem dL_line_6 : decode cL_line 6 = .ok (.iload 4, 2) := by decide +kernel
theorem dL_line_8 : decode cL_line 8 = .ok (.bipush 40, 2) := by decide +kernel
theorem dL_line_10 : decode cL_line 10 = .ok (.if_icmp .gt 36, 3) := by decide +kernel
theorem dL_line_13 : decode cL_line 13 = .ok (.new 56, 3) := by decide +kernel
theorem dL_line_16 : decode cL_line 16 = .ok (.dup, 1) := by decide +kernel
theorem dL_line_17 : decode cL_line 17 = .ok (.invokespecial 58, 3) := by decide +kernel
theorem dL_line_20 : decode cL_line 20 = .ok (.aload_n 3, 1) := by decide +kernel
theorem dL_line_21 : decode cL_line 21 = .ok (.invokevirtual 59, 3) := by decide +kernel
theorem dL_line_24 : decode cL_line 24 = .ok (.aload_n 0, 1) := by decide +kernel
theorem dL_line_25 : decode cL_line 25 = .ok (.iload_n 1, 1) := by decide +kernel
theorem dL_line_26 : decode cL_line 26 = .ok (.iload_n 2, 1) := by decide +kernel
theorem dL_line_27 : decode cL_line 27 = .ok (.iload 4, 2) := by decide +kernel
theorem dL_line_29 : decode cL_line 29 = .ok (.invokevirtual 63, 3) := by decide +kernel
theorem dL_line_32 : decode cL_line 32 = .ok (.i2c, 1) := by decide +kernel
theorem dL_line_33 : decode cL_line 33 = .ok (.invokevirtual 66, 3) := by decide +kernel
theorem dL_line_36 : decode cL_line 36 = .ok (.invokevirtual 69, 3) := by decide +kernel
theorem dL_line_39 : decode cL_line 39 = .ok (.astore_n 3, 1) := by decide +kernel
theorem dL_line_40 : decode cL_line 40 = .ok (.iinc 4 1, 3) := by decide +kernel
theorem dL_line_43 : decode cL_line 43 = .ok (.goto (-37), 3) := by decide +kernel
theorem dL_line_46 : decode cL_line 46 = .ok (.aload_n 3, 1) := by decide +kernel
theorem dL_line_47 : decode cL_line 47 = .ok (.areturn, 1) := by decide +kernel
theorem dL_line_48 : decode cL_line 48 = .ok (.astore 4, 2) := by decide +kernel
theorem dL_line_50 : decode cL_line 50 = .ok (.aload_n 3, 1) := by decide +kernel
theorem dL_line_51 : decode cL_line 51 = .ok (.areturn, 1) := by decide +kernel
theorem dL_word_0 : decode cL_word 0 = .ok (.ldc 54, 2) := by decide +kernel
theorem dL_word_2 : decode cL_word 2 = .ok (.astore_n 3, 1) := by decide +kernel
theorem dL_word_3 : decode cL_word 3 = .ok (.iconst 0, 1) := by decide +kernel
theorem dL_word_4 : decode cL_word 4 = .ok (.istore 4, 2) := by decide +kernel
theorem dL_word_6 : decode cL_word 6 = .ok (.iload 4, 2) := by decide +kernel
theorem dL_word_8 : decode cL_word 8 = .ok (.aload_n 0, 1) := by decide +kernel
theorem dL_word_9 : decode cL_word 9 = .ok (.iload_n 1, 1) := by decide +kernel
theorem dL_word_10 : decode cL_word 10 = .ok (.iload_n 2, 1) := by decide +kernel
theorem dL_word_11 : decode cL_word 11 = .ok (.invokevirtual 73, 3) := by decide +kernel
theorem dL_word_14 : decode cL_word 14 = .ok (.if_icmp .ge 36, 3) := by decide +kernel
theorem dL_word_17 : decode cL_word 17 = .ok (.new 56, 3) := by decide +kernel
theorem dL_word_20 : decode cL_word 20 = .ok (.dup, 1) := by decide +kernel
theorem dL_word_21 : decode cL_word 21 = .ok (.invokespecial 58, 3) := by decide +kernel
theorem dL_word_24 : decode cL_word 24 = .ok (.aload_n 3, 1) := by decide +kernel
theorem dL_word_25 : decode cL_word 25 = .ok (.invokevirtual 59, 3) := by decide +kernel
theorem dL_word_28 : decode cL_word 28 = .ok (.aload_n 0, 1) := by decide +kernel
theorem dL_word_29 : decode cL_word 29 = .ok (.iload_n 1, 1) := by decide +kernel
theorem dL_word_30 : decode cL_word 30 = .ok (.iload_n 2, 1) := by decide +kernel
theorem dL_word_31 : decode cL_word 31 = .ok (.iload 4, 2) := by decide +kernel
theorem dL_word_33 : decode cL_word 33 = .ok (.invokevirtual 76, 3) := by decide +kernel
theorem dL_word_36 : decode cL_word 36 = .ok (.i2c, 1) := by decide +kernel
theorem dL_word_37 : decode cL_word 37 = .ok (.invokevirtual 66, 3) := by decide +kernel
theorem dL_word_40 : decode cL_word 40 = .ok (.invokevirtual 69, 3) := by decide +kernel
theorem dL_word_43 : decode cL_word 43 = .ok (.astore_n 3, 1) := by decide +kernel
theorem dL_word_44 : decode cL_word 44 = .ok (.iinc 4 1, 3) := by decide +kernel
theorem dL_word_47 : decode cL_word 47 = .ok (.goto (-41), 3) := by decide +kernel
theorem dL_word_50 : decode cL_word 50 = .ok (.aload_n 3, 1) := by decide +kernel
theorem dL_word_51 : decode cL_word 51 = .ok (.areturn, 1) := by decide +kernel
theorem dL_areAlike_0 : decode cL_areAlike 0 = .ok (.aload_n 0, 1) := by decide +kernel
theorem dL_areAlike_1 : decode cL_areAlike 1 = .ok (.invokevirtual 79, 3) := by decide +kernel
theorem dL_areAlike_4 : decode cL_areAlike 4 = .ok (.aload_n 1, 1) := by decide +kernel
theorem dL_areAlike_5 : decode cL_areAlike 5 = .ok (.invokevirtual 79, 3) := by decide +kernel
theorem dL_areAlike_8 : decode cL_areAlike 8 = .ok (.if_icmp .ne 7, 3) := by decide +kernel
theorem dL_areAlike_11 : decode cL_areAlike 11 = .ok (.iconst 1, 1) := by decide +kernel
theorem dL_areAlike_12 : decode cL_areAlike 12 = .ok (.goto 4, 3) := by decide +kernel
theorem dL_areAlike_15 : decode cL_areAlike 15 = .ok (.iconst 0, 1) := by decide +kernel
theorem dL_areAlike_16 : decode cL_areAlike 16 = .ok (.istore_n 2, 1) := by decide +kernel
theorem dL_areAlike_17 : decode cL_areAlike 17 = .ok (.iconst 0, 1) := by decide +kernel
theorem dL_areAlike_18 : decode cL_areAlike 18 = .ok (.istore_n 3, 1) := by decide +kernel
theorem dL_areAlike_19 : decode cL_areAlike 19 = .ok (.iload_n 3, 1) := by decide +kernel
theorem dL_areAlike_20 : decode cL_areAlike 20 = .ok (.aload_n 0, 1) := by decide +kernel
theorem dL_areAlike_21 : decode cL_areAlike 21 = .ok (.invokevirtual 79, 3) := by decide +kernel
theorem dL_areAlike_24 : decode cL_areAlike 24 = .ok (.if_icmp .ge 32, 3) := by decide +kernel
theorem dL_areAlike_27 : decode cL_areAlike 27 = .ok (.iload_n 2, 1) := by decide +kernel
theorem dL_areAlike_28 : decode cL_areAlike 28 = .ok (.ifCond .eq 28, 3) := by decide +kernel
theorem dL_areAlike_31 : decode cL_areAlike 31 = .ok (.aload_n 0, 1) := by decide +kernel
theorem dL_areAlike_32 : decode cL_areAlike 32 = .ok (.iload_n 3, 1) := by decide +kernel
theorem dL_areAlike_33 : decode cL_areAlike 33 = .ok (.invokevirtual 23, 3) := by decide +kernel
theorem dL_areAlike_36 : decode cL_areAlike 36 = .ok (.aload_n 1, 1) := by decide +kernel
theorem dL_areAlike_37 : decode cL_areAlike 37 = .ok (.iload_n 3, 1) := by decide +kernel
theorem dL_areAlike_38 : decode cL_areAlike 38 = .ok (.invokevirtual 23, 3) := by decide +kernel
theorem dL_areAlike_41 : decode cL_areAlike 41 = .ok (.if_icmp .ne 7, 3) := by decide +kernel
theorem dL_areAlike_44 : decode cL_areAlike 44 = .ok (.iconst 1, 1) := by decide +kernel
theorem dL_areAlike_45 : decode cL_areAlike 45 = .ok (.goto 4, 3) := by decide +kernel
theorem dL_areAlike_48 : decode cL_areAlike 48 = .ok (.iconst 0, 1) := by decide +kernel
theorem dL_areAlike_49 : decode cL_areAlike 49 = .ok (.istore_n 2, 1) := by decide +kernel
theorem dL_areAlike_50 : decode cL_areAlike 50 = .ok (.iinc 3 1, 3) := by decide +kernel
theorem dL_areAlike_53 : decode cL_areAlike 53 = .ok (.goto (-34), 3) := by decide +kernel
theorem dL_areAlike_56 : decode cL_areAlike 56 = .ok (.iload_n 2, 1) := by decide +kernel
theorem dL_areAlike_57 : decode cL_areAlike 57 = .ok (.ireturn, 1) := by decide +kernel
theorem dL_isSet_0 : decode cL_isSet 0 = .ok (.ldc 54, 2) := by decide +kernel
theorem dL_isSet_2 : decode cL_isSet 2 = .ok (.astore_n 3, 1) := by decide +kernel
theorem dL_isSet_3 : decode cL_isSet 3 = .ok (.ldc 54, 2) := by decide +kernel
theorem dL_isSet_5 : decode cL_isSet 5 = .ok (.astore 4, 2) := by decide +kernel
theorem dL_isSet_7 : decode cL_isSet 7 = .ok (.iconst 1, 1) := by decide +kernel
theorem dL_isSet_8 : decode cL_isSet 8 = .ok (.istore 5, 2) := by decide +kernel
theorem dL_isSet_10 : decode cL_isSet 10 = .ok (.iconst 0, 1) := by decide +kernel
theorem dL_isSet_11 : decode cL_isSet 11 = .ok (.istore 6, 2) := by decide +kernel
theorem dL_isSet_13 : decode cL_isSet 13 = .ok (.iload 6, 2) := by decide +kernel
theorem dL_isSet_15 : decode cL_isSet 15 = .ok (.aload_n 0, 1) := by decide +kernel
theorem dL_isSet_16 : decode cL_isSet 16 = .ok (.iload_n 1, 1) := by decide +kernel
theorem dL_isSet_17 : decode cL_isSet 17 = .ok (.invokevirtual 81, 3) := by decide +kernel
theorem dL_isSet_20 : decode cL_isSet 20 = .ok (.if_icmp .ge 148, 3) := by decide +kernel
theorem dL_isSet_23 : decode cL_isSet 23 = .ok (.iload 5, 2) := by decide +kernel
theorem dL_isSet_25 : decode cL_isSet 25 = .ok (.ifCond .eq 143, 3) := by decide +kernel
theorem dL_isSet_28 : decode cL_isSet 28 = .ok (.aload_n 0, 1) := by decide +kernel
theorem dL_isSet_29 : decode cL_isSet 29 = .ok (.iload_n 1, 1) := by decide +kernel
theorem dL_isSet_30 : decode cL_isSet 30 = .ok (.iload 6, 2) := by decide +kernel
theorem dL_isSet_32 : decode cL_isSet 32 = .ok (.invokestatic 84, 3) := by decide +kernel
theorem dL_isSet_35 : decode cL_isSet 35 = .ok (.astore 7, 2) := by decide +kernel
theorem dL_isSet_37 : decode cL_isSet 37 = .ok (.aload 7, 2) := by decide +kernel
theorem dL_isSet_39 : decode cL_isSet 39 = .ok (.invokevirtual 79, 3) := by decide +kernel
theorem dL_isSet_42 : decode cL_isSet 42 = .ok (.ifCond .le 40, 3) := by decide +kernel
theorem dL_isSet_45 : decode cL_isSet 45 = .ok (.aload 7, 2) := by decide +kernel
theorem dL_isSet_47 : decode cL_isSet 47 = .ok (.invokevirtual 79, 3) := by decide +kernel
theorem dL_isSet_50 : decode cL_isSet 50 = .ok (.iload_n 2, 1) := by decide +kernel
theorem dL_isSet_51 : decode cL_isSet 51 = .ok (.if_icmp .gt 31, 3) := by decide +kernel
theorem dL_isSet_54 : decode cL_isSet 54 = .ok (.aload 7, 2) := by decide +kernel
theorem dL_isSet_56 : decode cL_isSet 56 = .ok (.iconst 0, 1) := by decide +kernel
theorem dL_isSet_57 : decode cL_isSet 57 = .ok (.invokevirtual 23, 3) := by decide +kernel
theorem dL_isSet_60 : decode cL_isSet 60 = .ok (.ifCond .eq 22, 3) := by decide +kernel
theorem dL_isSet_63 : decode cL_isSet 63 = .ok (.aload 7, 2) := by decide +kernel
theorem dL_isSet_65 : decode cL_isSet 65 = .ok (.aload 7, 2) := by decide +kernel
theorem dL_isSet_67 : decode cL_isSet 67 = .ok (.invokevirtual 79, 3) := by decide +kernel
theorem dL_isSet_70 : decode cL_isSet 70 = .ok (.iconst 1, 1) := by decide +kernel
theorem dL_isSet_71 : decode cL_isSet 71 = .ok (.isub, 1) := by decide +kernel
theorem dL_isSet_72 : decode cL_isSet 72 = .ok (.invokevirtual 23, 3) := by decide +kernel
theorem dL_isSet_75 : decode cL_isSet 75 = .ok (.ifCond .eq 7, 3) := by decide +kernel
theorem dL_isSet_78 : decode cL_isSet 78 = .ok (.iconst 1, 1) := by decide +kernel
theorem dL_isSet_79 : decode cL_isSet 79 = .ok (.goto 4, 3) := by decide +kernel
theorem dL_isSet_82 : decode cL_isSet 82 = .ok (.iconst 0, 1) := by decide +kernel
theorem dL_isSet_83 : decode cL_isSet 83 = .ok (.istore 5, 2) := by decide +kernel
theorem dL_isSet_85 : decode cL_isSet 85 = .ok (.iconst 0, 1) := by decide +kernel
theorem dL_isSet_86 : decode cL_isSet 86 = .ok (.istore 8, 2) := by decide +kernel
theorem dL_isSet_88 : decode cL_isSet 88 = .ok (.iload 8, 2) := by decide +kernel
theorem dL_isSet_90 : decode cL_isSet 90 = .ok (.aload 7, 2) := by decide +kernel
theorem dL_isSet_92 : decode cL_isSet 92 = .ok (.invokevirtual 79, 3) := by decide +kernel
theorem dL_isSet_95 : decode cL_isSet 95 = .ok (.if_icmp .ge 67, 3) := by decide +kernel
theorem dL_isSet_98 : decode cL_isSet 98 = .ok (.new 56, 3) := by decide +kernel
theorem dL_isSet_101 : decode cL_isSet 101 = .ok (.dup, 1) := by decide +kernel
theorem dL_isSet_102 : decode cL_isSet 102 = .ok (.invokespecial 58, 3) := by decide +kernel
theorem dL_isSet_105 : decode cL_isSet 105 = .ok (.aload_n 3, 1) := by decide +kernel
theorem dL_isSet_106 : decode cL_isSet 106 = .ok (.invokevirtual 59, 3) := by decide +kernel
theorem dL_isSet_109 : decode cL_isSet 109 = .ok (.aload 7, 2) := by decide +kernel
theorem dL_isSet_111 : decode cL_isSet 111 = .ok (.iload 8, 2) := by decide +kernel
theorem dL_isSet_113 : decode cL_isSet 113 = .ok (.invokevirtual 23, 3) := by decide +kernel
theorem dL_isSet_116 : decode cL_isSet 116 = .ok (.ifCond .ne 8, 3) := by decide +kernel
theorem dL_isSet_119 : decode cL_isSet 119 = .ok (.ldc 54, 2) := by decide +kernel
theorem dL_isSet_121 : decode cL_isSet 121 = .ok (.goto 28, 3) := by decide +kernel
theorem dL_isSet_124 : decode cL_isSet 124 = .ok (.new 56, 3) := by decide +kernel
theorem dL_isSet_127 : decode cL_isSet 127 = .ok (.dup, 1) := by decide +kernel
theorem dL_isSet_128 : decode cL_isSet 128 = .ok (.invokespecial 58, 3) := by decide +kernel
theorem dL_isSet_131 : decode cL_isSet 131 = .ok (.ldc 54, 2) := by decide +kernel
theorem dL_isSet_133 : decode cL_isSet 133 = .ok (.invokevirtual 59, 3) := by decide +kernel
theorem dL_isSet_136 : decode cL_isSet 136 = .ok (.aload 7, 2) := by decide +kernel
theorem dL_isSet_138 : decode cL_isSet 138 = .ok (.iload 8, 2) := by decide +kernel
theorem dL_isSet_140 : decode cL_isSet 140 = .ok (.invokevirtual 23, 3) := by decide +kernel
theorem dL_isSet_143 : decode cL_isSet 143 = .ok (.invokevirtual 66, 3) := by decide +kernel
theorem dL_isSet_146 : decode cL_isSet 146 = .ok (.invokevirtual 69, 3) := by decide +kernel
theorem dL_isSet_149 : decode cL_isSet 149 = .ok (.invokevirtual 59, 3) := by decide +kernel
theorem dL_isSet_152 : decode cL_isSet 152 = .ok (.invokevirtual 69, 3) := by decide +kernel
theorem dL_isSet_155 : decode cL_isSet 155 = .ok (.astore_n 3, 1) := by decide +kernel
theorem dL_isSet_156 : decode cL_isSet 156 = .ok (.iinc 8 1, 3) := by decide +kernel
theorem dL_isSet_159 : decode cL_isSet 159 = .ok (.goto (-71), 3) := by decide +kernel
theorem dL_isSet_162 : decode cL_isSet 162 = .ok (.iinc 6 1, 3) := by decide +kernel
theorem dL_isSet_165 : decode cL_isSet 165 = .ok (.goto (-152), 3) := by decide +kernel
theorem dL_isSet_168 : decode cL_isSet 168 = .ok (.iconst 0, 1) := by decide +kernel
theorem dL_isSet_169 : decode cL_isSet 169 = .ok (.istore 6, 2) := by decide +kernel
theorem dL_isSet_171 : decode cL_isSet 171 = .ok (.iconst 0, 1) := by decide +kernel
theorem dL_isSet_172 : decode cL_isSet 172 = .ok (.istore 7, 2) := by decide +kernel
theorem dL_isSet_174 : decode cL_isSet 174 = .ok (.iload 7, 2) := by decide +kernel
theorem dL_isSet_176 : decode cL_isSet 176 = .ok (.aload_n 0, 1) := by decide +kernel
theorem dL_isSet_177 : decode cL_isSet 177 = .ok (.iload_n 1, 1) := by decide +kernel
theorem dL_isSet_178 : decode cL_isSet 178 = .ok (.invokevirtual 88, 3) := by decide +kernel
theorem dL_isSet_181 : decode cL_isSet 181 = .ok (.if_icmp .ge 69, 3) := by decide +kernel
theorem dL_isSet_184 : decode cL_isSet 184 = .ok (.iload 5, 2) := by decide +kernel
theorem dL_isSet_186 : decode cL_isSet 186 = .ok (.ifCond .eq 64, 3) := by decide +kernel
theorem dL_isSet_189 : decode cL_isSet 189 = .ok (.new 56, 3) := by decide +kernel
theorem dL_isSet_192 : decode cL_isSet 192 = .ok (.dup, 1) := by decide +kernel
theorem dL_isSet_193 : decode cL_isSet 193 = .ok (.invokespecial 58, 3) := by decide +kernel
theorem dL_isSet_196 : decode cL_isSet 196 = .ok (.aload 4, 2) := by decide +kernel
theorem dL_isSet_198 : decode cL_isSet 198 = .ok (.invokevirtual 59, 3) := by decide +kernel
theorem dL_isSet_201 : decode cL_isSet 201 = .ok (.aload_n 0, 1) := by decide +kernel
theorem dL_isSet_202 : decode cL_isSet 202 = .ok (.iload_n 1, 1) := by decide +kernel
theorem dL_isSet_203 : decode cL_isSet 203 = .ok (.iload 7, 2) := by decide +kernel
theorem dL_isSet_205 : decode cL_isSet 205 = .ok (.invokestatic 91, 3) := by decide +kernel
theorem dL_isSet_208 : decode cL_isSet 208 = .ok (.invokevirtual 59, 3) := by decide +kernel
theorem dL_isSet_211 : decode cL_isSet 211 = .ok (.invokevirtual 69, 3) := by decide +kernel
theorem dL_isSet_214 : decode cL_isSet 214 = .ok (.astore 4, 2) := by decide +kernel
theorem dL_isSet_216 : decode cL_isSet 216 = .ok (.aload_n 0, 1) := by decide +kernel
theorem dL_isSet_217 : decode cL_isSet 217 = .ok (.iload_n 1, 1) := by decide +kernel
theorem dL_isSet_218 : decode cL_isSet 218 = .ok (.iload 7, 2) := by decide +kernel
theorem dL_isSet_220 : decode cL_isSet 220 = .ok (.invokevirtual 94, 3) := by decide +kernel
theorem dL_isSet_223 : decode cL_isSet 223 = .ok (.iload 6, 2) := by decide +kernel
theorem dL_isSet_225 : decode cL_isSet 225 = .ok (.if_icmp .lt 7, 3) := by decide +kernel
theorem dL_isSet_228 : decode cL_isSet 228 = .ok (.iconst 1, 1) := by decide +kernel
theorem dL_isSet_229 : decode cL_isSet 229 = .ok (.goto 4, 3) := by decide +kernel
theorem dL_isSet_232 : decode cL_isSet 232 = .ok (.iconst 0, 1) := by decide +kernel
theorem dL_isSet_233 : decode cL_isSet 233 = .ok (.istore 5, 2) := by decide +kernel
theorem dL_isSet_235 : decode cL_isSet 235 = .ok (.aload_n 0, 1) := by decide +kernel
theorem dL_isSet_236 : decode cL_isSet 236 = .ok (.iload_n 1, 1) := by decide +kernel
theorem dL_isSet_237 : decode cL_isSet 237 = .ok (.iload 7, 2) := by decide +kernel
theorem dL_isSet_239 : decode cL_isSet 239 = .ok (.invokevirtual 94, 3) := by decide +kernel
theorem dL_isSet_242 : decode cL_isSet 242 = .ok (.istore 6, 2) := by decide +kernel
theorem dL_isSet_244 : decode cL_isSet 244 = .ok (.iinc 7 1, 3) := by decide +kernel
theorem dL_isSet_247 : decode cL_isSet 247 = .ok (.goto (-73), 3) := by decide +kernel
theorem dL_isSet_250 : decode cL_isSet 250 = .ok (.iload 5, 2) := by decide +kernel
theorem dL_isSet_252 : decode cL_isSet 252 = .ok (.ifCond .eq 16, 3) := by decide +kernel
theorem dL_isSet_255 : decode cL_isSet 255 = .ok (.aload_n 3, 1) := by decide +kernel
theorem dL_isSet_256 : decode cL_isSet 256 = .ok (.aload 4, 2) := by decide +kernel
theorem dL_isSet_258 : decode cL_isSet 258 = .ok (.invokestatic 97, 3) := by decide +kernel
theorem dL_isSet_261 : decode cL_isSet 261 = .ok (.ifCond .eq 7, 3) := by decide +kernel
theorem dL_isSet_264 : decode cL_isSet 264 = .ok (.iconst 1, 1) := by decide +kernel
theorem dL_isSet_265 : decode cL_isSet 265 = .ok (.goto 4, 3) := by decide +kernel
theorem dL_isSet_268 : decode cL_isSet 268 = .ok (.iconst 0, 1) := by decide +kernel
theorem dL_isSet_269 : decode cL_isSet 269 = .ok (.ireturn, 1) := by decide +kernel
theorem dL_acts_0 : decode cL_acts 0 = .ok (.iload_n 1, 1) := by decide +kernel
theorem dL_acts_1 : decode cL_acts 1 = .ok (.iconst 4, 1) := by decide +kernel
theorem dL_acts_2 : decode cL_acts 2 = .ok (.ishr, 1) := by decide +kernel
theorem dL_acts_3 : decode cL_acts 3 = .ok (.iconst 1, 1) := by decide +kernel
theorem dL_acts_4 : decode cL_acts 4 = .ok (.iload_n 2, 1) := by decide +kernel
theorem dL_acts_5 : decode cL_acts 5 = .ok (.invokestatic 110, 3) := by decide +kernel
theorem dL_acts_8 : decode cL_acts 8 = .ok (.invokestatic 15, 3) := by decide +kernel
theorem dL_acts_11 : decode cL_acts 11 = .ok (.istore 4, 2) := by decide +kernel
theorem dL_acts_13 : decode cL_acts 13 = .ok (.iload_n 1, 1) := by decide +kernel
theorem dL_acts_14 : decode cL_acts 14 = .ok (.bipush 14, 2) := by decide +kernel
theorem dL_acts_16 : decode cL_acts 16 = .ok (.invokestatic 15, 3) := by decide +kernel
theorem dL_acts_19 : decode cL_acts 19 = .ok (.tableswitch 304 0 11 #[61, 61, 125, 125, 170, 184, 210, 210, 258, 258, 258, 281], 61) := by decide +kernel
theorem dL_acts_80 : decode cL_acts 80 = .ok (.aload_n 0, 1) := by decide +kernel
theorem dL_acts_81 : decode cL_acts 81 = .ok (.iload_n 1, 1) := by decide +kernel
theorem dL_acts_82 : decode cL_acts 82 = .ok (.iconst 4, 1) := by decide +kernel
theorem dL_acts_83 : decode cL_acts 83 = .ok (.ishr, 1) := by decide +kernel
theorem dL_acts_84 : decode cL_acts 84 = .ok (.iconst 4, 1) := by decide +kernel
theorem dL_acts_85 : decode cL_acts 85 = .ok (.iconst 0, 1) := by decide +kernel
theorem dL_acts_86 : decode cL_acts 86 = .ok (.invokestatic 115, 3) := by decide +kernel
theorem dL_acts_89 : decode cL_acts 89 = .ok (.aload_n 0, 1) := by decide +kernel
theorem dL_acts_90 : decode cL_acts 90 = .ok (.iconst 1, 1) := by decide +kernel
theorem dL_acts_91 : decode cL_acts 91 = .ok (.iload_n 1, 1) := by decide +kernel
theorem dL_acts_92 : decode cL_acts 92 = .ok (.bipush 8, 2) := by decide +kernel
theorem dL_acts_94 : decode cL_acts 94 = .ok (.ishr, 1) := by decide +kernel
theorem dL_acts_95 : decode cL_acts 95 = .ok (.iconst 2, 1) := by decide +kernel
theorem dL_acts_96 : decode cL_acts 96 = .ok (.invokestatic 15, 3) := by decide +kernel
theorem dL_acts_99 : decode cL_acts 99 = .ok (.iadd, 1) := by decide +kernel
theorem dL_acts_100 : decode cL_acts 100 = .ok (.iconst 1, 1) := by decide +kernel
theorem dL_acts_101 : decode cL_acts 101 = .ok (.iload_n 1, 1) := by decide +kernel
theorem dL_acts_102 : decode cL_acts 102 = .ok (.bipush 9, 2) := by decide +kernel
theorem dL_acts_104 : decode cL_acts 104 = .ok (.ishr, 1) := by decide +kernel
theorem dL_acts_105 : decode cL_acts 105 = .ok (.bipush 63, 2) := by decide +kernel
theorem dL_acts_107 : decode cL_acts 107 = .ok (.invokestatic 15, 3) := by decide +kernel
theorem dL_acts_110 : decode cL_acts 110 = .ok (.iadd, 1) := by decide +kernel
theorem dL_acts_111 : decode cL_acts 111 = .ok (.iload_n 1, 1) := by decide +kernel
theorem dL_acts_112 : decode cL_acts 112 = .ok (.bipush 15, 2) := by decide +kernel
theorem dL_acts_114 : decode cL_acts 114 = .ok (.ishr, 1) := by decide +kernel
theorem dL_acts_115 : decode cL_acts 115 = .ok (.iconst 2, 1) := by decide +kernel
theorem dL_acts_116 : decode cL_acts 116 = .ok (.invokestatic 15, 3) := by decide +kernel
theorem dL_acts_119 : decode cL_acts 119 = .ok (.iconst 1, 1) := by decide +kernel
theorem dL_acts_120 : decode cL_acts 120 = .ok (.iload_n 1, 1) := by decide +kernel
theorem dL_acts_121 : decode cL_acts 121 = .ok (.bipush 16, 2) := by decide +kernel
theorem dL_acts_123 : decode cL_acts 123 = .ok (.ishr, 1) := by decide +kernel
theorem dL_acts_124 : decode cL_acts 124 = .ok (.bipush 63, 2) := by decide +kernel
theorem dL_acts_126 : decode cL_acts 126 = .ok (.invokestatic 15, 3) := by decide +kernel
theorem dL_acts_129 : decode cL_acts 129 = .ok (.iadd, 1) := by decide +kernel
theorem dL_acts_130 : decode cL_acts 130 = .ok (.imul, 1) := by decide +kernel
theorem dL_acts_131 : decode cL_acts 131 = .ok (.invokestatic 119, 3) := by decide +kernel
theorem dL_acts_134 : decode cL_acts 134 = .ok (.iconst (-1), 1) := by decide +kernel
theorem dL_acts_135 : decode cL_acts 135 = .ok (.if_icmp .lt 7, 3) := by decide +kernel
theorem dL_acts_138 : decode cL_acts 138 = .ok (.iconst 1, 1) := by decide +kernel
theorem dL_acts_139 : decode cL_acts 139 = .ok (.goto 4, 3) := by decide +kernel
theorem dL_acts_142 : decode cL_acts 142 = .ok (.iconst 0, 1) := by decide +kernel
theorem dL_acts_143 : decode cL_acts 143 = .ok (.ireturn, 1) := by decide +kernel
theorem dL_acts_144 : decode cL_acts 144 = .ok (.aload_n 0, 1) := by decide +kernel
theorem dL_acts_145 : decode cL_acts 145 = .ok (.iload_n 1, 1) := by decide +kernel
theorem dL_acts_146 : decode cL_acts 146 = .ok (.iconst 4, 1) := by decide +kernel
theorem dL_acts_147 : decode cL_acts 147 = .ok (.ishr, 1) := by decide +kernel
theorem dL_acts_148 : decode cL_acts 148 = .ok (.iconst 3, 1) := by decide +kernel
theorem dL_acts_149 : decode cL_acts 149 = .ok (.iconst 0, 1) := by decide +kernel
theorem dL_acts_150 : decode cL_acts 150 = .ok (.invokestatic 115, 3) := by decide +kernel
theorem dL_acts_153 : decode cL_acts 153 = .ok (.aload_n 0, 1) := by decide +kernel
theorem dL_acts_154 : decode cL_acts 154 = .ok (.iconst 1, 1) := by decide +kernel
theorem dL_acts_155 : decode cL_acts 155 = .ok (.iload_n 1, 1) := by decide +kernel
theorem dL_acts_156 : decode cL_acts 156 = .ok (.bipush 8, 2) := by decide +kernel
theorem dL_acts_158 : decode cL_acts 158 = .ok (.ishr, 1) := by decide +kernel
theorem dL_acts_159 : decode cL_acts 159 = .ok (.iconst 2, 1) := by decide +kernel
theorem dL_acts_160 : decode cL_acts 160 = .ok (.invokestatic 15, 3) := by decide +kernel
theorem dL_acts_163 : decode cL_acts 163 = .ok (.iadd, 1) := by decide +kernel
theorem dL_acts_164 : decode cL_acts 164 = .ok (.iconst 1, 1) := by decide +kernel
theorem dL_acts_165 : decode cL_acts 165 = .ok (.iload_n 1, 1) := by decide +kernel
theorem dL_acts_166 : decode cL_acts 166 = .ok (.bipush 9, 2) := by decide +kernel
theorem dL_acts_168 : decode cL_acts 168 = .ok (.ishr, 1) := by decide +kernel
theorem dL_acts_169 : decode cL_acts 169 = .ok (.bipush 63, 2) := by decide +kernel
theorem dL_acts_171 : decode cL_acts 171 = .ok (.invokestatic 15, 3) := by decide +kernel
theorem dL_acts_174 : decode cL_acts 174 = .ok (.iadd, 1) := by decide +kernel
theorem dL_acts_175 : decode cL_acts 175 = .ok (.iconst 0, 1) := by decide +kernel
theorem dL_acts_176 : decode cL_acts 176 = .ok (.invokestatic 123, 3) := by decide +kernel
theorem dL_acts_179 : decode cL_acts 179 = .ok (.iconst (-1), 1) := by decide +kernel
theorem dL_acts_180 : decode cL_acts 180 = .ok (.if_icmp .lt 7, 3) := by decide +kernel
theorem dL_acts_183 : decode cL_acts 183 = .ok (.iconst 1, 1) := by decide +kernel
theorem dL_acts_184 : decode cL_acts 184 = .ok (.goto 4, 3) := by decide +kernel
theorem dL_acts_187 : decode cL_acts 187 = .ok (.iconst 0, 1) := by decide +kernel
theorem dL_acts_188 : decode cL_acts 188 = .ok (.ireturn, 1) := by decide +kernel
theorem dL_acts_189 : decode cL_acts 189 = .ok (.aload_n 0, 1) := by decide +kernel
theorem dL_acts_190 : decode cL_acts 190 = .ok (.iload_n 1, 1) := by decide +kernel
theorem dL_acts_191 : decode cL_acts 191 = .ok (.iconst 4, 1) := by decide +kernel
theorem dL_acts_192 : decode cL_acts 192 = .ok (.ishr, 1) := by decide +kernel
theorem dL_acts_193 : decode cL_acts 193 = .ok (.iconst 4, 1) := by decide +kernel
theorem dL_acts_194 : decode cL_acts 194 = .ok (.iconst 0, 1) := by decide +kernel
theorem dL_acts_195 : decode cL_acts 195 = .ok (.invokestatic 115, 3) := by decide +kernel
theorem dL_acts_198 : decode cL_acts 198 = .ok (.aload_n 0, 1) := by decide +kernel
theorem dL_acts_199 : decode cL_acts 199 = .ok (.invokestatic 125, 3) := by decide +kernel
theorem dL_acts_202 : decode cL_acts 202 = .ok (.ireturn, 1) := by decide +kernel
theorem dL_acts_203 : decode cL_acts 203 = .ok (.aload_n 0, 1) := by decide +kernel
theorem dL_acts_204 : decode cL_acts 204 = .ok (.bipush 8, 2) := by decide +kernel
theorem dL_acts_206 : decode cL_acts 206 = .ok (.iload_n 1, 1) := by decide +kernel
theorem dL_acts_207 : decode cL_acts 207 = .ok (.iconst 4, 1) := by decide +kernel
theorem dL_acts_208 : decode cL_acts 208 = .ok (.ishr, 1) := by decide +kernel
theorem dL_acts_209 : decode cL_acts 209 = .ok (.bipush 33, 2) := by decide +kernel
theorem dL_acts_211 : decode cL_acts 211 = .ok (.invokestatic 15, 3) := by decide +kernel
theorem dL_acts_214 : decode cL_acts 214 = .ok (.iadd, 1) := by decide +kernel
theorem dL_acts_215 : decode cL_acts 215 = .ok (.invokevirtual 129, 3) := by decide +kernel
theorem dL_acts_218 : decode cL_acts 218 = .ok (.bipush 8, 2) := by decide +kernel
theorem dL_acts_220 : decode cL_acts 220 = .ok (.if_icmp .lt 7, 3) := by decide +kernel
theorem dL_acts_223 : decode cL_acts 223 = .ok (.iconst 1, 1) := by decide +kernel
theorem dL_acts_224 : decode cL_acts 224 = .ok (.goto 4, 3) := by decide +kernel
theorem dL_acts_227 : decode cL_acts 227 = .ok (.iconst 0, 1) := by decide +kernel
theorem dL_acts_228 : decode cL_acts 228 = .ok (.ireturn, 1) := by decide +kernel
theorem dL_acts_229 : decode cL_acts 229 = .ok (.iload_n 2, 1) := by decide +kernel
theorem dL_acts_230 : decode cL_acts 230 = .ok (.ifCond .ne 5, 3) := by decide +kernel
theorem dL_acts_233 : decode cL_acts 233 = .ok (.iconst 1, 1) := by decide +kernel
theorem dL_acts_234 : decode cL_acts 234 = .ok (.ireturn, 1) := by decide +kernel
theorem dL_acts_235 : decode cL_acts 235 = .ok (.aload_n 0, 1) := by decide +kernel
theorem dL_acts_236 : decode cL_acts 236 = .ok (.iload_n 1, 1) := by decide +kernel
theorem dL_acts_237 : decode cL_acts 237 = .ok (.bipush 7, 2) := by decide +kernel
theorem dL_acts_239 : decode cL_acts 239 = .ok (.ishr, 1) := by decide +kernel
theorem dL_acts_240 : decode cL_acts 240 = .ok (.bipush 40, 2) := by decide +kernel
theorem dL_acts_242 : decode cL_acts 242 = .ok (.iconst 1, 1) := by decide +kernel
theorem dL_acts_243 : decode cL_acts 243 = .ok (.invokestatic 115, 3) := by decide +kernel
theorem dL_acts_246 : decode cL_acts 246 = .ok (.aload_n 0, 1) := by decide +kernel
theorem dL_acts_247 : decode cL_acts 247 = .ok (.iload 4, 2) := by decide +kernel
theorem dL_acts_249 : decode cL_acts 249 = .ok (.iconst 1, 1) := by decide +kernel
theorem dL_acts_250 : decode cL_acts 250 = .ok (.iload_n 1, 1) := by decide +kernel
theorem dL_acts_251 : decode cL_acts 251 = .ok (.bipush 12, 2) := by decide +kernel
theorem dL_acts_253 : decode cL_acts 253 = .ok (.ishr, 1) := by decide +kernel
theorem dL_acts_254 : decode cL_acts 254 = .ok (.iconst 2, 1) := by decide +kernel
theorem dL_acts_255 : decode cL_acts 255 = .ok (.invokestatic 15, 3) := by decide +kernel
theorem dL_acts_258 : decode cL_acts 258 = .ok (.iadd, 1) := by decide +kernel
theorem dL_acts_259 : decode cL_acts 259 = .ok (.invokevirtual 132, 3) := by decide +kernel
theorem dL_acts_262 : decode cL_acts 262 = .ok (.aload_n 0, 1) := by decide +kernel
theorem dL_acts_263 : decode cL_acts 263 = .ok (.iload 4, 2) := by decide +kernel
theorem dL_acts_265 : decode cL_acts 265 = .ok (.invokevirtual 88, 3) := by decide +kernel
theorem dL_acts_268 : decode cL_acts 268 = .ok (.if_icmp .ne 7, 3) := by decide +kernel
theorem dL_acts_271 : decode cL_acts 271 = .ok (.iconst 1, 1) := by decide +kernel
theorem dL_acts_272 : decode cL_acts 272 = .ok (.goto 4, 3) := by decide +kernel
theorem dL_acts_275 : decode cL_acts 275 = .ok (.iconst 0, 1) := by decide +kernel
theorem dL_acts_276 : decode cL_acts 276 = .ok (.ireturn, 1) := by decide +kernel
theorem dL_acts_277 : decode cL_acts 277 = .ok (.iload_n 2, 1) := by decide +kernel
theorem dL_acts_278 : decode cL_acts 278 = .ok (.ifCond .eq 16, 3) := by decide +kernel
theorem dL_acts_281 : decode cL_acts 281 = .ok (.aload_n 0, 1) := by decide +kernel
theorem dL_acts_282 : decode cL_acts 282 = .ok (.iload 4, 2) := by decide +kernel
theorem dL_acts_284 : decode cL_acts 284 = .ok (.aload_n 3, 1) := by decide +kernel
theorem dL_acts_285 : decode cL_acts 285 = .ok (.iload 4, 2) := by decide +kernel
theorem dL_acts_287 : decode cL_acts 287 = .ok (.aaload, 1) := by decide +kernel
theorem dL_acts_288 : decode cL_acts 288 = .ok (.invokestatic 135, 3) := by decide +kernel
theorem dL_acts_291 : decode cL_acts 291 = .ok (.ifCond .eq 7, 3) := by decide +kernel
theorem dL_acts_294 : decode cL_acts 294 = .ok (.iconst 1, 1) := by decide +kernel
theorem dL_acts_295 : decode cL_acts 295 = .ok (.goto 4, 3) := by decide +kernel
theorem dL_acts_298 : decode cL_acts 298 = .ok (.iconst 0, 1) := by decide +kernel
theorem dL_acts_299 : decode cL_acts 299 = .ok (.ireturn, 1) := by decide +kernel
theorem dL_acts_300 : decode cL_acts 300 = .ok (.aload_n 0, 1) := by decide +kernel
theorem dL_acts_301 : decode cL_acts 301 = .ok (.iconst 1, 1) := by decide +kernel
theorem dL_acts_302 : decode cL_acts 302 = .ok (.iload_n 1, 1) := by decide +kernel
theorem dL_acts_303 : decode cL_acts 303 = .ok (.iconst 4, 1) := by decide +kernel
theorem dL_acts_304 : decode cL_acts 304 = .ok (.ishr, 1) := by decide +kernel
theorem dL_acts_305 : decode cL_acts 305 = .ok (.bipush 6, 2) := by decide +kernel
theorem dL_acts_307 : decode cL_acts 307 = .ok (.invokestatic 15, 3) := by decide +kernel
theorem dL_acts_310 : decode cL_acts 310 = .ok (.iadd, 1) := by decide +kernel
theorem dL_acts_311 : decode cL_acts 311 = .ok (.invokevirtual 139, 3) := by decide +kernel
theorem dL_acts_314 : decode cL_acts 314 = .ok (.ifCond .lt 7, 3) := by decide +kernel
theorem dL_acts_317 : decode cL_acts 317 = .ok (.iconst 1, 1) := by decide +kernel
theorem dL_acts_318 : decode cL_acts 318 = .ok (.goto 4, 3) := by decide +kernel
theorem dL_acts_321 : decode cL_acts 321 = .ok (.iconst 0, 1) := by decide +kernel
theorem dL_acts_322 : decode cL_acts 322 = .ok (.ireturn, 1) := by decide +kernel
theorem dL_acts_323 : decode cL_acts 323 = .ok (.iload_n 2, 1) := by decide +kernel
theorem dL_acts_324 : decode cL_acts 324 = .ok (.ifCond .eq 12, 3) := by decide +kernel
theorem dL_acts_327 : decode cL_acts 327 = .ok (.aload_n 0, 1) := by decide +kernel
theorem dL_acts_328 : decode cL_acts 328 = .ok (.iload 4, 2) := by decide +kernel
theorem dL_acts_330 : decode cL_acts 330 = .ok (.invokevirtual 88, 3) := by decide +kernel
theorem dL_acts_333 : decode cL_acts 333 = .ok (.ifCond .ne 5, 3) := by decide +kernel
theorem dL_acts_336 : decode cL_acts 336 = .ok (.iconst 1, 1) := by decide +kernel
theorem dL_acts_337 : decode cL_acts 337 = .ok (.ireturn, 1) := by decide +kernel
theorem dL_acts_338 : decode cL_acts 338 = .ok (.iload_n 1, 1) := by decide +kernel
theorem dL_acts_339 : decode cL_acts 339 = .ok (.bipush 7, 2) := by decide +kernel
theorem dL_acts_341 : decode cL_acts 341 = .ok (.ishr, 1) := by decide +kernel
theorem dL_acts_342 : decode cL_acts 342 = .ok (.aload_n 0, 1) := by decide +kernel
theorem dL_acts_343 : decode cL_acts 343 = .ok (.iload 4, 2) := by decide +kernel
theorem dL_acts_345 : decode cL_acts 345 = .ok (.invokevirtual 88, 3) := by decide +kernel
theorem dL_acts_348 : decode cL_acts 348 = .ok (.invokestatic 15, 3) := by decide +kernel
theorem dL_acts_351 : decode cL_acts 351 = .ok (.istore 5, 2) := by decide +kernel
theorem dL_acts_353 : decode cL_acts 353 = .ok (.iload_n 1, 1) := by decide +kernel
theorem dL_acts_354 : decode cL_acts 354 = .ok (.bipush 12, 2) := by decide +kernel
theorem dL_acts_356 : decode cL_acts 356 = .ok (.ishr, 1) := by decide +kernel
theorem dL_acts_357 : decode cL_acts 357 = .ok (.iconst 2, 1) := by decide +kernel
theorem dL_acts_358 : decode cL_acts 358 = .ok (.invokestatic 15, 3) := by decide +kernel
theorem dL_acts_361 : decode cL_acts 361 = .ok (.istore 6, 2) := by decide +kernel
theorem dL_acts_363 : decode cL_acts 363 = .ok (.iload_n 1, 1) := by decide +kernel
theorem dL_acts_364 : decode cL_acts 364 = .ok (.bipush 13, 2) := by decide +kernel
theorem dL_acts_366 : decode cL_acts 366 = .ok (.ishr, 1) := by decide +kernel
theorem dL_acts_367 : decode cL_acts 367 = .ok (.iconst 3, 1) := by decide +kernel
theorem dL_acts_368 : decode cL_acts 368 = .ok (.invokestatic 15, 3) := by decide +kernel
theorem dL_acts_371 : decode cL_acts 371 = .ok (.ifCond .le 7, 3) := by decide +kernel
theorem dL_acts_374 : decode cL_acts 374 = .ok (.iconst 1, 1) := by decide +kernel
theorem dL_acts_375 : decode cL_acts 375 = .ok (.goto 4, 3) := by decide +kernel
theorem dL_acts_378 : decode cL_acts 378 = .ok (.iconst 0, 1) := by decide +kernel
theorem dL_acts_379 : decode cL_acts 379 = .ok (.istore 7, 2) := by decide +kernel
theorem dL_acts_381 : decode cL_acts 381 = .ok (.aload_n 0, 1) := by decide +kernel
theorem dL_acts_382 : decode cL_acts 382 = .ok (.iconst 1, 1) := by decide +kernel
theorem dL_acts_383 : decode cL_acts 383 = .ok (.iload 6, 2) := by decide +kernel
theorem dL_acts_385 : decode cL_acts 385 = .ok (.isub, 1) := by decide +kernel
theorem dL_acts_386 : decode cL_acts 386 = .ok (.iload 4, 2) := by decide +kernel
theorem dL_acts_388 : decode cL_acts 388 = .ok (.iload 5, 2) := by decide +kernel
theorem dL_acts_390 : decode cL_acts 390 = .ok (.invokevirtual 142, 3) := by decide +kernel
theorem dL_acts_393 : decode cL_acts 393 = .ok (.istore 8, 2) := by decide +kernel
theorem dL_acts_395 : decode cL_acts 395 = .ok (.aload_n 0, 1) := by decide +kernel
theorem dL_acts_396 : decode cL_acts 396 = .ok (.iload 6, 2) := by decide +kernel
theorem dL_acts_398 : decode cL_acts 398 = .ok (.iload 4, 2) := by decide +kernel
theorem dL_acts_400 : decode cL_acts 400 = .ok (.iload 5, 2) := by decide +kernel
theorem dL_acts_402 : decode cL_acts 402 = .ok (.iload 7, 2) := by decide +kernel
theorem dL_acts_404 : decode cL_acts 404 = .ok (.invokevirtual 146, 3) := by decide +kernel
theorem dL_acts_407 : decode cL_acts 407 = .ok (.iload 8, 2) := by decide +kernel
theorem dL_acts_409 : decode cL_acts 409 = .ok (.iload 7, 2) := by decide +kernel
theorem dL_acts_411 : decode cL_acts 411 = .ok (.ifCond .eq 8, 3) := by decide +kernel
theorem dL_acts_414 : decode cL_acts 414 = .ok (.bipush 114, 2) := by decide +kernel
theorem dL_acts_416 : decode cL_acts 416 = .ok (.goto 5, 3) := by decide +kernel
theorem dL_acts_419 : decode cL_acts 419 = .ok (.bipush 119, 2) := by decide +kernel
theorem dL_acts_421 : decode cL_acts 421 = .ok (.if_icmp .ne 7, 3) := by decide +kernel
theorem dL_acts_424 : decode cL_acts 424 = .ok (.iconst 1, 1) := by decide +kernel
theorem dL_acts_425 : decode cL_acts 425 = .ok (.goto 4, 3) := by decide +kernel
theorem dL_acts_428 : decode cL_acts 428 = .ok (.iconst 0, 1) := by decide +kernel
theorem dL_acts_429 : decode cL_acts 429 = .ok (.if_icmp .ne 32, 3) := by decide +kernel
theorem dL_acts_432 : decode cL_acts 432 = .ok (.aload_n 0, 1) := by decide +kernel
theorem dL_acts_433 : decode cL_acts 433 = .ok (.iload 6, 2) := by decide +kernel
theorem dL_acts_435 : decode cL_acts 435 = .ok (.iload 4, 2) := by decide +kernel
theorem dL_acts_437 : decode cL_acts 437 = .ok (.iload 5, 2) := by decide +kernel
theorem dL_acts_439 : decode cL_acts 439 = .ok (.invokevirtual 142, 3) := by decide +kernel
theorem dL_acts_442 : decode cL_acts 442 = .ok (.iload 7, 2) := by decide +kernel
theorem dL_acts_444 : decode cL_acts 444 = .ok (.ifCond .eq 8, 3) := by decide +kernel
theorem dL_acts_447 : decode cL_acts 447 = .ok (.bipush 114, 2) := by decide +kernel
theorem dL_acts_449 : decode cL_acts 449 = .ok (.goto 5, 3) := by decide +kernel
theorem dL_acts_452 : decode cL_acts 452 = .ok (.bipush 119, 2) := by decide +kernel
theorem dL_acts_454 : decode cL_acts 454 = .ok (.if_icmp .ne 7, 3) := by decide +kernel
theorem dL_acts_457 : decode cL_acts 457 = .ok (.iconst 1, 1) := by decide +kernel
theorem dL_acts_458 : decode cL_acts 458 = .ok (.goto 4, 3) := by decide +kernel
theorem dL_acts_461 : decode cL_acts 461 = .ok (.iconst 0, 1) := by decide +kernel
theorem dL_acts_462 : decode cL_acts 462 = .ok (.ireturn, 1) := by decide +kernel
theorem dL_law_0 : decode cL_law 0 = .ok (.new 10, 3) := by decide +kernel
theorem dL_law_3 : decode cL_law 3 = .ok (.dup, 1) := by decide +kernel
theorem dL_law_4 : decode cL_law 4 = .ok (.invokespecial 150, 3) := by decide +kernel
theorem dL_law_7 : decode cL_law 7 = .ok (.astore_n 1, 1) := by decide +kernel
theorem dL_law_8 : decode cL_law 8 = .ok (.bipush 6, 2) := by decide +kernel
theorem dL_law_10 : decode cL_law 10 = .ok (.bipush 100, 2) := by decide +kernel
theorem dL_law_12 : decode cL_law 12 = .ok (.multianewarray 151 2, 4) := by decide +kernel
theorem dL_law_16 : decode cL_law 16 = .ok (.astore_n 2, 1) := by decide +kernel
theorem dL_law_17 : decode cL_law 17 = .ok (.iconst 0, 1) := by decide +kernel
theorem dL_law_18 : decode cL_law 18 = .ok (.istore_n 3, 1) := by decide +kernel
theorem dL_law_19 : decode cL_law 19 = .ok (.iconst 1, 1) := by decide +kernel
theorem dL_law_20 : decode cL_law 20 = .ok (.istore 4, 2) := by decide +kernel
theorem dL_law_22 : decode cL_law 22 = .ok (.aload_n 1, 1) := by decide +kernel
theorem dL_law_23 : decode cL_law 23 = .ok (.aload_n 0, 1) := by decide +kernel
theorem dL_law_24 : decode cL_law 24 = .ok (.iconst 0, 1) := by decide +kernel
theorem dL_law_25 : decode cL_law 25 = .ok (.invokestatic 153, 3) := by decide +kernel
theorem dL_law_28 : decode cL_law 28 = .ok (.iconst 3, 1) := by decide +kernel
theorem dL_law_29 : decode cL_law 29 = .ok (.invokestatic 15, 3) := by decide +kernel
theorem dL_law_32 : decode cL_law 32 = .ok (.ifCond .ne 22, 3) := by decide +kernel
theorem dL_law_35 : decode cL_law 35 = .ok (.bipush 10, 2) := by decide +kernel
theorem dL_law_37 : decode cL_law 37 = .ok (.aload_n 0, 1) := by decide +kernel
theorem dL_law_38 : decode cL_law 38 = .ok (.iconst 0, 1) := by decide +kernel
theorem dL_law_39 : decode cL_law 39 = .ok (.invokestatic 153, 3) := by decide +kernel
theorem dL_law_42 : decode cL_law 42 = .ok (.iconst 2, 1) := by decide +kernel
theorem dL_law_43 : decode cL_law 43 = .ok (.ishr, 1) := by decide +kernel
theorem dL_law_44 : decode cL_law 44 = .ok (.sipush 200, 3) := by decide +kernel
theorem dL_law_47 : decode cL_law 47 = .ok (.invokestatic 15, 3) := by decide +kernel
theorem dL_law_50 : decode cL_law 50 = .ok (.iadd, 1) := by decide +kernel
theorem dL_law_51 : decode cL_law 51 = .ok (.goto 6, 3) := by decide +kernel
theorem dL_law_54 : decode cL_law 54 = .ok (.sipush 9999, 3) := by decide +kernel
theorem dL_law_57 : decode cL_law 57 = .ok (.invokevirtual 157, 3) := by decide +kernel
theorem dL_law_60 : decode cL_law 60 = .ok (.istore 5, 2) := by decide +kernel
theorem dL_law_62 : decode cL_law 62 = .ok (.iconst 0, 1) := by decide +kernel
theorem dL_law_63 : decode cL_law 63 = .ok (.istore 6, 2) := by decide +kernel
theorem dL_law_65 : decode cL_law 65 = .ok (.iload 6, 2) := by decide +kernel
theorem dL_law_67 : decode cL_law 67 = .ok (.bipush 40, 2) := by decide +kernel
theorem dL_law_69 : decode cL_law 69 = .ok (.if_icmp .ge 407, 3) := by decide +kernel
theorem dL_law_72 : decode cL_law 72 = .ok (.iload 4, 2) := by decide +kernel
theorem dL_law_74 : decode cL_law 74 = .ok (.ifCond .eq 402, 3) := by decide +kernel
theorem dL_law_77 : decode cL_law 77 = .ok (.aload_n 0, 1) := by decide +kernel
theorem dL_law_78 : decode cL_law 78 = .ok (.iconst 1, 1) := by decide +kernel
theorem dL_law_79 : decode cL_law 79 = .ok (.iload 6, 2) := by decide +kernel
theorem dL_law_81 : decode cL_law 81 = .ok (.iadd, 1) := by decide +kernel
theorem dL_law_82 : decode cL_law 82 = .ok (.invokestatic 153, 3) := by decide +kernel
theorem dL_law_85 : decode cL_law 85 = .ok (.istore 7, 2) := by decide +kernel
theorem dL_law_87 : decode cL_law 87 = .ok (.iload_n 3, 1) := by decide +kernel
theorem dL_law_88 : decode cL_law 88 = .ok (.bipush 6, 2) := by decide +kernel
theorem dL_law_90 : decode cL_law 90 = .ok (.if_icmp .ge 64, 3) := by decide +kernel
theorem dL_law_93 : decode cL_law 93 = .ok (.iload 7, 2) := by decide +kernel
theorem dL_law_95 : decode cL_law 95 = .ok (.bipush 18, 2) := by decide +kernel
theorem dL_law_97 : decode cL_law 97 = .ok (.ishr, 1) := by decide +kernel
theorem dL_law_98 : decode cL_law 98 = .ok (.bipush 6, 2) := by decide +kernel
theorem dL_law_100 : decode cL_law 100 = .ok (.invokestatic 15, 3) := by decide +kernel
theorem dL_law_103 : decode cL_law 103 = .ok (.ifCond .ne 51, 3) := by decide +kernel
theorem dL_law_106 : decode cL_law 106 = .ok (.aload_n 1, 1) := by decide +kernel
theorem dL_law_107 : decode cL_law 107 = .ok (.iload 7, 2) := by decide +kernel
theorem dL_law_109 : decode cL_law 109 = .ok (.iconst 3, 1) := by decide +kernel
theorem dL_law_110 : decode cL_law 110 = .ok (.ishr, 1) := by decide +kernel
theorem dL_law_111 : decode cL_law 111 = .ok (.bipush 60, 2) := by decide +kernel
theorem dL_law_113 : decode cL_law 113 = .ok (.iconst 1, 1) := by decide +kernel
theorem dL_law_114 : decode cL_law 114 = .ok (.invokestatic 115, 3) := by decide +kernel
theorem dL_law_117 : decode cL_law 117 = .ok (.aload_n 1, 1) := by decide +kernel
theorem dL_law_118 : decode cL_law 118 = .ok (.iload_n 3, 1) := by decide +kernel
theorem dL_law_119 : decode cL_law 119 = .ok (.iconst 1, 1) := by decide +kernel
theorem dL_law_120 : decode cL_law 120 = .ok (.iload 7, 2) := by decide +kernel
theorem dL_law_122 : decode cL_law 122 = .ok (.bipush 9, 2) := by decide +kernel
theorem dL_law_124 : decode cL_law 124 = .ok (.ishr, 1) := by decide +kernel
theorem dL_law_125 : decode cL_law 125 = .ok (.iconst 2, 1) := by decide +kernel
theorem dL_law_126 : decode cL_law 126 = .ok (.invokestatic 15, 3) := by decide +kernel
theorem dL_law_129 : decode cL_law 129 = .ok (.iadd, 1) := by decide +kernel
theorem dL_law_130 : decode cL_law 130 = .ok (.invokevirtual 132, 3) := by decide +kernel
theorem dL_law_133 : decode cL_law 133 = .ok (.aload_n 1, 1) := by decide +kernel
theorem dL_law_134 : decode cL_law 134 = .ok (.iload_n 3, 1) := by decide +kernel
theorem dL_law_135 : decode cL_law 135 = .ok (.invokevirtual 88, 3) := by decide +kernel
theorem dL_law_138 : decode cL_law 138 = .ok (.if_icmp .ne 7, 3) := by decide +kernel
theorem dL_law_141 : decode cL_law 141 = .ok (.iconst 1, 1) := by decide +kernel
theorem dL_law_142 : decode cL_law 142 = .ok (.goto 4, 3) := by decide +kernel
theorem dL_law_145 : decode cL_law 145 = .ok (.iconst 0, 1) := by decide +kernel
theorem dL_law_146 : decode cL_law 146 = .ok (.istore 4, 2) := by decide +kernel
theorem dL_law_148 : decode cL_law 148 = .ok (.iinc 3 1, 3) := by decide +kernel
theorem dL_law_151 : decode cL_law 151 = .ok (.goto 319, 3) := by decide +kernel
theorem dL_law_154 : decode cL_law 154 = .ok (.iload_n 3, 1) := by decide +kernel
theorem dL_law_155 : decode cL_law 155 = .ok (.bipush 40, 2) := by decide +kernel
theorem dL_law_157 : decode cL_law 157 = .ok (.imul, 1) := by decide +kernel
theorem dL_law_158 : decode cL_law 158 = .ok (.anewarray 24, 3) := by decide +kernel
theorem dL_law_161 : decode cL_law 161 = .ok (.astore 8, 2) := by decide +kernel
theorem dL_law_163 : decode cL_law 163 = .ok (.iload_n 3, 1) := by decide +kernel
theorem dL_law_164 : decode cL_law 164 = .ok (.bipush 80, 2) := by decide +kernel
theorem dL_law_166 : decode cL_law 166 = .ok (.imul, 1) := by decide +kernel
theorem dL_law_167 : decode cL_law 167 = .ok (.newarray .char, 2) := by decide +kernel
theorem dL_law_169 : decode cL_law 169 = .ok (.astore 9, 2) := by decide +kernel
theorem dL_law_171 : decode cL_law 171 = .ok (.bipush 6, 2) := by decide +kernel
theorem dL_law_173 : decode cL_law 173 = .ok (.newarray .int, 2) := by decide +kernel
theorem dL_law_175 : decode cL_law 175 = .ok (.astore 10, 2) := by decide +kernel
theorem dL_law_177 : decode cL_law 177 = .ok (.iconst 0, 1) := by decide +kernel
theorem dL_law_178 : decode cL_law 178 = .ok (.istore 11, 2) := by decide +kernel
theorem dL_law_180 : decode cL_law 180 = .ok (.iload 11, 2) := by decide +kernel
theorem dL_law_182 : decode cL_law 182 = .ok (.iload_n 3, 1) := by decide +kernel
theorem dL_law_183 : decode cL_law 183 = .ok (.if_icmp .ge 104, 3) := by decide +kernel
theorem dL_law_186 : decode cL_law 186 = .ok (.aload 10, 2) := by decide +kernel
theorem dL_law_188 : decode cL_law 188 = .ok (.iload 11, 2) := by decide +kernel
theorem dL_law_190 : decode cL_law 190 = .ok (.aload_n 1, 1) := by decide +kernel
theorem dL_law_191 : decode cL_law 191 = .ok (.iload 11, 2) := by decide +kernel
theorem dL_law_193 : decode cL_law 193 = .ok (.invokevirtual 88, 3) := by decide +kernel
theorem dL_law_196 : decode cL_law 196 = .ok (.iastore, 1) := by decide +kernel
theorem dL_law_197 : decode cL_law 197 = .ok (.iconst 0, 1) := by decide +kernel
theorem dL_law_198 : decode cL_law 198 = .ok (.istore 12, 2) := by decide +kernel
theorem dL_law_200 : decode cL_law 200 = .ok (.iload 12, 2) := by decide +kernel
theorem dL_law_202 : decode cL_law 202 = .ok (.aload 10, 2) := by decide +kernel
theorem dL_law_204 : decode cL_law 204 = .ok (.iload 11, 2) := by decide +kernel
theorem dL_law_206 : decode cL_law 206 = .ok (.iaload, 1) := by decide +kernel
theorem dL_law_207 : decode cL_law 207 = .ok (.if_icmp .ge 74, 3) := by decide +kernel
theorem dL_law_210 : decode cL_law 210 = .ok (.aload 8, 2) := by decide +kernel
theorem dL_law_212 : decode cL_law 212 = .ok (.bipush 40, 2) := by decide +kernel
theorem dL_law_214 : decode cL_law 214 = .ok (.iload 11, 2) := by decide +kernel
theorem dL_law_216 : decode cL_law 216 = .ok (.imul, 1) := by decide +kernel
theorem dL_law_217 : decode cL_law 217 = .ok (.iload 12, 2) := by decide +kernel
theorem dL_law_219 : decode cL_law 219 = .ok (.iadd, 1) := by decide +kernel
theorem dL_law_220 : decode cL_law 220 = .ok (.aload_n 1, 1) := by decide +kernel
theorem dL_law_221 : decode cL_law 221 = .ok (.iload 11, 2) := by decide +kernel
theorem dL_law_223 : decode cL_law 223 = .ok (.iload 12, 2) := by decide +kernel
theorem dL_law_225 : decode cL_law 225 = .ok (.invokestatic 91, 3) := by decide +kernel
theorem dL_law_228 : decode cL_law 228 = .ok (.aastore, 1) := by decide +kernel
theorem dL_law_229 : decode cL_law 229 = .ok (.aload 9, 2) := by decide +kernel
theorem dL_law_231 : decode cL_law 231 = .ok (.bipush 80, 2) := by decide +kernel
theorem dL_law_233 : decode cL_law 233 = .ok (.iload 11, 2) := by decide +kernel
theorem dL_law_235 : decode cL_law 235 = .ok (.imul, 1) := by decide +kernel
theorem dL_law_236 : decode cL_law 236 = .ok (.iconst 2, 1) := by decide +kernel
theorem dL_law_237 : decode cL_law 237 = .ok (.iload 12, 2) := by decide +kernel
theorem dL_law_239 : decode cL_law 239 = .ok (.imul, 1) := by decide +kernel
theorem dL_law_240 : decode cL_law 240 = .ok (.iadd, 1) := by decide +kernel
theorem dL_law_241 : decode cL_law 241 = .ok (.aload_n 1, 1) := by decide +kernel
theorem dL_law_242 : decode cL_law 242 = .ok (.iconst 0, 1) := by decide +kernel
theorem dL_law_243 : decode cL_law 243 = .ok (.iload 11, 2) := by decide +kernel
theorem dL_law_245 : decode cL_law 245 = .ok (.iload 12, 2) := by decide +kernel
theorem dL_law_247 : decode cL_law 247 = .ok (.invokevirtual 142, 3) := by decide +kernel
theorem dL_law_250 : decode cL_law 250 = .ok (.castore, 1) := by decide +kernel
theorem dL_law_251 : decode cL_law 251 = .ok (.aload 9, 2) := by decide +kernel
theorem dL_law_253 : decode cL_law 253 = .ok (.bipush 80, 2) := by decide +kernel
theorem dL_law_255 : decode cL_law 255 = .ok (.iload 11, 2) := by decide +kernel
theorem dL_law_257 : decode cL_law 257 = .ok (.imul, 1) := by decide +kernel
theorem dL_law_258 : decode cL_law 258 = .ok (.iconst 2, 1) := by decide +kernel
theorem dL_law_259 : decode cL_law 259 = .ok (.iload 12, 2) := by decide +kernel
theorem dL_law_261 : decode cL_law 261 = .ok (.imul, 1) := by decide +kernel
theorem dL_law_262 : decode cL_law 262 = .ok (.iadd, 1) := by decide +kernel
theorem dL_law_263 : decode cL_law 263 = .ok (.iconst 1, 1) := by decide +kernel
theorem dL_law_264 : decode cL_law 264 = .ok (.iadd, 1) := by decide +kernel
theorem dL_law_265 : decode cL_law 265 = .ok (.aload_n 1, 1) := by decide +kernel
theorem dL_law_266 : decode cL_law 266 = .ok (.iconst 1, 1) := by decide +kernel
theorem dL_law_267 : decode cL_law 267 = .ok (.iload 11, 2) := by decide +kernel
theorem dL_law_269 : decode cL_law 269 = .ok (.iload 12, 2) := by decide +kernel
theorem dL_law_271 : decode cL_law 271 = .ok (.invokevirtual 142, 3) := by decide +kernel
theorem dL_law_274 : decode cL_law 274 = .ok (.castore, 1) := by decide +kernel
theorem dL_law_275 : decode cL_law 275 = .ok (.iinc 12 1, 3) := by decide +kernel
theorem dL_law_278 : decode cL_law 278 = .ok (.goto (-78), 3) := by decide +kernel
theorem dL_law_281 : decode cL_law 281 = .ok (.iinc 11 1, 3) := by decide +kernel
theorem dL_law_284 : decode cL_law 284 = .ok (.goto (-104), 3) := by decide +kernel
theorem dL_law_287 : decode cL_law 287 = .ok (.aload_n 1, 1) := by decide +kernel
theorem dL_law_288 : decode cL_law 288 = .ok (.iload 7, 2) := by decide +kernel
theorem dL_law_290 : decode cL_law 290 = .ok (.iload_n 3, 1) := by decide +kernel
theorem dL_law_291 : decode cL_law 291 = .ok (.aload_n 2, 1) := by decide +kernel
theorem dL_law_292 : decode cL_law 292 = .ok (.invokestatic 160, 3) := by decide +kernel
theorem dL_law_295 : decode cL_law 295 = .ok (.istore 4, 2) := by decide +kernel
theorem dL_law_297 : decode cL_law 297 = .ok (.iload 7, 2) := by decide +kernel
theorem dL_law_299 : decode cL_law 299 = .ok (.bipush 14, 2) := by decide +kernel
theorem dL_law_301 : decode cL_law 301 = .ok (.invokestatic 15, 3) := by decide +kernel
theorem dL_law_304 : decode cL_law 304 = .ok (.istore 11, 2) := by decide +kernel
theorem dL_law_306 : decode cL_law 306 = .ok (.iconst 0, 1) := by decide +kernel
theorem dL_law_307 : decode cL_law 307 = .ok (.istore 12, 2) := by decide +kernel
theorem dL_law_309 : decode cL_law 309 = .ok (.iload 12, 2) := by decide +kernel
theorem dL_law_311 : decode cL_law 311 = .ok (.iload_n 3, 1) := by decide +kernel
theorem dL_law_312 : decode cL_law 312 = .ok (.if_icmp .ge 158, 3) := by decide +kernel
theorem dL_law_315 : decode cL_law 315 = .ok (.iload 4, 2) := by decide +kernel
theorem dL_law_317 : decode cL_law 317 = .ok (.ifCond .eq 153, 3) := by decide +kernel
theorem dL_law_320 : decode cL_law 320 = .ok (.aload_n 1, 1) := by decide +kernel
theorem dL_law_321 : decode cL_law 321 = .ok (.iload 12, 2) := by decide +kernel
theorem dL_law_323 : decode cL_law 323 = .ok (.bipush 40, 2) := by decide +kernel
theorem dL_law_325 : decode cL_law 325 = .ok (.invokestatic 164, 3) := by decide +kernel
theorem dL_law_328 : decode cL_law 328 = .ok (.istore 4, 2) := by decide +kernel
theorem dL_law_330 : decode cL_law 330 = .ok (.iconst 0, 1) := by decide +kernel
theorem dL_law_331 : decode cL_law 331 = .ok (.istore 13, 2) := by decide +kernel
theorem dL_law_333 : decode cL_law 333 = .ok (.iload 13, 2) := by decide +kernel
theorem dL_law_335 : decode cL_law 335 = .ok (.aload 10, 2) := by decide +kernel
theorem dL_law_337 : decode cL_law 337 = .ok (.iload 12, 2) := by decide +kernel
theorem dL_law_339 : decode cL_law 339 = .ok (.iaload, 1) := by decide +kernel
theorem dL_law_340 : decode cL_law 340 = .ok (.if_icmp .ge 124, 3) := by decide +kernel
theorem dL_law_343 : decode cL_law 343 = .ok (.iload 4, 2) := by decide +kernel
theorem dL_law_345 : decode cL_law 345 = .ok (.ifCond .eq 119, 3) := by decide +kernel
theorem dL_law_348 : decode cL_law 348 = .ok (.iload 11, 2) := by decide +kernel
theorem dL_law_350 : decode cL_law 350 = .ok (.bipush 6, 2) := by decide +kernel
theorem dL_law_352 : decode cL_law 352 = .ok (.if_icmp .ge 112, 3) := by decide +kernel
theorem dL_law_355 : decode cL_law 355 = .ok (.aload 8, 2) := by decide +kernel
theorem dL_law_357 : decode cL_law 357 = .ok (.bipush 40, 2) := by decide +kernel
theorem dL_law_359 : decode cL_law 359 = .ok (.iload 12, 2) := by decide +kernel
theorem dL_law_361 : decode cL_law 361 = .ok (.imul, 1) := by decide +kernel
theorem dL_law_362 : decode cL_law 362 = .ok (.iload 13, 2) := by decide +kernel
theorem dL_law_364 : decode cL_law 364 = .ok (.iadd, 1) := by decide +kernel
theorem dL_law_365 : decode cL_law 365 = .ok (.aaload, 1) := by decide +kernel
theorem dL_law_366 : decode cL_law 366 = .ok (.aload_n 1, 1) := by decide +kernel
theorem dL_law_367 : decode cL_law 367 = .ok (.iload 12, 2) := by decide +kernel
theorem dL_law_369 : decode cL_law 369 = .ok (.iload 13, 2) := by decide +kernel
theorem dL_law_371 : decode cL_law 371 = .ok (.invokestatic 91, 3) := by decide +kernel
theorem dL_law_374 : decode cL_law 374 = .ok (.invokestatic 97, 3) := by decide +kernel
theorem dL_law_377 : decode cL_law 377 = .ok (.istore 14, 2) := by decide +kernel
theorem dL_law_379 : decode cL_law 379 = .ok (.aload_n 1, 1) := by decide +kernel
theorem dL_law_380 : decode cL_law 380 = .ok (.iconst 0, 1) := by decide +kernel
theorem dL_law_381 : decode cL_law 381 = .ok (.iload 12, 2) := by decide +kernel
theorem dL_law_383 : decode cL_law 383 = .ok (.iload 13, 2) := by decide +kernel
theorem dL_law_385 : decode cL_law 385 = .ok (.invokevirtual 142, 3) := by decide +kernel
theorem dL_law_388 : decode cL_law 388 = .ok (.iload 14, 2) := by decide +kernel
theorem dL_law_390 : decode cL_law 390 = .ok (.ifCond .eq 19, 3) := by decide +kernel
theorem dL_law_393 : decode cL_law 393 = .ok (.aload 9, 2) := by decide +kernel
theorem dL_law_395 : decode cL_law 395 = .ok (.bipush 80, 2) := by decide +kernel
theorem dL_law_397 : decode cL_law 397 = .ok (.iload 12, 2) := by decide +kernel
theorem dL_law_399 : decode cL_law 399 = .ok (.imul, 1) := by decide +kernel
theorem dL_law_400 : decode cL_law 400 = .ok (.iconst 2, 1) := by decide +kernel
theorem dL_law_401 : decode cL_law 401 = .ok (.iload 13, 2) := by decide +kernel
theorem dL_law_403 : decode cL_law 403 = .ok (.imul, 1) := by decide +kernel
theorem dL_law_404 : decode cL_law 404 = .ok (.iadd, 1) := by decide +kernel
theorem dL_law_405 : decode cL_law 405 = .ok (.caload, 1) := by decide +kernel
theorem dL_law_406 : decode cL_law 406 = .ok (.goto 5, 3) := by decide +kernel
theorem dL_law_409 : decode cL_law 409 = .ok (.bipush 45, 2) := by decide +kernel
theorem dL_law_411 : decode cL_law 411 = .ok (.if_icmp .ne 44, 3) := by decide +kernel
theorem dL_law_414 : decode cL_law 414 = .ok (.aload_n 1, 1) := by decide +kernel
theorem dL_law_415 : decode cL_law 415 = .ok (.iconst 1, 1) := by decide +kernel
theorem dL_law_416 : decode cL_law 416 = .ok (.iload 12, 2) := by decide +kernel
theorem dL_law_418 : decode cL_law 418 = .ok (.iload 13, 2) := by decide +kernel
theorem dL_law_420 : decode cL_law 420 = .ok (.invokevirtual 142, 3) := by decide +kernel
theorem dL_law_423 : decode cL_law 423 = .ok (.iload 14, 2) := by decide +kernel
theorem dL_law_425 : decode cL_law 425 = .ok (.ifCond .eq 21, 3) := by decide +kernel
theorem dL_law_428 : decode cL_law 428 = .ok (.aload 9, 2) := by decide +kernel
theorem dL_law_430 : decode cL_law 430 = .ok (.bipush 80, 2) := by decide +kernel
theorem dL_law_432 : decode cL_law 432 = .ok (.iload 12, 2) := by decide +kernel
theorem dL_law_434 : decode cL_law 434 = .ok (.imul, 1) := by decide +kernel
theorem dL_law_435 : decode cL_law 435 = .ok (.iconst 2, 1) := by decide +kernel
theorem dL_law_436 : decode cL_law 436 = .ok (.iload 13, 2) := by decide +kernel
theorem dL_law_438 : decode cL_law 438 = .ok (.imul, 1) := by decide +kernel
theorem dL_law_439 : decode cL_law 439 = .ok (.iadd, 1) := by decide +kernel
theorem dL_law_440 : decode cL_law 440 = .ok (.iconst 1, 1) := by decide +kernel
theorem dL_law_441 : decode cL_law 441 = .ok (.iadd, 1) := by decide +kernel
theorem dL_law_442 : decode cL_law 442 = .ok (.caload, 1) := by decide +kernel
theorem dL_law_443 : decode cL_law 443 = .ok (.goto 5, 3) := by decide +kernel
theorem dL_law_446 : decode cL_law 446 = .ok (.bipush 45, 2) := by decide +kernel
theorem dL_law_448 : decode cL_law 448 = .ok (.if_icmp .ne 7, 3) := by decide +kernel
theorem dL_law_451 : decode cL_law 451 = .ok (.iconst 1, 1) := by decide +kernel
theorem dL_law_452 : decode cL_law 452 = .ok (.goto 4, 3) := by decide +kernel
theorem dL_law_455 : decode cL_law 455 = .ok (.iconst 0, 1) := by decide +kernel
theorem dL_law_456 : decode cL_law 456 = .ok (.istore 4, 2) := by decide +kernel
theorem dL_law_458 : decode cL_law 458 = .ok (.iinc 13 1, 3) := by decide +kernel
theorem dL_law_461 : decode cL_law 461 = .ok (.goto (-128), 3) := by decide +kernel
theorem dL_law_464 : decode cL_law 464 = .ok (.iinc 12 1, 3) := by decide +kernel
theorem dL_law_467 : decode cL_law 467 = .ok (.goto (-158), 3) := by decide +kernel
theorem dL_law_470 : decode cL_law 470 = .ok (.iinc 6 1, 3) := by decide +kernel
theorem dL_law_473 : decode cL_law 473 = .ok (.goto (-408), 3) := by decide +kernel
theorem dL_law_476 : decode cL_law 476 = .ok (.iload 4, 2) := by decide +kernel
theorem dL_law_478 : decode cL_law 478 = .ok (.ifCond .eq 14, 3) := by decide +kernel
theorem dL_law_481 : decode cL_law 481 = .ok (.aload_n 1, 1) := by decide +kernel
theorem dL_law_482 : decode cL_law 482 = .ok (.invokevirtual 168, 3) := by decide +kernel
theorem dL_law_485 : decode cL_law 485 = .ok (.ifCond .eq 7, 3) := by decide +kernel
theorem dL_law_488 : decode cL_law 488 = .ok (.iconst 1, 1) := by decide +kernel
theorem dL_law_489 : decode cL_law 489 = .ok (.goto 4, 3) := by decide +kernel
theorem dL_law_492 : decode cL_law 492 = .ok (.iconst 0, 1) := by decide +kernel
theorem dL_law_493 : decode cL_law 493 = .ok (.ireturn, 1) := by decide +kernel
end
section
/-! the class's heap as one value; the world says that the machine's heap is it -/
abbrev jO : Type := Sum (Option Value) String
abbrev Hp : Type := Nat × (Nat → Nat × Nat) × (Nat → Nat → Int32) × (Nat → Nat → Option Nat) × (Nat → Nat → Int64) × (Nat → Nat → UInt64)
abbrev jR : Type := Option (jO × Hp)
def tpH (σ : Hp) : Nat := σ.1
def kdH (σ : Hp) : Nat → Nat × Nat := σ.2.1
def inH (σ : Hp) : Nat → Nat → Int32 := σ.2.2.1
def rfH (σ : Hp) : Nat → Nat → Option Nat := σ.2.2.2.1
def lgH (σ : Hp) : Nat → Nat → Int64 := σ.2.2.2.2.1
def dbH (σ : Hp) : Nat → Nat → UInt64 := σ.2.2.2.2.2
def u2 {α : Type} (f : Nat → Nat → α) (a k : Nat) (v : α) : Nat → Nat → α := fun x y => if x = a ∧ y = k then v else f x y
def u1 {α : Type} (f : Nat → α) (a : Nat) (v : α) : Nat → α := fun x => if x = a then v else f x
def inS (σ : Hp) (a k : Nat) (v : Int32) : Hp := (tpH σ, kdH σ, u2 (inH σ) a k v, rfH σ, lgH σ, dbH σ)
def rfS (σ : Hp) (a k : Nat) (v : Option Nat) : Hp := (tpH σ, kdH σ, inH σ, u2 (rfH σ) a k v, lgH σ, dbH σ)
def lgS (σ : Hp) (a k : Nat) (v : Int64) : Hp := (tpH σ, kdH σ, inH σ, rfH σ, u2 (lgH σ) a k v, dbH σ)
def dbS (σ : Hp) (a k : Nat) (v : UInt64) : Hp := (tpH σ, kdH σ, inH σ, rfH σ, lgH σ, u2 (dbH σ) a k v)
/-- an int array's run of n places, copied within it -/
def cpS (σ : Hp) (a sp dp n : Nat) : Hp := (tpH σ, kdH σ, u1 (inH σ) a (va_cpy (inH σ a) (inH σ a) sp dp n), rfH σ, lgH σ, dbH σ)
/-- a new cell, all zero -/
def nwS (σ : Hp) (kd : Nat × Nat) : Hp := (tpH σ + 1, u1 (kdH σ) (tpH σ) kd, u1 (inH σ) (tpH σ) (fun _ => 0), u1 (rfH σ) (tpH σ) (fun _ => none), u1 (lgH σ) (tpH σ) (fun _ => 0), u1 (dbH σ) (tpH σ) (fun _ => 0))
/-- a new cell that nobody looks at -/
def thS (σ : Hp) : Hp := (tpH σ + 1, u1 (kdH σ) (tpH σ) (0, 0), inH σ, rfH σ, lgH σ, dbH σ)
/-- which fields of a kind of object are ints -/
def jfb (ci : Nat) : List Bool := match ci with
  | 0 => [false, false, true]
  | 1 => [false, false]
  | 2 => [false, true]
  | 3 => [false, false, false, false, false]
  | 4 => [false, false, false, false, false, false, true]
  | 5 => [false, false, false, false, false, true, true]
  | 6 => [false, true, true, true]
  | 7 => [false, true, true, true]
  | _ => []
def jFs (σ : Hp) (a : Nat) : Nat → List Bool → List Value
  | _, [] => []
  | k, b :: bs => (if b = true then .int (inH σ a k) else va_rf (rfH σ a k)) :: jFs σ a (k + 1) bs
theorem jFs_get (σ : Hp) (a : Nat) : ∀ (bs : List Bool) (k i : Nat) (b : Bool), bs[i]? = some b → (jFs σ a k bs)[i]? = some (if b = true then .int (inH σ a (k + i)) else va_rf (rfH σ a (k + i)))
  | [], k, i, b, h => by simp at h
  | c :: bs, k, 0, b, h => by
    simp only [List.getElem?_cons_zero, Option.some.injEq] at h
    subst h
    rfl
  | c :: bs, k, i + 1, b, h => by
    simp only [List.getElem?_cons_succ] at h
    have := jFs_get σ a bs (k + 1) i b h
    simp only [jFs, List.getElem?_cons_succ]
    rw [this, show k + 1 + i = k + (i + 1) by omega]
theorem jFs_len (σ : Hp) (a : Nat) : ∀ (bs : List Bool) (k : Nat), (jFs σ a k bs).length = bs.length
  | [], k => rfl
  | c :: bs, k => by simp [jFs, jFs_len σ a bs (k + 1)]
theorem jFs_congr {σ τ : Hp} {a : Nat} (h1 : ∀ j, inH σ a j = inH τ a j) (h2 : ∀ j, rfH σ a j = rfH τ a j) : ∀ (bs : List Bool) (k : Nat), jFs σ a k bs = jFs τ a k bs
  | [], k => rfl
  | c :: bs, k => by simp only [jFs, h1, h2, jFs_congr h1 h2 bs (k + 1)]
theorem jFs_ext {σ τ : Hp} {a : Nat} : ∀ (bs : List Bool) (k : Nat), (∀ j, k ≤ j → inH σ a j = inH τ a j) → (∀ j, k ≤ j → rfH σ a j = rfH τ a j) → jFs σ a k bs = jFs τ a k bs
  | [], k, h1, h2 => rfl
  | c :: bs, k, h1, h2 => by
    simp only [jFs]
    rw [h1 k (Nat.le_refl k), h2 k (Nat.le_refl k), jFs_ext bs (k + 1) (fun j hj => h1 j (by omega)) (fun j hj => h2 j (by omega))]
theorem jFs_setI (σ : Hp) (a : Nat) (v : Int32) : ∀ (bs : List Bool) (k i : Nat), bs[i]? = some true → (jFs σ a k bs).set i (.int v) = jFs (inS σ a (k + i) v) a k bs
  | [], k, i, h => by simp at h
  | c :: bs, k, 0, h => by
    simp only [List.getElem?_cons_zero, Option.some.injEq] at h
    subst h
    simp only [jFs, List.set_cons_zero, Nat.add_zero]
    congr 1
    · simp [inH, inS, u2]
    · refine jFs_ext bs (k + 1) (fun j hj => ?_) (fun j hj => rfl)
      simp only [inH, inS, u2]
      rw [if_neg (by omega)]
  | c :: bs, k, i + 1, h => by
    simp only [List.getElem?_cons_succ] at h
    simp only [jFs, List.set_cons_succ]
    congr 1
    · simp [inH, inS, u2, rfH]
    · rw [jFs_setI σ a v bs (k + 1) i h, show k + 1 + i = k + (i + 1) by omega]
theorem jFs_setR (σ : Hp) (a : Nat) (v : Option Nat) : ∀ (bs : List Bool) (k i : Nat), bs[i]? = some false → (jFs σ a k bs).set i (va_rf v) = jFs (rfS σ a (k + i) v) a k bs
  | [], k, i, h => by simp at h
  | c :: bs, k, 0, h => by
    simp only [List.getElem?_cons_zero, Option.some.injEq] at h
    subst h
    simp only [jFs, List.set_cons_zero, Nat.add_zero]
    congr 1
    · simp [rfH, rfS, u2]
    · refine jFs_ext bs (k + 1) (fun j hj => rfl) (fun j hj => ?_)
      simp only [rfH, rfS, u2]
      rw [if_neg (by omega)]
  | c :: bs, k, i + 1, h => by
    simp only [List.getElem?_cons_succ] at h
    simp only [jFs, List.set_cons_succ]
    congr 1
    · simp [rfH, rfS, u2, inH]
    · rw [jFs_setR σ a v bs (k + 1) i h, show k + 1 + i = k + (i + 1) by omega]
/-- what a launch and a start fix: the numbers of the classes, those of the arrays' classes, where our cells begin, the script, the two texts ("" and "abcd": where they lie, where their bytes lie), a static that is a reference or null -/
abbrev jG : Type := va_G × (Nat → ClassId) × Nat × (Nat × Nat × (Nat → Int32)) × (Nat → Nat) × (Nat → Nat) × Option Nat
def gDs (g : jG) : va_G := g.1
def gcI (g : jG) : ClassId := g.2.1 0
def gcB (g : jG) : ClassId := g.2.1 1
def gcC (g : jG) : ClassId := g.2.1 2
def gcT (g : jG) : ClassId := g.2.1 3
def gcS (g : jG) : ClassId := g.2.1 4
def gB (g : jG) : Nat := g.2.2.1
def gSa (g : jG) : Nat := g.2.2.2.1.1
def gSn (g : jG) : Nat := g.2.2.2.1.2.1
def gSx (g : jG) : Nat → Int32 := g.2.2.2.1.2.2
def gKa (g : jG) : Nat → Nat := g.2.2.2.2.1
def gKv (g : jG) : Nat → Nat := g.2.2.2.2.2.1
def gFm (g : jG) : Option Nat := g.2.2.2.2.2.2
/-- the texts' lengths and bytes -/
def kLen : List Nat := [0, 4]
def kByt : List (List Int32) := [[], [97, 98, 99, 100]]
def jA (g : jG) : Nat → Prop := fun q => gB g ≤ q
def gTy (g : jG) : List (ClassId × FieldType) := [(gcI g, .int), (gcB g, .byte), (gcC g, .char), (gcT g, .object RX4), (gcS g, .object RJ0)]
/-- kinds: 1 objects, 2 ints, 5 texts, 6 bytes, 7 chars, 8 Strings; 16 a text's bytes, 17 a text: these two are old cells that nobody changes -/
def jEl (g : jG) (σ : Hp) (a : Nat) : va_E :=
  if (kdH σ a).1 = 1 then .inr ((kdH σ a).2, jFs σ a 0 (jfb (kdH σ a).2))
  else if (kdH σ a).1 = 2 then .inl (gcI g, (kdH σ a).2, .inl (inH σ a))
  else if (kdH σ a).1 = 6 then .inl (gcB g, (kdH σ a).2, .inl (inH σ a))
  else if (kdH σ a).1 = 7 then .inl (gcC g, (kdH σ a).2, .inl (inH σ a))
  else if (kdH σ a).1 = 8 then .inl (gcS g, (kdH σ a).2, .inr (.inr (.inr (.inr (rfH σ a)))))
  else .inl (gcT g, (kdH σ a).2, .inr (.inr (.inr (.inr (rfH σ a)))))
/-- an old cell: a text's bytes, or a text -/
def jKc (g : jG) (σ : Hp) (a : Nat) : Prop :=
  ((kdH σ a).1 = 16 ∧ ∃ i, i < 2 ∧ a = gKv g i ∧ (kdH σ a).2 = kLen.getD i 0 ∧ ∀ j, inH σ a j = (kByt.getD i []).getD j 0) ∨
  ((kdH σ a).1 = 17 ∧ ∃ i, i < 2 ∧ a = gKa g i ∧ inH σ a 1 = 0 ∧ rfH σ a 0 = some (gKv g i))
def jOld (k : Nat) : Prop := k = 16 ∨ k = 17
def jRel (g : jG) (σ : Hp) (H : Heap) : Prop := H.size = tpH σ ∧ gB g ≤ tpH σ ∧ (∀ a, (kdH σ a).1 ≠ 0 → ¬ jOld (kdH σ a).1 → gB g ≤ a ∧ va_at (gDs g) jCl (a, jEl g σ a) H) ∧ ∀ a, jOld (kdH σ a).1 → a < gB g ∧ jKc g σ a
theorem jEl_obj {g : jG} {σ : Hp} {a ci : Nat} (h : kdH σ a = (1, ci)) : jEl g σ a = .inr (ci, jFs σ a 0 (jfb ci)) := by simp [jEl, h]
theorem jEl_int {g : jG} {σ : Hp} {a n : Nat} (h : kdH σ a = (2, n)) : jEl g σ a = .inl (gcI g, n, .inl (inH σ a)) := by simp [jEl, h]
theorem jEl_byt {g : jG} {σ : Hp} {a n : Nat} (h : kdH σ a = (6, n)) : jEl g σ a = .inl (gcB g, n, .inl (inH σ a)) := by simp [jEl, h]
theorem jEl_chr {g : jG} {σ : Hp} {a n : Nat} (h : kdH σ a = (7, n)) : jEl g σ a = .inl (gcC g, n, .inl (inH σ a)) := by simp [jEl, h]
theorem jEl_str {g : jG} {σ : Hp} {a n : Nat} (h : kdH σ a = (8, n)) : jEl g σ a = .inl (gcS g, n, .inr (.inr (.inr (.inr (rfH σ a))))) := by simp [jEl, h]
theorem jEl_txt {g : jG} {σ : Hp} {a n : Nat} (h : kdH σ a = (5, n)) : jEl g σ a = .inl (gcT g, n, .inr (.inr (.inr (.inr (rfH σ a))))) := by simp [jEl, h]
/-- a cell of ours -/
theorem jRel.my {g : jG} {σ : Hp} {H : Heap} (h : jRel g σ H) {a k n : Nat} (hk : kdH σ a = (k, n)) (h0 : k ≠ 0 := by decide) (h16 : k ≠ 16 := by decide) (h17 : k ≠ 17 := by decide) : gB g ≤ a ∧ va_at (gDs g) jCl (a, jEl g σ a) H :=
  h.2.2.1 a (by rw [hk]; exact h0) (by rw [hk]; exact fun q => q.elim h16 h17)
/-- one cell's world -/
theorem jRel.one {g : jG} {σ : Hp} {H : Heap} (h : jRel g σ H) {a k n : Nat} (hk : kdH σ a = (k, n)) {e : va_E} (he : jEl g σ a = e) (h0 : k ≠ 0 := by decide) (h16 : k ≠ 16 := by decide) (h17 : k ≠ 17 := by decide) : va_P (gDs g) jCl [(a, e)] H := by
  intro i q hq
  have hz : i < 1 := (List.getElem?_eq_some_iff.mp hq).1
  rw [show i = 0 by omega] at hq
  cases hq
  rw [← he]
  exact (h.my hk h0 h16 h17).2
theorem jEl_congr {g : jG} {σ τ : Hp} {q : Nat} (h2 : kdH τ q = kdH σ q) (h3 : ∀ j, inH τ q j = inH σ q j) (h4 : ∀ j, rfH τ q j = rfH σ q j) : jEl g τ q = jEl g σ q := by
  have e3 : inH τ q = inH σ q := funext h3
  have e4 : rfH τ q = rfH σ q := funext h4
  unfold jEl
  rw [h2, e3, e4, jFs_congr h3 h4]
theorem jKc_congr {g : jG} {σ τ : Hp} {q : Nat} (h2 : kdH τ q = kdH σ q) (h3 : ∀ j, inH τ q j = inH σ q j) (h4 : ∀ j, rfH τ q j = rfH σ q j) (h : jKc g σ q) : jKc g τ q := by
  rcases h with ⟨h, i, a, b, c, d⟩ | ⟨h, i, a, b, c, d⟩
  · exact Or.inl ⟨by rw [h2]; exact h, i, a, b, by rw [h2]; exact c, fun j => by rw [h3]; exact d j⟩
  · exact Or.inr ⟨by rw [h2]; exact h, i, a, b, by rw [h3]; exact c, by rw [h4]; exact d⟩
/-- one cell of ours is changed -/
theorem jRel.upd {g : jG} {σ τ : Hp} {H H1 : Heap} (h : jRel g σ H) {a : Nat} (ha : gB g ≤ a) (h1 : tpH τ = tpH σ) (h2 : kdH τ = kdH σ) (he : va_at (gDs g) jCl (a, jEl g τ a) H1) (hz : H1.size = H.size) (oq : ∀ q : Nat, q ≠ a → H1[q]? = H[q]?)
    (hi : ∀ q, q ≠ a → ∀ j, inH τ q j = inH σ q j) (hr : ∀ q, q ≠ a → ∀ j, rfH τ q j = rfH σ q j) : jRel g τ H1 := by
  refine ⟨by rw [hz, h.1, h1], by rw [h1]; exact h.2.1, fun q hq hn => ?_, fun q hq => ?_⟩
  · rw [h2] at hq hn
    by_cases e : q = a
    · subst e
      exact ⟨ha, he⟩
    · rw [jEl_congr (by rw [h2]) (hi q e) (hr q e)]
      exact ⟨(h.2.2.1 q hq hn).1, (h.2.2.1 q hq hn).2.kept (oq q e)⟩
  · rw [h2] at hq
    have h9 := h.2.2.2 q hq
    have e : q ≠ a := by omega
    exact ⟨h9.1, jKc_congr (by rw [h2]) (hi q e) (hr q e) h9.2⟩
/-- a new cell -/
theorem jRel.new {g : jG} {σ : Hp} {H H1 : Heap} (h : jRel g σ H) (kd : Nat × Nat) (hz : H1.size = H.size + 1) (oq : ∀ q : Nat, q < H.size → H1[q]? = H[q]?) (h16 : ¬ jOld kd.1) (he : kd.1 ≠ 0 → va_at (gDs g) jCl (H.size, jEl g (nwS σ kd) H.size) H1) : jRel g (nwS σ kd) H1 := by
  have kq : ∀ q, q ≠ tpH σ → kdH (nwS σ kd) q = kdH σ q := fun q e => by show u1 (kdH σ) (tpH σ) kd q = _; simp [u1, e]
  have iq : ∀ q, q ≠ tpH σ → ∀ j, inH (nwS σ kd) q j = inH σ q j := fun q e j => by simp only [inH, nwS, u1]; rw [if_neg e]
  have rq : ∀ q, q ≠ tpH σ → ∀ j, rfH (nwS σ kd) q j = rfH σ q j := fun q e j => by simp only [rfH, nwS, u1]; rw [if_neg e]
  have k0 : kdH (nwS σ kd) (tpH σ) = kd := by show u1 (kdH σ) (tpH σ) kd (tpH σ) = _; simp [u1]
  refine ⟨by rw [hz, h.1]; rfl, Nat.le_succ_of_le h.2.1, fun q hq hn => ?_, fun q hq => ?_⟩
  · by_cases e : q = tpH σ
    · subst e
      refine ⟨h.2.1, ?_⟩
      rw [← h.1] at k0 hq ⊢
      rw [k0] at hq
      exact he hq
    · rw [kq q e] at hq hn
      have h9 := h.2.2.1 q hq hn
      rw [jEl_congr (kq q e) (iq q e) (rq q e)]
      exact ⟨h9.1, h9.2.kept (oq q h9.2.lt)⟩
  · by_cases e : q = tpH σ
    · subst e
      rw [k0] at hq
      exact absurd hq h16
    · rw [kq q e] at hq
      exact ⟨(h.2.2.2 q hq).1, jKc_congr (kq q e) (iq q e) (rq q e) (h.2.2.2 q hq).2⟩
/-- new cells that nobody looks at -/
def skS (σ : Hp) (n : Nat) : Hp := (tpH σ + n, fun x => if tpH σ ≤ x ∧ x < tpH σ + n then (0, 0) else kdH σ x, inH σ, rfH σ, lgH σ, dbH σ)
theorem jRel.skips {g : jG} {σ : Hp} {H H1 : Heap} (h : jRel g σ H) (n : Nat) (hz : H1.size = H.size + n) (oq : ∀ q : Nat, q < H.size → H1[q]? = H[q]?) : jRel g (skS σ n) H1 := by
  have kq : ∀ q, (kdH (skS σ n) q).1 ≠ 0 → kdH (skS σ n) q = kdH σ q := fun q e => by
    by_cases hq : tpH σ ≤ q ∧ q < tpH σ + n
    · exact absurd (by show (if tpH σ ≤ q ∧ q < tpH σ + n then ((0, 0) : Nat × Nat) else kdH σ q).1 = 0; rw [if_pos hq]) e
    · show (if tpH σ ≤ q ∧ q < tpH σ + n then ((0, 0) : Nat × Nat) else kdH σ q) = _
      rw [if_neg hq]
  refine ⟨by rw [hz, h.1]; rfl, Nat.le_trans h.2.1 (Nat.le_add_right _ _), fun q hq hn => ?_, fun q hq => ?_⟩
  · have e := kq q hq
    rw [e] at hq hn
    have h9 := h.2.2.1 q hq hn
    rw [jEl_congr e (fun _ => rfl) (fun _ => rfl)]
    exact ⟨h9.1, h9.2.kept (oq q h9.2.lt)⟩
  · have e := kq q (by rcases hq with h | h <;> rw [h] <;> decide)
    rw [e] at hq
    exact ⟨(h.2.2.2 q hq).1, jKc_congr e (fun _ => rfl) (fun _ => rfl) (h.2.2.2 q hq).2⟩
theorem jRel.skip {g : jG} {σ : Hp} {H H1 : Heap} (h : jRel g σ H) (hz : H1.size = H.size + 1) (oq : ∀ q : Nat, q < H.size → H1[q]? = H[q]?) : jRel g (thS σ) H1 := by
  have h9 := h.skips 1 hz oq
  have e : skS σ 1 = thS σ := by
    unfold skS thS
    congr 2
    funext x
    simp only [u1]
    by_cases hx : x = tpH σ
    · rw [if_pos (by omega), if_pos hx]
    · rw [if_neg (by omega), if_neg hx]
  rw [← e]
  exact h9
/-- words that the tables alone decide, but that aren't kept as the good ones are -/
def jNt : List Cond := [.methodLinkNest RX5 20 yX3_init RX5, .castable "java/lang/IndexOutOfBoundsException" "java/lang/IndexOutOfBoundsException", .declares ⟨"java/lang/RuntimeException", "<init>", "()V"⟩, .declares ⟨"java/lang/RuntimeException", "<init>", "(Ljava/lang/String;)V"⟩, .declares ⟨"java/lang/Exception", "<init>", "()V"⟩, .declares ⟨"java/lang/Exception", "<init>", "(Ljava/lang/String;)V"⟩, .declares ⟨"java/lang/Throwable", "<init>", "()V"⟩, .declares ⟨"java/lang/Throwable", "<init>", "(Ljava/lang/String;)V"⟩, .castable "java/lang/IllegalArgumentException" "java/lang/IllegalArgumentException", .methodLinkNest RX5 164 yX4_init RX5, .castable "java/lang/IllegalStateException" "java/lang/IllegalStateException", .castable "[B" "java/lang/Cloneable", .castable "java/util/NoSuchElementException" "java/util/NoSuchElementException", .castable "java/lang/UnsupportedOperationException" "java/lang/UnsupportedOperationException"]
theorem jNt_warm {s U : State} (hW : s.WarmedH U.vm) (h : ∀ w ∈ jNt, va_Nw w s) : ∀ w ∈ jNt, va_Nw w U := by
  intro w hw
  have h1 := h w hw
  simp only [jNt, List.mem_cons, List.not_mem_nil, or_false] at hw
  rcases hw with rfl | rfl | rfl | rfl | rfl | rfl | rfl | rfl | rfl | rfl | rfl | rfl | rfl | rfl <;> first | exact va_Nw.warmC hW h1 | exact va_Nw.warmM hW h1 | exact va_Nw.warmD hW h1
/-- the texts of the exceptions -/
def jSr : List (String × Nat × String) := [(RX5, 157, "neither a text nor the next new one"), (RX5, 162, "no such grade"), (RX5, 289, "no such text"), (RX5, 237, "no such bearing"), (RX5, 253, "no such reader"), (RX5, 291, "no such word"), (RX5, 56, "neither a letter nor a blank"), (RX5, 67, "the buffer is full"), (RX5, 192, "no such cell of the word"), (RX5, 200, "no such line"), (RX5, 205, "no such cell of the line"), (RX5, 87, "not the numbers or the letters of a rule"), (RX5, 90, "no room for another rule"), (RX5, 98, "there is a rule for these letters"), (RX5, 108, "not the numbers of a rule"), (RX5, 112, "no rule for these letters"), (RX5, 139, "not one word"), (RX5, 148, "no room for another exception"), (RX5, 179, "no such width"), (RX5, 242, "no such pin"), (RX5, 226, "a pin would be struck more than it bears")]
/-- which exceptions aren't others (E, F): E is no F -/
def jNl : List (String × String) := [("java/lang/IllegalStateException", "java/lang/IllegalArgumentException"), ("java/lang/UnsupportedOperationException", "java/lang/IllegalArgumentException"), ("java/lang/UnsupportedOperationException", "java/lang/IllegalStateException"), ("java/util/NoSuchElementException", "java/lang/IllegalArgumentException"), ("java/util/NoSuchElementException", "java/lang/IndexOutOfBoundsException"), ("java/lang/IllegalArgumentException", "java/lang/IndexOutOfBoundsException"), ("java/lang/IllegalStateException", "java/lang/IndexOutOfBoundsException")]
def jSt (g : jG) (U : State) : Prop := va_K (gDs g) jCl (gTy g) U ∧ (∀ w ∈ jNt, va_Nw w U) ∧ (∀ q ∈ jSr, ∃ a, vk_R q.1 q.2.1 q.2.2 a U) ∧ va_AO RX4 U ∧ (∀ q ∈ jNl, va_Nc q.1 q.2 U) ∧ va_AO RJ0 U ∧ vk_R RL 54 "" (gKa g 0) U ∧ vk_R RL 21 "abcd" (gKa g 1) U
/-- what the old cells hold -/
def jZo (g : jG) (U : State) (H : Heap) : Prop := vk_S 2 kLen kByt (gKa g) (gKv g) (jA g) U H ∧ va_Z RJ0 "COMPACT_STRINGS" "Z" (.int 1) (jA g) U H ∧ va_Z RJ3 "SIOOBE_FORMATTER" "Ljava/util/function/BiFunction;" (va_rf (gFm g)) (jA g) U H
def jZt (g : jG) (U : State) (H : Heap) : Prop := vx_Zq Bundle.tN "UNASSIGNED_STACK" Bundle.steD (jA g) U H ∧ vx_Zq Bundle.tN "SUPPRESSED_SENTINEL" Bundle.listD (jA g) U H ∧ va_X (gSa g) (gSn g) (gSx g) U H ∧ gSa g < gB g ∧ gB g ≤ H.size ∧ jZo g U H
def jPre (g : jG) (σ : Hp) (U : State) : Prop := jSt g U ∧ jZt g U U.heap ∧ jRel g σ U.heap
theorem jSt_warm {g : jG} {s U : State} (hW : s.WarmedH U.vm) (h : jSt g s) : jSt g U :=
  ⟨va_K.moved hW.alike h.1, jNt_warm hW h.2.1, fun q hq => by obtain ⟨a, ha⟩ := h.2.2.1 q hq; exact ⟨a, ha.warm hW⟩, va_AO.moved hW.alike h.2.2.2.1, fun q hq => (h.2.2.2.2.1 q hq).moved hW.alike, va_AO.moved hW.alike h.2.2.2.2.2.1, h.2.2.2.2.2.2.1.warm hW, h.2.2.2.2.2.2.2.warm hW⟩
theorem jZo_kept {g : jG} {s : State} {H H1 : Heap} (h : jZo g s H) (hq : ∀ a : Nat, a < H.size → ¬ jA g a → H1[a]? = H[a]?) : jZo g s H1 := ⟨h.1.kept hq, h.2.1.kept hq, h.2.2.kept hq⟩
theorem jZo_moved {g : jG} {s U : State} {H : Heap} (hA : s.vm.Alike U.vm) (h : jZo g s H) : jZo g U H := ⟨vk_S.moved hA h.1, va_Z.moved hA h.2.1, va_Z.moved hA h.2.2⟩
theorem jZt_kept {g : jG} {s : State} {H : Heap} {locs : List Loc} (h : jZt g s s.heap) (hS : va_S (jA g) s.heap H locs) : jZt g s H :=
  ⟨h.1.kept hS.2.1, h.2.1.kept hS.2.1, h.2.2.1.kept (hS.2.1 _ (Nat.lt_of_lt_of_le h.2.2.2.1 h.2.2.2.2.1) (Nat.not_le.mpr h.2.2.2.1)), h.2.2.2.1, Nat.le_trans h.2.2.2.2.1 hS.1, jZo_kept h.2.2.2.2.2 hS.2.1⟩
theorem jZt_moved {g : jG} {s U : State} {H : Heap} (hA : s.vm.Alike U.vm) (h : jZt g s H) : jZt g U H :=
  ⟨h.1.moved hA, h.2.1.moved hA, h.2.2.1.moved hA, h.2.2.2.1, h.2.2.2.2.1, jZo_moved hA h.2.2.2.2.2⟩
theorem jPre_blind {g : jG} {σ : Hp} {av : List Value} : FrameBlind (va_Pc av (jPre g σ)) := by
  intro a U f mk h
  obtain ⟨h0, h1, h2, h3⟩ := h
  exact ⟨h0, jSt_warm (U := U.calling f mk a) (State.WarmedH.refl U) h1, jZt_moved (U := U.calling f mk a) (Vm.Alike.refl U.vm) h2, h3⟩
/-- the end of a method -/
def jQc (g : jG) (o : jO) (τ : Hp) : Array Value → State → Outcome → State → Prop := fun _ st oc t => (∃ v, o = .inl v ∧ oc = .returned v ∧ jRel g τ t.heap) ∧ va_F (jA g) st t
def jXC (g : jG) (o : jO) (τ : Hp) : String → State → State → Prop := fun E st t => o = .inr E ∧ jRel g τ t.heap ∧ va_F (jA g) st t
abbrev jMet (l : Launch) (g : jG) (y : MethodName) (ws : List Cond) (rm : Room) (mc ms : Nat) (av : List Value) (σ : Hp) (o : jO) (τ : Hp) : Prop :=
  vx_Met l y ws rm (va_Pc av (jPre g σ)) (jQc g o τ) (jXC g o τ) mc ms (jA g)
/-- what stands fast in a method -/
def jC (p : Program) (l : Launch) (s : State) (m : MethodId) (args : Array Value) (meth : Method) (c : Code) (g : jG) (own : String) (cc : ByteArray) (nL : Nat) (rt : Option FieldType) : Prop :=
  p.tables.exec = Jvm.exec ∧ c.code = cc ∧ c.maxLocals = nL ∧ s.vm.findClass own = some m.cls ∧ (∀ w ∈ gT, w.before args s = true) ∧ meth.locks = false ∧ l.stackTraces = false ∧ meth.sig.returnType = rt ∧ jSt g s ∧ jZt g s s.heap
/-- the machine at pc, its locals, its stack, the heap a value -/
def jW (p : Program) (l : Launch) (e : Env) (R : Room) (s : State) (m : MethodId) (args : Array Value) (below : List Frame) (meth : Method) (c : Code) (g : jG) (Q : State → Prop) (k n pc : Nat) (lv : List (Nat × Value)) (st : List Value) (σ : Hp) : Prop :=
  ∀ (H : Heap) (locs : List Loc) (ls : Array Slot), jRel g σ H → va_S (jA g) s.heap H locs → lv_has ls c.maxLocals lv → W p l e R s m args below meth c H locs k n Q (F0 m pc ls st)
/-- an exception is on its way -/
def jX (p : Program) (l : Launch) (e : Env) (R : Room) (s : State) (m : MethodId) (args : Array Value) (below : List Frame) (meth : Method) (c : Code) (g : jG) (Q : State → Prop) (k n pc : Nat) (lv : List (Nat × Value)) (st : List Value) (σ : Hp) (E : String) : Prop :=
  ∀ (H : Heap) (locs : List Loc) (ls : Array Slot) (ce : Cell) (q : Addr), jRel g σ H → va_S (jA g) s.heap H locs → lv_has ls c.maxLocals lv → H[q]? = some ce → ce.vm = .none → s.vm.findClass E = some ce.cls → vx_W p l e R s m args below meth c H locs k n Q (F0 m pc ls st) q
end
section
/-! the methods as functions over the heap's value: their pieces -/
def jgI (σ : Hp) (a ci f : Nat) (K : Int32 → jR) : jR := if kdH σ a = (1, ci) then K (inH σ a f) else none
def jgR (σ : Hp) (a ci f : Nat) (K : Option Nat → jR) : jR := if kdH σ a = (1, ci) then K (rfH σ a f) else none
def jpI (σ : Hp) (a ci f : Nat) (v : Int32) (K : Hp → jR) : jR := if kdH σ a = (1, ci) then K (inS σ a f v) else none
def jpR (σ : Hp) (a ci f : Nat) (v : Option Nat) (K : Hp → jR) : jR := if kdH σ a = (1, ci) then K (rfS σ a f v) else none
/-- fields of a String, one that was made or a text: its bytes, its coder -/
def jgIs (σ : Hp) (a : Nat) (K : Int32 → jR) : jR := if kdH σ a = (1, 7) ∨ (kdH σ a).1 = 17 then K (inH σ a 1) else none
def jgRs (σ : Hp) (a : Nat) (K : Option Nat → jR) : jR := if kdH σ a = (1, 7) ∨ (kdH σ a).1 = 17 then K (rfH σ a 0) else none
/-- bytes: of an array that was made, or of a text -/
def jByt (σ : Hp) (a : Nat) : Prop := (kdH σ a).1 = 6 ∨ (kdH σ a).1 = 16
def jFit (σ : Hp) (a : Nat) : Prop := ∀ i, fits .byte (.int (inH σ a i)) = true
noncomputable def jalB (σ : Hp) (a : Nat) (K : Int32 → jR) : jR := @ite _ (jByt σ a) (Classical.propDecidable _) (K (nI (kdH σ a).2)) none
noncomputable def jaB (σ : Hp) (a : Nat) (i : Int32) (K : Int32 → jR) : jR := @ite _ (jByt σ a ∧ ¬ (i < 0 ∨ (kdH σ a).2 ≤ i.toNatClampNeg)) (Classical.propDecidable _) (K (inH σ a i.toNatClampNeg)) none
def jaC (σ : Hp) (a : Nat) (i : Int32) (K : Int32 → jR) : jR := if (kdH σ a).1 = 7 ∧ ¬ (i < 0 ∨ (kdH σ a).2 ≤ i.toNatClampNeg) then K (inH σ a i.toNatClampNeg) else none
def jaS (σ : Hp) (a : Nat) (i : Int32) (K : Option Nat → jR) : jR := if (kdH σ a).1 = 8 ∧ ¬ (i < 0 ∨ (kdH σ a).2 ≤ i.toNatClampNeg) then K (rfH σ a i.toNatClampNeg) else none
def jsB (σ : Hp) (a : Nat) (i : Int32) (v : Int32) (K : Hp → jR) : jR := if (kdH σ a).1 = 6 ∧ ¬ (i < 0 ∨ (kdH σ a).2 ≤ i.toNatClampNeg) then K (inS σ a i.toNatClampNeg (vp_nar .byte v)) else none
def jsC (σ : Hp) (a : Nat) (i : Int32) (v : Int32) (K : Hp → jR) : jR := if (kdH σ a).1 = 7 ∧ ¬ (i < 0 ∨ (kdH σ a).2 ≤ i.toNatClampNeg) then K (inS σ a i.toNatClampNeg (vp_nar .char v)) else none
def jsS (σ : Hp) (a : Nat) (i : Int32) (v : Nat) (K : Hp → jR) : jR := if (kdH σ a).1 = 8 ∧ kdH σ v = (1, 7) ∧ ¬ (i < 0 ∨ (kdH σ a).2 ≤ i.toNatClampNeg) then K (rfS σ a i.toNatClampNeg (some v)) else none
/-- bytes copied from one array into another of ours -/
def cpB (σ : Hp) (a b sp dp n : Nat) : Hp := (tpH σ, kdH σ, u1 (inH σ) b (va_cpy (inH σ a) (inH σ b) sp dp n), rfH σ, lgH σ, dbH σ)
noncomputable def jcpB (σ : Hp) (a b : Nat) (sp dp n : Int32) (K : Hp → jR) : jR :=
  @ite _ (jByt σ a ∧ (kdH σ b).1 = 6 ∧ jFit σ a ∧ ¬ sp < 0 ∧ ¬ dp < 0 ∧ ¬ n < 0 ∧ sp.toNatClampNeg + n.toNatClampNeg ≤ (kdH σ a).2 ∧ dp.toNatClampNeg + n.toNatClampNeg ≤ (kdH σ b).2) (Classical.propDecidable _) (K (cpB σ a b sp.toNatClampNeg dp.toNatClampNeg n.toNatClampNeg)) none
/-- an array of bytes, copied whole -/
def clB (σ : Hp) (a : Nat) : Hp := (tpH σ + 1, u1 (kdH σ) (tpH σ) (kdH σ a), u1 (inH σ) (tpH σ) (inH σ a), u1 (rfH σ) (tpH σ) (fun _ => none), lgH σ, dbH σ)
noncomputable def jcl (σ : Hp) (a M : Nat) (K : Nat → Hp → jR) : jR := @ite _ ((kdH σ a).1 = 6 ∧ jFit σ a ∧ (kdH σ a).2 ≤ M) (Classical.propDecidable _) (K (tpH σ) (clB σ a)) none
/-- an array of bytes is one -/
def jckB (σ : Hp) (a : Nat) (K : jR) : jR := if (kdH σ a).1 = 6 then K else none
def jdr (r : Option Nat) (K : Nat → jR) : jR := match r with
  | none => none
  | some a => K a
/-- an array's length -/
def jal (σ : Hp) (a t : Nat) (K : Int32 → jR) : jR := if (kdH σ a).1 = t then K (nI (kdH σ a).2) else none
def jaI (σ : Hp) (a : Nat) (i : Int32) (K : Int32 → jR) : jR := if (kdH σ a).1 = 2 ∧ ¬ (i < 0 ∨ (kdH σ a).2 ≤ i.toNatClampNeg) then K (inH σ a i.toNatClampNeg) else none
def jaJ (σ : Hp) (a : Nat) (i : Int32) (K : Int64 → jR) : jR := if (kdH σ a).1 = 3 ∧ ¬ (i < 0 ∨ (kdH σ a).2 ≤ i.toNatClampNeg) then K (lgH σ a i.toNatClampNeg) else none
def jaD (σ : Hp) (a : Nat) (i : Int32) (K : UInt64 → jR) : jR := if (kdH σ a).1 = 4 ∧ ¬ (i < 0 ∨ (kdH σ a).2 ≤ i.toNatClampNeg) then K (dbH σ a i.toNatClampNeg) else none
def jaR (σ : Hp) (a : Nat) (i : Int32) (K : Option Nat → jR) : jR := if (kdH σ a).1 = 5 ∧ ¬ (i < 0 ∨ (kdH σ a).2 ≤ i.toNatClampNeg) then K (rfH σ a i.toNatClampNeg) else none
def jsI (σ : Hp) (a : Nat) (i : Int32) (v : Int32) (K : Hp → jR) : jR := if (kdH σ a).1 = 2 ∧ ¬ (i < 0 ∨ (kdH σ a).2 ≤ i.toNatClampNeg) then K (inS σ a i.toNatClampNeg v) else none
def jsJ (σ : Hp) (a : Nat) (i : Int32) (v : Int64) (K : Hp → jR) : jR := if (kdH σ a).1 = 3 ∧ ¬ (i < 0 ∨ (kdH σ a).2 ≤ i.toNatClampNeg) then K (lgS σ a i.toNatClampNeg v) else none
def jsD (σ : Hp) (a : Nat) (i : Int32) (v : UInt64) (K : Hp → jR) : jR := if (kdH σ a).1 = 4 ∧ ¬ (i < 0 ∨ (kdH σ a).2 ≤ i.toNatClampNeg) then K (dbS σ a i.toNatClampNeg v) else none
def jsT (σ : Hp) (a : Nat) (i : Int32) (v : Nat) (K : Hp → jR) : jR := if (kdH σ a).1 = 5 ∧ kdH σ v = (1, 4) ∧ ¬ (i < 0 ∨ (kdH σ a).2 ≤ i.toNatClampNeg) then K (rfS σ a i.toNatClampNeg (some v)) else none
/-- the script -/
def jzI (g : jG) (i : Int32) (K : Int32 → jR) : jR := if ¬ (i < 0 ∨ gSn g ≤ i.toNatClampNeg) then K (gSx g i.toNatClampNeg) else none
def jnw (σ : Hp) (ci : Nat) (K : Nat → Hp → jR) : jR := K (tpH σ) (nwS σ (1, ci))
/-- a new array of kind t (2 ints, 3 longs, 4 doubles, 5 texts), of at most M places -/
def jnA (σ : Hp) (t M : Nat) (i : Int32) (K : Nat → Hp → jR) : jR := if ¬ i < 0 ∧ i.toNatClampNeg ≤ M then K (tpH σ) (nwS σ (t, i.toNatClampNeg)) else none
def jcp (σ : Hp) (a b : Nat) (sp dp n : Int32) (K : Hp → jR) : jR :=
  if a = b ∧ (kdH σ a).1 = 2 ∧ ¬ sp < 0 ∧ ¬ dp < 0 ∧ ¬ n < 0 ∧ sp.toNatClampNeg + n.toNatClampNeg ≤ (kdH σ a).2 ∧ dp.toNatClampNeg + n.toNatClampNeg ≤ (kdH σ a).2 then K (cpS σ a sp.toNatClampNeg dp.toNatClampNeg n.toNatClampNeg) else none
/-- a call: the receiver is of a kind -/
def jcv (σ : Hp) (a ci : Nat) (J : jR) (K : Option Value → Hp → jR) (KX : String → Hp → jR) : jR := if kdH σ a = (1, ci) then (match J with
  | none => none
  | some (.inl v, τ) => K v τ
  | some (.inr E, τ) => KX E τ) else none
/-- a call of a String -/
def jcvS (σ : Hp) (a : Nat) (J : jR) (K : Option Value → Hp → jR) (KX : String → Hp → jR) : jR := if kdH σ a = (1, 7) ∨ (kdH σ a).1 = 17 then (match J with
  | none => none
  | some (.inl v, τ) => K v τ
  | some (.inr E, τ) => KX E τ) else none
def jcs (J : jR) (K : Option Value → Hp → jR) (KX : String → Hp → jR) : jR := match J with
  | none => none
  | some (.inl v, τ) => K v τ
  | some (.inr E, τ) => KX E τ
def jvI (v : Option Value) (K : Int32 → jR) : jR := match v with
  | some (.int r) => K r
  | _ => none
def jvJ (v : Option Value) (K : Int64 → jR) : jR := match v with
  | some (.long r) => K r
  | _ => none
def jvF (v : Option Value) (K : UInt32 → jR) : jR := match v with
  | some (.float r) => K r
  | _ => none
def jvD (v : Option Value) (K : UInt64 → jR) : jR := match v with
  | some (.double r) => K r
  | _ => none
def jvV (v : Option Value) (K : jR) : jR := match v with
  | none => K
  | _ => none
def jvA (v : Option Value) (K : Nat → jR) : jR := match v with
  | some (.ref a) => K a
  | _ => none
/-- an int as a small type keeps it -/
def jrt (ty : FieldType) (v : Int32) (σ : Hp) : jR := if vp_nar ty v = v then some (.inl (some (.int v)), σ) else none
def jn32 (x : UInt32) (K : jR) : jR := if x &&& 2147483647 ≤ 2139095040 then K else none
def jn64 (x : UInt64) (K : jR) : jR := if x &&& 9223372036854775807 ≤ 9218868437227405312 then K else none
/-- a test against null -/
def jnu (r : Option Nat) (A : jR) (B : Nat → jR) : jR := match r with
  | none => A
  | some a => B a
/-- a place where ways meet -/
def jj {α : Type} (F : α) (B : α → jR) : jR := B F
theorem jj_some {α : Type} {F : α} {B : α → jR} {X : jO × Hp} (h : jj F B = some X) : ∃ G, G = F ∧ B G = some X := ⟨F, rfl, h⟩
/-- a divisor -/
def jnz (y : Int32) (K : jR) : jR := if ¬ y = 0 then K else none
/-- how often a loop may go round -/
def jN : Nat := 100000
theorem jdr_some {r : Option Nat} {K : Nat → jR} {X : jO × Hp} (h : jdr r K = some X) : ∃ a, r = some a ∧ K a = some X := by
  cases r with
  | none => cases h
  | some a => exact ⟨a, rfl, h⟩
theorem jvI_some {v : Option Value} {K : Int32 → jR} {X : jO × Hp} (h : jvI v K = some X) : ∃ r, v = some (.int r) ∧ K r = some X := by
  unfold jvI at h
  split at h
  · exact ⟨_, rfl, h⟩
  · cases h
theorem jvJ_some {v : Option Value} {K : Int64 → jR} {X : jO × Hp} (h : jvJ v K = some X) : ∃ r, v = some (.long r) ∧ K r = some X := by
  unfold jvJ at h
  split at h
  · exact ⟨_, rfl, h⟩
  · cases h
theorem jvF_some {v : Option Value} {K : UInt32 → jR} {X : jO × Hp} (h : jvF v K = some X) : ∃ r, v = some (.float r) ∧ K r = some X := by
  unfold jvF at h
  split at h
  · exact ⟨_, rfl, h⟩
  · cases h
theorem jvD_some {v : Option Value} {K : UInt64 → jR} {X : jO × Hp} (h : jvD v K = some X) : ∃ r, v = some (.double r) ∧ K r = some X := by
  unfold jvD at h
  split at h
  · exact ⟨_, rfl, h⟩
  · cases h
theorem jvA_some {v : Option Value} {K : Nat → jR} {X : jO × Hp} (h : jvA v K = some X) : ∃ a, v = some (.ref a) ∧ K a = some X := by
  unfold jvA at h
  split at h
  · exact ⟨_, rfl, h⟩
  · cases h
theorem jvV_some {v : Option Value} {K : jR} {X : jO × Hp} (h : jvV v K = some X) : v = none ∧ K = some X := by
  unfold jvV at h
  split at h
  · exact ⟨rfl, h⟩
  · cases h
theorem jif_some {c : Prop} {i : Decidable c} {K : jR} {X : jO × Hp} (h : (@ite _ c i K none) = some X) : c ∧ K = some X := by
  split at h
  · exact ⟨by assumption, h⟩
  · cases h
theorem jcs_some {J : jR} {K : Option Value → Hp → jR} {KX : String → Hp → jR} {X : jO × Hp} (h : jcs J K KX = some X) : (∃ v τ, J = some (.inl v, τ) ∧ K v τ = some X) ∨ ∃ E τ, J = some (.inr E, τ) ∧ KX E τ = some X := by
  unfold jcs at h
  split at h
  · cases h
  · exact Or.inl ⟨_, _, rfl, h⟩
  · exact Or.inr ⟨_, _, rfl, h⟩
theorem jcv_some {σ : Hp} {a ci : Nat} {J : jR} {K : Option Value → Hp → jR} {KX : String → Hp → jR} {X : jO × Hp} (h : jcv σ a ci J K KX = some X) : kdH σ a = (1, ci) ∧ jcs J K KX = some X := jif_some h
theorem jcvS_some {σ : Hp} {a : Nat} {J : jR} {K : Option Value → Hp → jR} {KX : String → Hp → jR} {X : jO × Hp} (h : jcvS σ a J K KX = some X) : (kdH σ a = (1, 7) ∨ (kdH σ a).1 = 17) ∧ jcs J K KX = some X := jif_some h
section JROWS
variable {p : Program} {l : Launch} {e : Env} {R : Room} {s : State} {m : MethodId} {args : Array Value} {below : List Frame} {meth : Method} {c : Code} {g : jG} {Q : State → Prop} {own : String} {cc : ByteArray} {nL k n pc : Nat} {rt : Option FieldType} {lv lv' : List (Nat × Value)} {st : List Value} {σ τ : Hp} {X : jO × Hp} {o : jO} {mc ms : Nat}
/-! constants, locals, stack, numbers -/
theorem r_iconst (C : jC p l s m args meth c g own cc nL rt) {i : Int} {v : Int32} (pc' : Nat) (hp : pc + 1 = pc') (hd : decode cc pc = .ok (.iconst i, 1)) (hv : Int32.ofInt i = v) (kk : jW p l e R s m args below meth c g Q k n pc' lv (.int v :: st) σ) : jW p l e R s m args below meth c g Q k n pc lv st σ := by
  subst hp; exact fun H locs ls h1 h2 h3 => lv_iconst C.1 C.2.1 hd hv (kk H locs ls h1 h2 h3)
theorem r_bipush (C : jC p l s m args meth c g own cc nL rt) {i : Int} {v : Int32} (pc' : Nat) (hp : pc + 2 = pc') (hd : decode cc pc = .ok (.bipush i, 2)) (hv : (Int8.ofInt i).toInt32 = v) (kk : jW p l e R s m args below meth c g Q k n pc' lv (.int v :: st) σ) : jW p l e R s m args below meth c g Q k n pc lv st σ := by
  subst hp; exact fun H locs ls h1 h2 h3 => lv_bipush C.1 C.2.1 hd hv (kk H locs ls h1 h2 h3)
theorem r_sipush (C : jC p l s m args meth c g own cc nL rt) {i : Int} {v : Int32} (pc' : Nat) (hp : pc + 3 = pc') (hd : decode cc pc = .ok (.sipush i, 3)) (hv : (Int16.ofInt i).toInt32 = v) (kk : jW p l e R s m args below meth c g Q k n pc' lv (.int v :: st) σ) : jW p l e R s m args below meth c g Q k n pc lv st σ := by
  subst hp; exact fun H locs ls h1 h2 h3 => lv_sipush C.1 C.2.1 hd hv (kk H locs ls h1 h2 h3)
theorem r_iload_n (C : jC p l s m args meth c g own cc nL rt) {i : Fin 4} {x : Int32} (pc' : Nat) (hp : pc + 1 = pc') (j : Nat) (hd : decode cc pc = .ok (.iload_n i, 1)) (hl : lv[j]? = some ((i : Nat), .int x)) (kk : jW p l e R s m args below meth c g Q k n pc' lv (.int x :: st) σ) : jW p l e R s m args below meth c g Q k n pc lv st σ := by
  subst hp; exact fun H locs ls h1 h2 h3 => lv_iload_n C.1 C.2.1 hd rfl (lv_at h3 j hl) (kk H locs ls h1 h2 h3)
theorem r_iload (C : jC p l s m args meth c g own cc nL rt) {i : Nat} {x : Int32} (pc' : Nat) (hp : pc + 2 = pc') (j : Nat) (hd : decode cc pc = .ok (.iload i, 2)) (hl : lv[j]? = some (i, .int x)) (kk : jW p l e R s m args below meth c g Q k n pc' lv (.int x :: st) σ) : jW p l e R s m args below meth c g Q k n pc lv st σ := by
  subst hp; exact fun H locs ls h1 h2 h3 => lv_iload C.1 C.2.1 hd (lv_at h3 j hl) (kk H locs ls h1 h2 h3)
theorem r_aload_n (C : jC p l s m args meth c g own cc nL rt) {i : Fin 4} {x : Option Nat} (pc' : Nat) (hp : pc + 1 = pc') (j : Nat) (hd : decode cc pc = .ok (.aload_n i, 1)) (hl : lv[j]? = some ((i : Nat), va_rf x)) (kk : jW p l e R s m args below meth c g Q k n pc' lv (va_rf x :: st) σ) : jW p l e R s m args below meth c g Q k n pc lv st σ := by
  subst hp
  cases x with
  | none => exact fun H locs ls h1 h2 h3 => lv_aload_nN C.1 C.2.1 hd rfl (lv_at h3 j hl) (kk H locs ls h1 h2 h3)
  | some x => exact fun H locs ls h1 h2 h3 => lv_aload_n C.1 C.2.1 hd rfl (lv_at h3 j hl) (kk H locs ls h1 h2 h3)
theorem r_aload (C : jC p l s m args meth c g own cc nL rt) {i : Nat} {x : Option Nat} (pc' : Nat) (hp : pc + 2 = pc') (j : Nat) (hd : decode cc pc = .ok (.aload i, 2)) (hl : lv[j]? = some (i, va_rf x)) (kk : jW p l e R s m args below meth c g Q k n pc' lv (va_rf x :: st) σ) : jW p l e R s m args below meth c g Q k n pc lv st σ := by
  subst hp
  cases x with
  | none => exact fun H locs ls h1 h2 h3 => lv_aloadN C.1 C.2.1 hd (lv_at h3 j hl) (kk H locs ls h1 h2 h3)
  | some x => exact fun H locs ls h1 h2 h3 => lv_aload C.1 C.2.1 hd (lv_at h3 j hl) (kk H locs ls h1 h2 h3)
theorem r_istore_n (C : jC p l s m args meth c g own cc nL rt) {i : Fin 4} {x : Int32} (pc' : Nat) (hp : pc + 1 = pc') (lv' : List (Nat × Value)) (hd : decode cc pc = .ok (.istore_n i, 1)) (hn : (i : Nat) < nL) (hl : ((i : Nat), Value.int x) :: lv.filter (fun q => !(q.1 == (i : Nat)) && !(q.1 + 1 == (i : Nat) && q.2.category == 2)) = lv') (kk : jW p l e R s m args below meth c g Q k n pc' lv' st σ) : jW p l e R s m args below meth c g Q k n pc lv (.int x :: st) σ := by
  subst hp; exact fun H locs ls h1 h2 h3 => lv_istore_n C.1 C.2.1 hd rfl h3 (by rw [C.2.2.1]; exact hn) hl (fun ls' h3' => kk H locs ls' h1 h2 h3')
theorem r_istore (C : jC p l s m args meth c g own cc nL rt) {i : Nat} {x : Int32} (pc' : Nat) (hp : pc + 2 = pc') (lv' : List (Nat × Value)) (hd : decode cc pc = .ok (.istore i, 2)) (hn : i < nL) (hl : (i, Value.int x) :: lv.filter (fun q => !(q.1 == i) && !(q.1 + 1 == i && q.2.category == 2)) = lv') (kk : jW p l e R s m args below meth c g Q k n pc' lv' st σ) : jW p l e R s m args below meth c g Q k n pc lv (.int x :: st) σ := by
  subst hp; exact fun H locs ls h1 h2 h3 => lv_istore C.1 C.2.1 hd h3 (by rw [C.2.2.1]; exact hn) hl (fun ls' h3' => kk H locs ls' h1 h2 h3')
theorem r_astore_n (C : jC p l s m args meth c g own cc nL rt) {i : Fin 4} {x : Option Nat} (pc' : Nat) (hp : pc + 1 = pc') (lv' : List (Nat × Value)) (hd : decode cc pc = .ok (.astore_n i, 1)) (hn : (i : Nat) < nL) (hl : ((i : Nat), va_rf x) :: lv.filter (fun q => !(q.1 == (i : Nat)) && !(q.1 + 1 == (i : Nat) && q.2.category == 2)) = lv') (kk : jW p l e R s m args below meth c g Q k n pc' lv' st σ) : jW p l e R s m args below meth c g Q k n pc lv (va_rf x :: st) σ := by
  subst hp
  cases x with
  | none => exact fun H locs ls h1 h2 h3 => lv_astore_nN C.1 C.2.1 hd rfl h3 (by rw [C.2.2.1]; exact hn) hl (fun ls' h3' => kk H locs ls' h1 h2 h3')
  | some x => exact fun H locs ls h1 h2 h3 => lv_astore_n C.1 C.2.1 hd rfl h3 (by rw [C.2.2.1]; exact hn) hl (fun ls' h3' => kk H locs ls' h1 h2 h3')
theorem r_astore (C : jC p l s m args meth c g own cc nL rt) {i : Nat} {x : Option Nat} (pc' : Nat) (hp : pc + 2 = pc') (lv' : List (Nat × Value)) (hd : decode cc pc = .ok (.astore i, 2)) (hn : i < nL) (hl : (i, va_rf x) :: lv.filter (fun q => !(q.1 == i) && !(q.1 + 1 == i && q.2.category == 2)) = lv') (kk : jW p l e R s m args below meth c g Q k n pc' lv' st σ) : jW p l e R s m args below meth c g Q k n pc lv (va_rf x :: st) σ := by
  subst hp
  cases x with
  | none => exact fun H locs ls h1 h2 h3 => lv_astoreN C.1 C.2.1 hd h3 (by rw [C.2.2.1]; exact hn) hl (fun ls' h3' => kk H locs ls' h1 h2 h3')
  | some x => exact fun H locs ls h1 h2 h3 => lv_astore C.1 C.2.1 hd h3 (by rw [C.2.2.1]; exact hn) hl (fun ls' h3' => kk H locs ls' h1 h2 h3')
theorem r_iinc (C : jC p l s m args meth c g own cc nL rt) {i : Nat} {z : Int} {x v : Int32} (pc' : Nat) (hp : pc + 3 = pc') (j : Nat) (lv' : List (Nat × Value)) (hd : decode cc pc = .ok (.iinc i z, 3)) (hk : lv[j]? = some (i, .int x)) (hv : x + Int32.ofInt z = v) (hn : i < nL) (hl : (i, Value.int v) :: lv.filter (fun q => !(q.1 == i) && !(q.1 + 1 == i && q.2.category == 2)) = lv') (kk : jW p l e R s m args below meth c g Q k n pc' lv' st σ) : jW p l e R s m args below meth c g Q k n pc lv st σ := by
  subst hp; exact fun H locs ls h1 h2 h3 => lv_iinc C.1 C.2.1 hd h3 hk hv (by rw [C.2.2.1]; exact hn) hl (fun ls' h3' => kk H locs ls' h1 h2 h3')
theorem r_iadd (C : jC p l s m args meth c g own cc nL rt) {x y : Int32} (pc' : Nat) (hp : pc + 1 = pc') (hd : decode cc pc = .ok (.iadd, 1)) (kk : jW p l e R s m args below meth c g Q k n pc' lv (.int (x + y) :: st) σ) : jW p l e R s m args below meth c g Q k n pc lv (.int y :: .int x :: st) σ := by
  subst hp; exact fun H locs ls h1 h2 h3 => lv_iadd C.1 C.2.1 hd (kk H locs ls h1 h2 h3)
theorem r_isub (C : jC p l s m args meth c g own cc nL rt) {x y : Int32} (pc' : Nat) (hp : pc + 1 = pc') (hd : decode cc pc = .ok (.isub, 1)) (kk : jW p l e R s m args below meth c g Q k n pc' lv (.int (x - y) :: st) σ) : jW p l e R s m args below meth c g Q k n pc lv (.int y :: .int x :: st) σ := by
  subst hp; exact fun H locs ls h1 h2 h3 => lv_isub C.1 C.2.1 hd (kk H locs ls h1 h2 h3)
theorem r_imul (C : jC p l s m args meth c g own cc nL rt) {x y : Int32} (pc' : Nat) (hp : pc + 1 = pc') (hd : decode cc pc = .ok (.imul, 1)) (kk : jW p l e R s m args below meth c g Q k n pc' lv (.int (x * y) :: st) σ) : jW p l e R s m args below meth c g Q k n pc lv (.int y :: .int x :: st) σ := by
  subst hp; exact fun H locs ls h1 h2 h3 => lv_imul C.1 C.2.1 hd (kk H locs ls h1 h2 h3)
theorem r_iand (C : jC p l s m args meth c g own cc nL rt) {x y : Int32} (pc' : Nat) (hp : pc + 1 = pc') (hd : decode cc pc = .ok (.iand, 1)) (kk : jW p l e R s m args below meth c g Q k n pc' lv (.int (x &&& y) :: st) σ) : jW p l e R s m args below meth c g Q k n pc lv (.int y :: .int x :: st) σ := by
  subst hp; exact fun H locs ls h1 h2 h3 => lv_iand C.1 C.2.1 hd (kk H locs ls h1 h2 h3)
theorem r_ior (C : jC p l s m args meth c g own cc nL rt) {x y : Int32} (pc' : Nat) (hp : pc + 1 = pc') (hd : decode cc pc = .ok (.ior, 1)) (kk : jW p l e R s m args below meth c g Q k n pc' lv (.int (x ||| y) :: st) σ) : jW p l e R s m args below meth c g Q k n pc lv (.int y :: .int x :: st) σ := by
  subst hp; exact fun H locs ls h1 h2 h3 => lv_ior C.1 C.2.1 hd (kk H locs ls h1 h2 h3)
theorem r_ishl (C : jC p l s m args meth c g own cc nL rt) {x y : Int32} (pc' : Nat) (hp : pc + 1 = pc') (hd : decode cc pc = .ok (.ishl, 1)) (kk : jW p l e R s m args below meth c g Q k n pc' lv (.int (x <<< (y &&& 31)) :: st) σ) : jW p l e R s m args below meth c g Q k n pc lv (.int y :: .int x :: st) σ := by
  subst hp; exact fun H locs ls h1 h2 h3 => lv_ishl C.1 C.2.1 hd (kk H locs ls h1 h2 h3)
theorem r_ishr (C : jC p l s m args meth c g own cc nL rt) {x y : Int32} (pc' : Nat) (hp : pc + 1 = pc') (hd : decode cc pc = .ok (.ishr, 1)) (kk : jW p l e R s m args below meth c g Q k n pc' lv (.int (x >>> (y &&& 31)) :: st) σ) : jW p l e R s m args below meth c g Q k n pc lv (.int y :: .int x :: st) σ := by
  subst hp; exact fun H locs ls h1 h2 h3 => lv_ishr C.1 C.2.1 hd (kk H locs ls h1 h2 h3)
theorem r_idiv (C : jC p l s m args meth c g own cc nL rt) {x y : Int32} (pc' : Nat) (hp : pc + 1 = pc') (hd : decode cc pc = .ok (.idiv, 1)) (hne : ¬ y = 0) (kk : jW p l e R s m args below meth c g Q k n pc' lv (.int (x / y) :: st) σ) : jW p l e R s m args below meth c g Q k n pc lv (.int y :: .int x :: st) σ := by
  subst hp; exact fun H locs ls h1 h2 h3 => lv_idiv C.1 C.2.1 hd hne (kk H locs ls h1 h2 h3)
theorem r_irem (C : jC p l s m args meth c g own cc nL rt) {x y : Int32} (pc' : Nat) (hp : pc + 1 = pc') (hd : decode cc pc = .ok (.irem, 1)) (hne : ¬ y = 0) (kk : jW p l e R s m args below meth c g Q k n pc' lv (.int (x - x / y * y) :: st) σ) : jW p l e R s m args below meth c g Q k n pc lv (.int y :: .int x :: st) σ := by
  subst hp; exact fun H locs ls h1 h2 h3 => lv_irem C.1 C.2.1 hd hne (kk H locs ls h1 h2 h3)
theorem r_idivz (C : jC p l s m args meth c g own cc nL rt) {x y : Int32} {K : jR} (pc' : Nat) (hp : pc + 1 = pc') (hd : decode cc pc = .ok (.idiv, 1)) (h : jnz y K = some X) (kk : K = some X → jW p l e R s m args below meth c g Q k n pc' lv (.int (x / y) :: st) σ) : jW p l e R s m args below meth c g Q k n pc lv (.int y :: .int x :: st) σ := by
  obtain ⟨hne, h⟩ := jif_some h
  exact r_idiv C pc' hp hd hne (kk h)
theorem r_iremz (C : jC p l s m args meth c g own cc nL rt) {x y : Int32} {K : jR} (pc' : Nat) (hp : pc + 1 = pc') (hd : decode cc pc = .ok (.irem, 1)) (h : jnz y K = some X) (kk : K = some X → jW p l e R s m args below meth c g Q k n pc' lv (.int (x - x / y * y) :: st) σ) : jW p l e R s m args below meth c g Q k n pc lv (.int y :: .int x :: st) σ := by
  obtain ⟨hne, h⟩ := jif_some h
  exact r_irem C pc' hp hd hne (kk h)
theorem r_i2c (C : jC p l s m args meth c g own cc nL rt) {x : Int32} (pc' : Nat) (hp : pc + 1 = pc') (hd : decode cc pc = .ok (.i2c, 1)) (kk : jW p l e R s m args below meth c g Q k n pc' lv (.int (x.toUInt32 % 65536).toInt32 :: st) σ) : jW p l e R s m args below meth c g Q k n pc lv (.int x :: st) σ := by
  subst hp; exact fun H locs ls h1 h2 h3 => lv_i2c C.1 C.2.1 hd rfl (kk H locs ls h1 h2 h3)
theorem r_dup (C : jC p l s m args meth c g own cc nL rt) {v : Value} (pc' : Nat) (hp : pc + 1 = pc') (hd : decode cc pc = .ok (.dup, 1)) (hv : v.category = 1) (kk : jW p l e R s m args below meth c g Q k n pc' lv (v :: v :: st) σ) : jW p l e R s m args below meth c g Q k n pc lv (v :: st) σ := by
  subst hp; exact fun H locs ls h1 h2 h3 => lv_dup C.1 C.2.1 hd hv (kk H locs ls h1 h2 h3)
theorem r_dup2 (C : jC p l s m args meth c g own cc nL rt) {v w : Value} (pc' : Nat) (hp : pc + 1 = pc') (hd : decode cc pc = .ok (.dup2, 1)) (hv : v.category = 1) (hw : w.category = 1) (kk : jW p l e R s m args below meth c g Q k n pc' lv (v :: w :: v :: w :: st) σ) : jW p l e R s m args below meth c g Q k n pc lv (v :: w :: st) σ := by
  subst hp; exact fun H locs ls h1 h2 h3 => lv_dup2_11 C.1 C.2.1 hd hv hw (kk H locs ls h1 h2 h3)
theorem r_pop (C : jC p l s m args meth c g own cc nL rt) {v : Value} (pc' : Nat) (hp : pc + 1 = pc') (hd : decode cc pc = .ok (.pop, 1)) (hv : v.category = 1) (kk : jW p l e R s m args below meth c g Q k n pc' lv st σ) : jW p l e R s m args below meth c g Q k n pc lv (v :: st) σ := by
  subst hp; exact fun H locs ls h1 h2 h3 => lv_pop C.1 C.2.1 hd hv (kk H locs ls h1 h2 h3)
theorem r_goto (C : jC p l s m args meth c g own cc nL rt) {off : Int} (pc' : Nat) (hd : decode cc pc = .ok (.goto off, 3)) (ht : (pc : Int) + off = (pc' : Int)) (kk : jW p l e R s m args below meth c g Q k n pc' lv st σ) : jW p l e R s m args below meth c g Q k n pc lv st σ :=
  fun H locs ls h1 h2 h3 => lv_goto C.1 C.2.1 hd ht (kk H locs ls h1 h2 h3)
/-- fewer of the locals are remembered -/
theorem r_lv (is : List Nat) (h : lv_pick lv is = lv') (kk : jW p l e R s m args below meth c g Q k n pc lv' st σ) : jW p l e R s m args below meth c g Q k n pc lv st σ :=
  fun H locs ls h1 h2 h3 => kk H locs ls h1 h2 (lv_sub h3 is h)
theorem r_widen {k' n' : Nat} (hk : k ≤ k') (hn : n ≤ n') (kk : jW p l e R s m args below meth c g Q k' n' pc lv st σ) : jW p l e R s m args below meth c g Q k n pc lv st σ :=
  fun H locs ls h1 h2 h3 => W.widen hk hn (kk H locs ls h1 h2 h3)
theorem r_icmp_eq (C : jC p l s m args meth c g own cc nL rt) {x y : Int32} {off : Int} {A B : jR} {dec : Decidable (x = y)} (pc1 pc2 : Nat) (hp : pc + 3 = pc2) (hd : decode cc pc = .ok (.if_icmp .eq off, 3)) (ht : (pc : Int) + off = (pc1 : Int)) (h : (@ite _ (x = y) dec A B) = some X) (kt : A = some X → jW p l e R s m args below meth c g Q k n pc1 lv st σ) (kf : B = some X → jW p l e R s m args below meth c g Q k n pc2 lv st σ) : jW p l e R s m args below meth c g Q k n pc lv (.int y :: .int x :: st) σ := by
  subst hp; exact fun H locs ls h1 h2 h3 => lv_icmp_eq C.1 C.2.1 hd ht (fun q => kt (by rw [if_pos q] at h; exact h) H locs ls h1 h2 h3) (fun q => kf (by rw [if_neg q] at h; exact h) H locs ls h1 h2 h3)
theorem r_if_eq (C : jC p l s m args meth c g own cc nL rt) {x : Int32} {off : Int} {A B : jR} {dec : Decidable (x = 0)} (pc1 pc2 : Nat) (hp : pc + 3 = pc2) (hd : decode cc pc = .ok (.ifCond .eq off, 3)) (ht : (pc : Int) + off = (pc1 : Int)) (h : (@ite _ (x = 0) dec A B) = some X) (kt : A = some X → jW p l e R s m args below meth c g Q k n pc1 lv st σ) (kf : B = some X → jW p l e R s m args below meth c g Q k n pc2 lv st σ) : jW p l e R s m args below meth c g Q k n pc lv (.int x :: st) σ := by
  subst hp; exact fun H locs ls h1 h2 h3 => lv_if_eq C.1 C.2.1 hd ht (fun q => kt (by rw [if_pos q] at h; exact h) H locs ls h1 h2 h3) (fun q => kf (by rw [if_neg q] at h; exact h) H locs ls h1 h2 h3)
theorem r_icmp_lt (C : jC p l s m args meth c g own cc nL rt) {x y : Int32} {off : Int} {A B : jR} {dec : Decidable (x < y)} (pc1 pc2 : Nat) (hp : pc + 3 = pc2) (hd : decode cc pc = .ok (.if_icmp .lt off, 3)) (ht : (pc : Int) + off = (pc1 : Int)) (h : (@ite _ (x < y) dec A B) = some X) (kt : A = some X → jW p l e R s m args below meth c g Q k n pc1 lv st σ) (kf : B = some X → jW p l e R s m args below meth c g Q k n pc2 lv st σ) : jW p l e R s m args below meth c g Q k n pc lv (.int y :: .int x :: st) σ := by
  subst hp; exact fun H locs ls h1 h2 h3 => lv_icmp_lt C.1 C.2.1 hd ht (fun q => kt (by rw [if_pos q] at h; exact h) H locs ls h1 h2 h3) (fun q => kf (by rw [if_neg q] at h; exact h) H locs ls h1 h2 h3)
theorem r_if_lt (C : jC p l s m args meth c g own cc nL rt) {x : Int32} {off : Int} {A B : jR} {dec : Decidable (x < 0)} (pc1 pc2 : Nat) (hp : pc + 3 = pc2) (hd : decode cc pc = .ok (.ifCond .lt off, 3)) (ht : (pc : Int) + off = (pc1 : Int)) (h : (@ite _ (x < 0) dec A B) = some X) (kt : A = some X → jW p l e R s m args below meth c g Q k n pc1 lv st σ) (kf : B = some X → jW p l e R s m args below meth c g Q k n pc2 lv st σ) : jW p l e R s m args below meth c g Q k n pc lv (.int x :: st) σ := by
  subst hp; exact fun H locs ls h1 h2 h3 => lv_if_lt C.1 C.2.1 hd ht (fun q => kt (by rw [if_pos q] at h; exact h) H locs ls h1 h2 h3) (fun q => kf (by rw [if_neg q] at h; exact h) H locs ls h1 h2 h3)
theorem r_icmp_ge (C : jC p l s m args meth c g own cc nL rt) {x y : Int32} {off : Int} {A B : jR} {dec : Decidable (y ≤ x)} (pc1 pc2 : Nat) (hp : pc + 3 = pc2) (hd : decode cc pc = .ok (.if_icmp .ge off, 3)) (ht : (pc : Int) + off = (pc1 : Int)) (h : (@ite _ (y ≤ x) dec A B) = some X) (kt : A = some X → jW p l e R s m args below meth c g Q k n pc1 lv st σ) (kf : B = some X → jW p l e R s m args below meth c g Q k n pc2 lv st σ) : jW p l e R s m args below meth c g Q k n pc lv (.int y :: .int x :: st) σ := by
  subst hp; exact fun H locs ls h1 h2 h3 => lv_icmp_ge C.1 C.2.1 hd ht (fun q => kt (by rw [if_pos q] at h; exact h) H locs ls h1 h2 h3) (fun q => kf (by rw [if_neg q] at h; exact h) H locs ls h1 h2 h3)
theorem r_if_ge (C : jC p l s m args meth c g own cc nL rt) {x : Int32} {off : Int} {A B : jR} {dec : Decidable (0 ≤ x)} (pc1 pc2 : Nat) (hp : pc + 3 = pc2) (hd : decode cc pc = .ok (.ifCond .ge off, 3)) (ht : (pc : Int) + off = (pc1 : Int)) (h : (@ite _ (0 ≤ x) dec A B) = some X) (kt : A = some X → jW p l e R s m args below meth c g Q k n pc1 lv st σ) (kf : B = some X → jW p l e R s m args below meth c g Q k n pc2 lv st σ) : jW p l e R s m args below meth c g Q k n pc lv (.int x :: st) σ := by
  subst hp; exact fun H locs ls h1 h2 h3 => lv_if_ge C.1 C.2.1 hd ht (fun q => kt (by rw [if_pos q] at h; exact h) H locs ls h1 h2 h3) (fun q => kf (by rw [if_neg q] at h; exact h) H locs ls h1 h2 h3)
theorem r_icmp_gt (C : jC p l s m args meth c g own cc nL rt) {x y : Int32} {off : Int} {A B : jR} {dec : Decidable (y < x)} (pc1 pc2 : Nat) (hp : pc + 3 = pc2) (hd : decode cc pc = .ok (.if_icmp .gt off, 3)) (ht : (pc : Int) + off = (pc1 : Int)) (h : (@ite _ (y < x) dec A B) = some X) (kt : A = some X → jW p l e R s m args below meth c g Q k n pc1 lv st σ) (kf : B = some X → jW p l e R s m args below meth c g Q k n pc2 lv st σ) : jW p l e R s m args below meth c g Q k n pc lv (.int y :: .int x :: st) σ := by
  subst hp; exact fun H locs ls h1 h2 h3 => lv_icmp_gt C.1 C.2.1 hd ht (fun q => kt (by rw [if_pos q] at h; exact h) H locs ls h1 h2 h3) (fun q => kf (by rw [if_neg q] at h; exact h) H locs ls h1 h2 h3)
theorem r_if_gt (C : jC p l s m args meth c g own cc nL rt) {x : Int32} {off : Int} {A B : jR} {dec : Decidable (0 < x)} (pc1 pc2 : Nat) (hp : pc + 3 = pc2) (hd : decode cc pc = .ok (.ifCond .gt off, 3)) (ht : (pc : Int) + off = (pc1 : Int)) (h : (@ite _ (0 < x) dec A B) = some X) (kt : A = some X → jW p l e R s m args below meth c g Q k n pc1 lv st σ) (kf : B = some X → jW p l e R s m args below meth c g Q k n pc2 lv st σ) : jW p l e R s m args below meth c g Q k n pc lv (.int x :: st) σ := by
  subst hp; exact fun H locs ls h1 h2 h3 => lv_if_gt C.1 C.2.1 hd ht (fun q => kt (by rw [if_pos q] at h; exact h) H locs ls h1 h2 h3) (fun q => kf (by rw [if_neg q] at h; exact h) H locs ls h1 h2 h3)
theorem r_icmp_le (C : jC p l s m args meth c g own cc nL rt) {x y : Int32} {off : Int} {A B : jR} {dec : Decidable (x ≤ y)} (pc1 pc2 : Nat) (hp : pc + 3 = pc2) (hd : decode cc pc = .ok (.if_icmp .le off, 3)) (ht : (pc : Int) + off = (pc1 : Int)) (h : (@ite _ (x ≤ y) dec A B) = some X) (kt : A = some X → jW p l e R s m args below meth c g Q k n pc1 lv st σ) (kf : B = some X → jW p l e R s m args below meth c g Q k n pc2 lv st σ) : jW p l e R s m args below meth c g Q k n pc lv (.int y :: .int x :: st) σ := by
  subst hp; exact fun H locs ls h1 h2 h3 => lv_icmp_le C.1 C.2.1 hd ht (fun q => kt (by rw [if_pos q] at h; exact h) H locs ls h1 h2 h3) (fun q => kf (by rw [if_neg q] at h; exact h) H locs ls h1 h2 h3)
theorem r_if_le (C : jC p l s m args meth c g own cc nL rt) {x : Int32} {off : Int} {A B : jR} {dec : Decidable (x ≤ 0)} (pc1 pc2 : Nat) (hp : pc + 3 = pc2) (hd : decode cc pc = .ok (.ifCond .le off, 3)) (ht : (pc : Int) + off = (pc1 : Int)) (h : (@ite _ (x ≤ 0) dec A B) = some X) (kt : A = some X → jW p l e R s m args below meth c g Q k n pc1 lv st σ) (kf : B = some X → jW p l e R s m args below meth c g Q k n pc2 lv st σ) : jW p l e R s m args below meth c g Q k n pc lv (.int x :: st) σ := by
  subst hp; exact fun H locs ls h1 h2 h3 => lv_if_le C.1 C.2.1 hd ht (fun q => kt (by rw [if_pos q] at h; exact h) H locs ls h1 h2 h3) (fun q => kf (by rw [if_neg q] at h; exact h) H locs ls h1 h2 h3)
theorem r_icmp_ne (C : jC p l s m args meth c g own cc nL rt) {x y : Int32} {off : Int} {A B : jR} {dec : Decidable (x = y)} (pc1 pc2 : Nat) (hp : pc + 3 = pc2) (hd : decode cc pc = .ok (.if_icmp .ne off, 3)) (ht : (pc : Int) + off = (pc1 : Int)) (h : (@ite _ (x = y) dec B A) = some X) (kt : A = some X → jW p l e R s m args below meth c g Q k n pc1 lv st σ) (kf : B = some X → jW p l e R s m args below meth c g Q k n pc2 lv st σ) : jW p l e R s m args below meth c g Q k n pc lv (.int y :: .int x :: st) σ := by
  subst hp; exact fun H locs ls h1 h2 h3 => lv_icmp_ne C.1 C.2.1 hd ht (fun q => kt (by rw [if_neg q] at h; exact h) H locs ls h1 h2 h3) (fun q => kf (by rw [if_pos q] at h; exact h) H locs ls h1 h2 h3)
theorem r_if_ne (C : jC p l s m args meth c g own cc nL rt) {x : Int32} {off : Int} {A B : jR} {dec : Decidable (x = 0)} (pc1 pc2 : Nat) (hp : pc + 3 = pc2) (hd : decode cc pc = .ok (.ifCond .ne off, 3)) (ht : (pc : Int) + off = (pc1 : Int)) (h : (@ite _ (x = 0) dec B A) = some X) (kt : A = some X → jW p l e R s m args below meth c g Q k n pc1 lv st σ) (kf : B = some X → jW p l e R s m args below meth c g Q k n pc2 lv st σ) : jW p l e R s m args below meth c g Q k n pc lv (.int x :: st) σ := by
  subst hp; exact fun H locs ls h1 h2 h3 => lv_if_ne C.1 C.2.1 hd ht (fun q => kt (by rw [if_neg q] at h; exact h) H locs ls h1 h2 h3) (fun q => kf (by rw [if_pos q] at h; exact h) H locs ls h1 h2 h3)
theorem r_ifnull (C : jC p l s m args meth c g own cc nL rt) {r : Option Nat} {off : Int} {A : jR} {B : Nat → jR} (pc1 pc2 : Nat) (hp : pc + 3 = pc2) (hd : decode cc pc = .ok (.ifnull off, 3)) (ht : (pc : Int) + off = (pc1 : Int)) (h : jnu r A B = some X) (kt : r = none → A = some X → jW p l e R s m args below meth c g Q k n pc1 lv st σ) (kf : ∀ a, r = some a → B a = some X → jW p l e R s m args below meth c g Q k n pc2 lv st σ) : jW p l e R s m args below meth c g Q k n pc lv (va_rf r :: st) σ := by
  subst hp
  cases r with
  | none => exact fun H locs ls h1 h2 h3 => lv_ifnullN C.1 C.2.1 hd ht (kt rfl h H locs ls h1 h2 h3)
  | some a => exact fun H locs ls h1 h2 h3 => lv_ifnull C.1 C.2.1 hd (kf a rfl h H locs ls h1 h2 h3)
theorem r_ifnonnull (C : jC p l s m args meth c g own cc nL rt) {r : Option Nat} {off : Int} {A : jR} {B : Nat → jR} (pc1 pc2 : Nat) (hp : pc + 3 = pc2) (hd : decode cc pc = .ok (.ifnonnull off, 3)) (ht : (pc : Int) + off = (pc1 : Int)) (h : jnu r A B = some X) (kt : ∀ a, r = some a → B a = some X → jW p l e R s m args below meth c g Q k n pc1 lv st σ) (kf : r = none → A = some X → jW p l e R s m args below meth c g Q k n pc2 lv st σ) : jW p l e R s m args below meth c g Q k n pc lv (va_rf r :: st) σ := by
  subst hp
  cases r with
  | none => exact fun H locs ls h1 h2 h3 => lv_ifnonnullN C.1 C.2.1 hd (kf rfl h H locs ls h1 h2 h3)
  | some a => exact fun H locs ls h1 h2 h3 => lv_ifnonnull C.1 C.2.1 hd ht (kt a rfl h H locs ls h1 h2 h3)
theorem r_aconst (C : jC p l s m args meth c g own cc nL rt) (pc' : Nat) (hp : pc + 1 = pc') (hd : decode cc pc = .ok (.aconst_null, 1)) (kk : jW p l e R s m args below meth c g Q k n pc' lv (va_rf none :: st) σ) : jW p l e R s m args below meth c g Q k n pc lv st σ := by
  subst hp; exact fun H locs ls h1 h2 h3 => lv_null C.1 C.2.1 hd (kk H locs ls h1 h2 h3)
theorem r_dup_x1 (C : jC p l s m args meth c g own cc nL rt) {v w : Value} (pc' : Nat) (hp : pc + 1 = pc') (hd : decode cc pc = .ok (.dup_x1, 1)) (hv : v.category = 1) (hw : w.category = 1) (kk : jW p l e R s m args below meth c g Q k n pc' lv (v :: w :: v :: st) σ) : jW p l e R s m args below meth c g Q k n pc lv (v :: w :: st) σ := by
  subst hp; exact fun H locs ls h1 h2 h3 => lv_dup_x1 C.1 C.2.1 hd hv hw (kk H locs ls h1 h2 h3)
theorem r_ldcI (C : jC p l s m args meth c g own cc nL rt) {i : Nat} {v : Int32} (pc' : Nat) (hp : pc + 2 = pc') (hd : decode cc pc = .ok (.ldc i, 2)) (hw : Cond.constant own i v ∈ gT) (kk : jW p l e R s m args below meth c g Q k n pc' lv (.int v :: st) σ) : jW p l e R s m args below meth c g Q k n pc lv st σ := by
  subst hp; exact fun H locs ls h1 h2 h3 => lv_ldc C.1 C.2.1 C.2.2.2.1 (C.2.2.2.2.1 _ hw) hd (kk H locs ls h1 h2 h3)
end JROWS
end
section
/-! fields -/
/-- field f of a kind of object, as a method of 'own' links it -/
def jFd (own : String) (index ci f : Nat) (isI : Bool) : Prop := ∃ (Cn : String) (T : u_T) (N : Nat), jCl[ci]? = some (Cn, T, N) ∧ f < N ∧ (jfb ci)[f]? = some isI ∧ (∀ w ∈ u_ws Cn T N, w ∈ gT) ∧ Cond.fieldLink own index (T f).1 (T f).2.1 (T f).2.2.1 ∈ gT
/-- which stores a type takes as they are -/
def jPt (isI : Bool) (ty : FieldType) : Prop := (isI = true → ∀ v, narrow ty (.int v) = .int v ∧ fits ty (.int v) = true) ∧ (isI = false → ∀ r, narrow ty (va_rf r) = va_rf r ∧ fits ty (va_rf r) = true)
def jP0 (ty : FieldType) : Prop := narrow ty (.int 0) = .int 0 ∧ fits ty (.int 0) = true
/-- what its stores want more -/
def jFpP (own : String) (index ci f : Nat) (isI fin : Bool) (PT : FieldType → Prop) : Prop := ∃ (Cn : String) (T : u_T) (N : Nat), jCl[ci]? = some (Cn, T, N) ∧ f < N ∧ (jfb ci)[f]? = some isI ∧ (∀ w ∈ u_ws Cn T N, w ∈ gT) ∧ Cond.fieldLink own index (T f).1 (T f).2.1 (T f).2.2.1 ∈ gT ∧
  (T f).2.2.2 = fin ∧ (fin = true → (T f).1 = own) ∧ (jfb ci).length = N ∧ (∃ ty0 : Nat → FieldType, ∀ k, k < N → parseFieldDescriptor (T k).2.2.1 = some (ty0 k)) ∧ (∀ a, a < N → ∀ b, b < N → a ≠ b → (T a).2.1 ≠ (T b).2.1) ∧
  ∃ ty : FieldType, parseFieldDescriptor (T f).2.2.1 = some ty ∧ PT ty
abbrev jFp (own : String) (index ci f : Nat) (isI fin : Bool) : Prop := jFpP own index ci f isI fin (jPt isI)
abbrev jFp0 (own : String) (index ci f : Nat) (fin : Bool) : Prop := jFpP own index ci f true fin jP0
section JHEAP
variable {p : Program} {l : Launch} {e : Env} {R : Room} {s : State} {m : MethodId} {args : Array Value} {below : List Frame} {meth : Method} {c : Code} {g : jG} {Q : State → Prop} {own : String} {cc : ByteArray} {nL k n pc : Nat} {rt : Option FieldType} {lv lv' : List (Nat × Value)} {st : List Value} {σ τ : Hp} {X : jO × Hp} {o : jO} {mc ms : Nat}
theorem r_getI (C : jC p l s m args meth c g own cc nL rt) {index ci f a : Nat} {K : Int32 → jR} (pc' : Nat) (hp : pc + 3 = pc') (hF : jFd own index ci f true) (hd : decode cc pc = .ok (.getfield index, 3)) (h : jgI σ a ci f K = some X)
    (kk : ∀ v, K v = some X → jW p l e R s m args below meth c g Q k n pc' lv (.int v :: st) σ) : jW p l e R s m args below meth c g Q k n pc lv (.ref a :: st) σ := by
  subst hp
  obtain ⟨hk, h⟩ := jif_some h
  obtain ⟨Cn, T, N, f1, f2, f3, f4, f5⟩ := hF
  intro H locs ls h1 h2 h3
  have hP := h1.one hk (jEl_obj hk)
  have hv := jFs_get σ a (jfb ci) 0 f true f3
  rw [Nat.zero_add] at hv
  exact va_get C.1 C.2.1 C.2.2.2.2.1 f4 C.2.2.2.1 C.2.2.2.2.2.2.2.2.1.1 hP 0 rfl f1 f f2 (C.2.2.2.2.1 _ f5) (fun x hx => hx) hv hd (kk _ h H locs ls h1 h2 h3)
theorem r_getR (C : jC p l s m args meth c g own cc nL rt) {index ci f a : Nat} {K : Option Nat → jR} (pc' : Nat) (hp : pc + 3 = pc') (hF : jFd own index ci f false) (hd : decode cc pc = .ok (.getfield index, 3)) (h : jgR σ a ci f K = some X)
    (kk : ∀ v, K v = some X → jW p l e R s m args below meth c g Q k n pc' lv (va_rf v :: st) σ) : jW p l e R s m args below meth c g Q k n pc lv (.ref a :: st) σ := by
  subst hp
  obtain ⟨hk, h⟩ := jif_some h
  obtain ⟨Cn, T, N, f1, f2, f3, f4, f5⟩ := hF
  intro H locs ls h1 h2 h3
  have hP := h1.one hk (jEl_obj hk)
  have hv := jFs_get σ a (jfb ci) 0 f false f3
  rw [Nat.zero_add] at hv
  exact va_get C.1 C.2.1 C.2.2.2.2.1 f4 C.2.2.2.1 C.2.2.2.2.2.2.2.2.1.1 hP 0 rfl f1 f f2 (C.2.2.2.2.1 _ f5) (fun x hx => hx) hv hd (kk _ h H locs ls h1 h2 h3)
/-- a field of a String: one that was made, or a text's -/
theorem r_getIs (C : jC p l s m args meth c g own cc nL rt) {index a : Nat} {K : Int32 → jR} (pc' : Nat) (hp : pc + 3 = pc') (hF : jFd own index 7 1 true) (hl : Cond.fieldLink own index RJ0 "coder" "B" ∈ gT) (hd : decode cc pc = .ok (.getfield index, 3)) (h : jgIs σ a K = some X)
    (kk : ∀ v, K v = some X → jW p l e R s m args below meth c g Q k n pc' lv (.int v :: st) σ) : jW p l e R s m args below meth c g Q k n pc lv (.ref a :: st) σ := by
  obtain ⟨hk, h⟩ := jif_some h
  rcases hk with hk | hk
  · exact r_getI C pc' hp hF hd (show jgI σ a 7 1 K = some X by unfold jgI; rw [if_pos hk]; exact h) kk
  · subst hp
    intro H locs ls h1 h2 h3
    obtain ⟨-, h9⟩ := h1.2.2.2 a (Or.inr hk)
    rcases h9 with ⟨h9, -⟩ | ⟨-, i, hi, rfl, e1, -⟩
    · rw [hk] at h9; cases h9
    · have hz := C.2.2.2.2.2.2.2.2.2.2.2.2.2.2.1
      have := kk _ h H locs ls h1 h2 h3
      rw [e1] at this
      exact vk_getf C.1 C.2.1 (hz.1 i hi).2.1 h2 C.2.2.2.1 (C.2.2.2.2.1 _ hl) (fun x hx => hx) hd this
theorem r_getRs (C : jC p l s m args meth c g own cc nL rt) {index a : Nat} {K : Option Nat → jR} (pc' : Nat) (hp : pc + 3 = pc') (hF : jFd own index 7 0 false) (hl : Cond.fieldLink own index RJ0 "value" "[B" ∈ gT) (hd : decode cc pc = .ok (.getfield index, 3)) (h : jgRs σ a K = some X)
    (kk : ∀ v, K v = some X → jW p l e R s m args below meth c g Q k n pc' lv (va_rf v :: st) σ) : jW p l e R s m args below meth c g Q k n pc lv (.ref a :: st) σ := by
  obtain ⟨hk, h⟩ := jif_some h
  rcases hk with hk | hk
  · exact r_getR C pc' hp hF hd (show jgR σ a 7 0 K = some X by unfold jgR; rw [if_pos hk]; exact h) kk
  · subst hp
    intro H locs ls h1 h2 h3
    obtain ⟨-, h9⟩ := h1.2.2.2 a (Or.inr hk)
    rcases h9 with ⟨h9, -⟩ | ⟨-, i, hi, rfl, -, e1⟩
    · rw [hk] at h9; cases h9
    · have hz := C.2.2.2.2.2.2.2.2.2.2.2.2.2.2.1
      have := kk _ h H locs ls h1 h2 h3
      rw [e1] at this
      exact vk_getf C.1 C.2.1 (hz.1 i hi).2.2.1 h2 C.2.2.2.1 (C.2.2.2.2.1 _ hl) (fun x hx => hx) hd this
/-- the heap behind a store into a field -/
theorem jRel_put {index ci f a : Nat} {H H' : Heap} (h1 : jRel g σ H) (hk : kdH σ a = (1, ci)) {Cn : String} {T : u_T} {N : Nat} (f1 : jCl[ci]? = some (Cn, T, N)) (f2 : f < N) (hN : (jfb ci).length = N)
    (hap : ∀ x y, x < N → y < N → x ≠ y → ((gDs g).2 ci) x ≠ ((gDs g).2 ci) y) {cell : Cell} (q1 : H[a]? = some cell) (q2 : cell.cls = (gDs g).1 ci) (q3 : cell.vm = .none) (q4 : ∀ k, k < N → cell.slots[((gDs g).2 ci) k]? = some (vp_V (jFs σ a 0 (jfb ci)) k))
    {v : Value} (e1 : H'[a]? = some (cell.setSlot (((gDs g).2 ci) f) v)) (e2 : H'.size = H.size) (e3 : ∀ q, q ≠ a → H'[q]? = H[q]?) (t1 : tpH τ = tpH σ) (t2 : kdH τ = kdH σ) (hi : ∀ q, q ≠ a → ∀ j, inH τ q j = inH σ q j) (hr : ∀ q, q ≠ a → ∀ j, rfH τ q j = rfH σ q j)
    (hv : (jFs σ a 0 (jfb ci)).set f v = jFs τ a 0 (jfb ci)) : jRel g τ H' := by
  refine h1.upd (a := a) (h1.my hk).1 t1 t2 ?_ e2 e3 hi hr
  rw [jEl_obj (by rw [t2]; exact hk)]
  refine ⟨_, f1, ?_⟩
  have hl : f < (jFs σ a 0 (jfb ci)).length := by rw [jFs_len, hN]; exact f2
  have := t_OB.to (V' := vp_V ((jFs σ a 0 (jfb ci)).set f v)) (o := a) (cC := (gDs g).1 ci) (N := N) (iS := (gDs g).2 ci) (H := H') (V := updV (vp_V (jFs σ a 0 (jfb ci))) f v) ⟨_, e1, q2, q3, t_set q4 hap f2 v⟩ (fun j _ => vp_updV_set hl v j)
  rw [hv] at this
  exact this
theorem inS_ne {a f : Nat} {v : Int32} {q : Nat} (hq : q ≠ a) (j : Nat) : inH (inS σ a f v) q j = inH σ q j := by show u2 (inH σ) a f v q j = _; simp [u2, hq]
theorem rfS_ne {a f : Nat} {v : Option Nat} {q : Nat} (hq : q ≠ a) (j : Nat) : rfH (rfS σ a f v) q j = rfH σ q j := by show u2 (rfH σ) a f v q j = _; simp [u2, hq]
theorem cpS_ne {a sp dp z : Nat} {q : Nat} (hq : q ≠ a) (j : Nat) : inH (cpS σ a sp dp z) q j = inH σ q j := by simp only [inH, cpS, u1]; rw [if_neg hq]
/-- a store into a field, of either kind -/
theorem r_putG (C : jC p l s m args meth c g own cc nL rt) {index ci f a : Nat} {isI : Bool} {PT : FieldType → Prop} (hF : jFpP own index ci f isI false PT) (hd : decode cc pc = .ok (.putfield index, 3)) (hk : kdH σ a = (1, ci)) {v : Value} (hv : ∀ ty, PT ty → narrow ty v = v ∧ fits ty v = true)
    (hset : (jfb ci)[f]? = some isI → (jFs σ a 0 (jfb ci)).set f v = jFs τ a 0 (jfb ci)) (t1 : tpH τ = tpH σ) (t2 : kdH τ = kdH σ) (hi9 : ∀ q, q ≠ a → ∀ j, inH τ q j = inH σ q j) (hr9 : ∀ q, q ≠ a → ∀ j, rfH τ q j = rfH σ q j)
    (kk : jW p l e R s m args below meth c g Q k n (pc + 3) lv st τ) : jW p l e R s m args below meth c g Q k n pc lv (v :: .ref a :: st) σ := by
  obtain ⟨Cn, T, N, f1, f2, f3, f4, f5, f7, f8, f9, ⟨ty0, f10⟩, f11, ty, f12, f13⟩ := hF
  obtain ⟨n1, n2⟩ := hv ty f13
  intro H locs ls h1 h2 h3
  have hK := C.2.2.2.2.2.2.2.2.1.1
  have hap := va_apart (own := own) C.2.2.2.2.1 f4 ty0 f10 f11 hK f1
  obtain ⟨r, g1, cell, q1, q2, q3, q4⟩ := (h1.one hk (jEl_obj hk)) 0 _ rfl
  have hr : r = (Cn, T, N) := Option.some.inj (g1.symm.trans f1)
  subst hr
  obtain ⟨hS, hfc, kC, hkC, hkind⟩ := hK.1 ci _ f1
  obtain ⟨cf, kf, fi, fd, hi, hsl⟩ := hS f f2
  have hlay := C.2.2.2.2.1 _ (f4 _ (u_in_lay f2))
  unfold u_lay at hlay
  rw [if_neg (by rw [f7]; decide)] at hlay
  have hst := (u_facts hfc hkC (u_lays C.2.2.2.2.1 f4 f2) hi).1
  have h6 := u_store hfc hkC hkind hlay hi f12 n1 n2
  refine W.putK C.1 C.2.1 (f := fd) ⟨C.2.2.2.1, C.2.2.2.2.1 _ f5, ⟨_, _, _, hi⟩, hst⟩ (by rw [q2]; exact h6) q1 q3 (by rw [hsl]; exact k2_hasslot (q4 f f2)) rfl rfl hd fun H' e1 e2 e3 => ?_
  rw [hsl] at e1 ⊢
  exact kk H' _ ls (jRel_put (index := index) h1 hk f1 f2 f9 hap q1 q2 q3 q4 e1 e2 e3 t1 t2 hi9 hr9 (hset f3)) (h2.put e2 e3 (h1.my hk).1) h3
/-- a store into a final field, in its own class's constructor -/
theorem r_putGF (C : jC p l s m args meth c g own cc nL rt) (hin2 : meth.name = "<init>") {index ci f a : Nat} {isI : Bool} {PT : FieldType → Prop} (hF : jFpP own index ci f isI true PT) (hd : decode cc pc = .ok (.putfield index, 3)) (hk : kdH σ a = (1, ci)) {v : Value} (hv : ∀ ty, PT ty → narrow ty v = v ∧ fits ty v = true)
    (hset : (jfb ci)[f]? = some isI → (jFs σ a 0 (jfb ci)).set f v = jFs τ a 0 (jfb ci)) (t1 : tpH τ = tpH σ) (t2 : kdH τ = kdH σ) (hi9 : ∀ q, q ≠ a → ∀ j, inH τ q j = inH σ q j) (hr9 : ∀ q, q ≠ a → ∀ j, rfH τ q j = rfH σ q j)
    (kk : jW p l e R s m args below meth c g Q k n (pc + 3) lv st τ) : jW p l e R s m args below meth c g Q k n pc lv (v :: .ref a :: st) σ := by
  obtain ⟨Cn, T, N, f1, f2, f3, f4, f5, f7, f8, f9, ⟨ty0, f10⟩, f11, ty, f12, f13⟩ := hF
  obtain ⟨n1, n2⟩ := hv ty f13
  intro H locs ls h1 h2 h3
  have hK := C.2.2.2.2.2.2.2.2.1.1
  have hown := C.2.2.2.1
  have hap := va_apart (own := own) C.2.2.2.2.1 f4 ty0 f10 f11 hK f1
  obtain ⟨r, g1, cell, q1, q2, q3, q4⟩ := (h1.one hk (jEl_obj hk)) 0 _ rfl
  have hr : r = (Cn, T, N) := Option.some.inj (g1.symm.trans f1)
  subst hr
  obtain ⟨hS, hfc, kC, hkC, hkind⟩ := hK.1 ci _ f1
  obtain ⟨cf, kf, fi, fd, hi, hsl⟩ := hS f f2
  have hlay := C.2.2.2.2.1 _ (f4 _ (u_in_lay f2))
  unfold u_lay at hlay
  rw [if_pos f7] at hlay
  have hst := (u_facts hfc hkC (u_lays C.2.2.2.2.1 f4 f2) hi).1
  have hcf : m.cls = cf := by
    obtain ⟨_, _, c', _, _, _, -, -, hf', -, -, -, hown2, -⟩ := Cond.laysFinal_spec hlay
    have e1 : c' = cf := by have := hi.symm.trans hf'; simp at this; exact this.1.symm
    rw [f8 rfl] at hown2
    rw [← e1]; exact Option.some.inj (hown.symm.trans hown2)
  have h6 := u_fits hfc hkC hkind (Or.inr hlay) hi f12 n1 n2
  refine W.putFinK C.1 C.2.1 hown (C.2.2.2.2.1 _ f5) hi hst hcf hin2 (by rw [q2]; exact h6) q1 q3 (by rw [hsl]; exact k2_hasslot (q4 f f2)) rfl rfl hd fun H' e1 e2 e3 => ?_
  rw [hsl] at e1 ⊢
  exact kk H' _ ls (jRel_put (index := index) h1 hk f1 f2 f9 hap q1 q2 q3 q4 e1 e2 e3 t1 t2 hi9 hr9 (hset f3)) (h2.put e2 e3 (h1.my hk).1) h3
theorem r_putI (C : jC p l s m args meth c g own cc nL rt) {index ci f a : Nat} {v : Int32} {K : Hp → jR} (pc' : Nat) (hp : pc + 3 = pc') (hF : jFp own index ci f true false) (hd : decode cc pc = .ok (.putfield index, 3)) (h : jpI σ a ci f v K = some X)
    (kk : ∀ τ, K τ = some X → jW p l e R s m args below meth c g Q k n pc' lv st τ) : jW p l e R s m args below meth c g Q k n pc lv (.int v :: .ref a :: st) σ := by
  subst hp
  obtain ⟨hk, h⟩ := jif_some h
  exact r_putG (τ := inS σ a f v) C hF hd hk (fun ty q => q.1 rfl v) (fun f3 => by rw [jFs_setI σ a v _ 0 f f3, Nat.zero_add]) rfl rfl (fun q hq j => inS_ne hq j) (fun q hq j => rfl) (kk _ h)
theorem r_putR (C : jC p l s m args meth c g own cc nL rt) {index ci f a : Nat} {v : Option Nat} {K : Hp → jR} (pc' : Nat) (hp : pc + 3 = pc') (hF : jFp own index ci f false false) (hd : decode cc pc = .ok (.putfield index, 3)) (h : jpR σ a ci f v K = some X)
    (kk : ∀ τ, K τ = some X → jW p l e R s m args below meth c g Q k n pc' lv st τ) : jW p l e R s m args below meth c g Q k n pc lv (va_rf v :: .ref a :: st) σ := by
  subst hp
  obtain ⟨hk, h⟩ := jif_some h
  exact r_putG (τ := rfS σ a f v) C hF hd hk (fun ty q => q.2 rfl v) (fun f3 => by rw [jFs_setR σ a v _ 0 f f3, Nat.zero_add]) rfl rfl (fun q hq j => rfl) (fun q hq j => rfS_ne hq j) (kk _ h)
theorem r_putIF (C : jC p l s m args meth c g own cc nL rt) (hin2 : meth.name = "<init>") {index ci f a : Nat} {v : Int32} {K : Hp → jR} (pc' : Nat) (hp : pc + 3 = pc') (hF : jFp own index ci f true true) (hd : decode cc pc = .ok (.putfield index, 3)) (h : jpI σ a ci f v K = some X)
    (kk : ∀ τ, K τ = some X → jW p l e R s m args below meth c g Q k n pc' lv st τ) : jW p l e R s m args below meth c g Q k n pc lv (.int v :: .ref a :: st) σ := by
  subst hp
  obtain ⟨hk, h⟩ := jif_some h
  exact r_putGF (τ := inS σ a f v) C hin2 hF hd hk (fun ty q => q.1 rfl v) (fun f3 => by rw [jFs_setI σ a v _ 0 f f3, Nat.zero_add]) rfl rfl (fun q hq j => inS_ne hq j) (fun q hq j => rfl) (kk _ h)
theorem r_putRF (C : jC p l s m args meth c g own cc nL rt) (hin2 : meth.name = "<init>") {index ci f a : Nat} {v : Option Nat} {K : Hp → jR} (pc' : Nat) (hp : pc + 3 = pc') (hF : jFp own index ci f false true) (hd : decode cc pc = .ok (.putfield index, 3)) (h : jpR σ a ci f v K = some X)
    (kk : ∀ τ, K τ = some X → jW p l e R s m args below meth c g Q k n pc' lv st τ) : jW p l e R s m args below meth c g Q k n pc lv (va_rf v :: .ref a :: st) σ := by
  subst hp
  obtain ⟨hk, h⟩ := jif_some h
  exact r_putGF (τ := rfS σ a f v) C hin2 hF hd hk (fun ty q => q.2 rfl v) (fun f3 => by rw [jFs_setR σ a v _ 0 f f3, Nat.zero_add]) rfl rfl (fun q hq j => rfl) (fun q hq j => rfS_ne hq j) (kk _ h)
theorem r_putI0 (C : jC p l s m args meth c g own cc nL rt) {index ci f a : Nat} {K : Hp → jR} (pc' : Nat) (hp : pc + 3 = pc') (hF : jFp0 own index ci f false) (hd : decode cc pc = .ok (.putfield index, 3)) (h : jpI σ a ci f 0 K = some X)
    (kk : ∀ τ, K τ = some X → jW p l e R s m args below meth c g Q k n pc' lv st τ) : jW p l e R s m args below meth c g Q k n pc lv (.int 0 :: .ref a :: st) σ := by
  subst hp
  obtain ⟨hk, h⟩ := jif_some h
  exact r_putG (τ := inS σ a f 0) C hF hd hk (fun ty q => q) (fun f3 => by rw [jFs_setI σ a 0 _ 0 f f3, Nat.zero_add]) rfl rfl (fun q hq j => inS_ne hq j) (fun q hq j => rfl) (kk _ h)
theorem r_putI0F (C : jC p l s m args meth c g own cc nL rt) (hin2 : meth.name = "<init>") {index ci f a : Nat} {K : Hp → jR} (pc' : Nat) (hp : pc + 3 = pc') (hF : jFp0 own index ci f true) (hd : decode cc pc = .ok (.putfield index, 3)) (h : jpI σ a ci f 0 K = some X)
    (kk : ∀ τ, K τ = some X → jW p l e R s m args below meth c g Q k n pc' lv st τ) : jW p l e R s m args below meth c g Q k n pc lv (.int 0 :: .ref a :: st) σ := by
  subst hp
  obtain ⟨hk, h⟩ := jif_some h
  exact r_putGF (τ := inS σ a f 0) C hin2 hF hd hk (fun ty q => q) (fun f3 => by rw [jFs_setI σ a 0 _ 0 f f3, Nat.zero_add]) rfl rfl (fun q hq j => inS_ne hq j) (fun q hq j => rfl) (kk _ h)
/-! arrays -/
theorem jk2 {a t : Nat} (h : (kdH σ a).1 = t) : kdH σ a = (t, (kdH σ a).2) := by rw [← h]
theorem r_alen (C : jC p l s m args meth c g own cc nL rt) {a t : Nat} {K : Int32 → jR} (pc' : Nat) (hp : pc + 1 = pc') (ht : t = 2 ∨ t = 5) (hd : decode cc pc = .ok (.arraylength, 1)) (h : jal σ a t K = some X)
    (kk : ∀ v, K v = some X → jW p l e R s m args below meth c g Q k n pc' lv (.int v :: st) σ) : jW p l e R s m args below meth c g Q k n pc lv (.ref a :: st) σ := by
  subst hp
  obtain ⟨hk, h'⟩ := jif_some h
  have hK := C.2.2.2.2.2.2.2.2.1.1
  intro H locs ls h1 h2 h3
  rcases ht with rfl | rfl
  · exact va_alen C.1 C.2.1 hK (h1.one (jk2 hk) (jEl_int (jk2 hk))) 0 0 rfl rfl rfl hd (kk _ h' H locs ls h1 h2 h3)
  · exact va_alen C.1 C.2.1 hK (h1.one (jk2 hk) (jEl_txt (jk2 hk))) 0 3 rfl rfl rfl hd (kk _ h' H locs ls h1 h2 h3)
theorem r_iald (C : jC p l s m args meth c g own cc nL rt) {a : Nat} {i : Int32} {K : Int32 → jR} (pc' : Nat) (hp : pc + 1 = pc') (hd : decode cc pc = .ok (.iaload, 1)) (h : jaI σ a i K = some X)
    (kk : ∀ v, K v = some X → jW p l e R s m args below meth c g Q k n pc' lv (.int v :: st) σ) : jW p l e R s m args below meth c g Q k n pc lv (.int i :: .ref a :: st) σ := by
  subst hp
  obtain ⟨⟨hk, hi⟩, h⟩ := jif_some h
  exact fun H locs ls h1 h2 h3 => va_iald C.1 C.2.1 C.2.2.2.2.2.2.2.2.1.1 (h1.one (jk2 hk) (jEl_int (jk2 hk))) 0 0 rfl rfl hi hd (kk _ h H locs ls h1 h2 h3)
theorem r_aald (C : jC p l s m args meth c g own cc nL rt) {a : Nat} {i : Int32} {K : Option Nat → jR} (pc' : Nat) (hp : pc + 1 = pc') (hd : decode cc pc = .ok (.aaload, 1)) (h : jaR σ a i K = some X)
    (kk : ∀ v, K v = some X → jW p l e R s m args below meth c g Q k n pc' lv (va_rf v :: st) σ) : jW p l e R s m args below meth c g Q k n pc lv (.int i :: .ref a :: st) σ := by
  subst hp
  obtain ⟨⟨hk, hi⟩, h⟩ := jif_some h
  exact fun H locs ls h1 h2 h3 => va_aldq C.1 C.2.1 C.2.2.2.2.2.2.2.2.1.1 (h1.one (jk2 hk) (jEl_txt (jk2 hk))) 0 3 rfl rfl hi hd (kk _ h H locs ls h1 h2 h3)
theorem r_zald (C : jC p l s m args meth c g own cc nL rt) {i : Int32} {K : Int32 → jR} (pc' : Nat) (hp : pc + 1 = pc') (hd : decode cc pc = .ok (.iaload, 1)) (h : jzI g i K = some X)
    (kk : ∀ v, K v = some X → jW p l e R s m args below meth c g Q k n pc' lv (.int v :: st) σ) : jW p l e R s m args below meth c g Q k n pc lv (.int i :: .ref (gSa g) :: st) σ := by
  subst hp
  obtain ⟨hi, h⟩ := jif_some h
  have hz := C.2.2.2.2.2.2.2.2.2
  exact fun H locs ls h1 h2 h3 => va_sld C.1 C.2.1 hz.2.2.1 (Nat.lt_of_lt_of_le hz.2.2.2.1 hz.2.2.2.2.1) (Nat.not_le.mpr hz.2.2.2.1) h2 hi hd (kk _ h H locs ls h1 h2 h3)
theorem r_zlen (C : jC p l s m args meth c g own cc nL rt) (pc' : Nat) (hp : pc + 1 = pc') (hd : decode cc pc = .ok (.arraylength, 1))
    (kk : jW p l e R s m args below meth c g Q k n pc' lv (.int (nI (gSn g)) :: st) σ) : jW p l e R s m args below meth c g Q k n pc lv (.ref (gSa g) :: st) σ := by
  subst hp
  have hz := C.2.2.2.2.2.2.2.2.2
  exact fun H locs ls h1 h2 h3 => va_slen C.1 C.2.1 hz.2.2.1 (Nat.lt_of_lt_of_le hz.2.2.2.1 hz.2.2.2.2.1) (Nat.not_le.mpr hz.2.2.2.1) h2 hd (kk H locs ls h1 h2 h3)
theorem r_iast (C : jC p l s m args meth c g own cc nL rt) {a : Nat} {i v : Int32} {K : Hp → jR} (pc' : Nat) (hp : pc + 1 = pc') (hd : decode cc pc = .ok (.iastore, 1)) (h : jsI σ a i v K = some X)
    (kk : ∀ τ, K τ = some X → jW p l e R s m args below meth c g Q k n pc' lv st τ) : jW p l e R s m args below meth c g Q k n pc lv (.int v :: .int i :: .ref a :: st) σ := by
  subst hp
  obtain ⟨⟨hk, hi⟩, h⟩ := jif_some h
  intro H locs ls h1 h2 h3
  have hc := (h1.my (jk2 hk)).2
  rw [jEl_int (jk2 hk)] at hc
  have hc' : H[a]? = some (vp_cell (gcI g) ((kdH σ a).2, .inl (inH σ a))) := hc
  rw [vp_cell_i] at hc'
  refine W.iast C.1 C.2.1 hc' ((C.2.2.2.2.2.2.2.2.1.1.2 0 _ rfl).1 _ _) (fun q => by cases q) (by rw [arrV_size]; exact hi) rfl rfl hd fun H1 e z oq => ?_
  refine kk _ h H1 _ ls (h1.upd (h1.my (jk2 hk)).1 rfl rfl ?_ z oq (fun q hq j => inS_ne hq j) (fun q hq j => rfl)) (h2.put z oq (h1.my (jk2 hk)).1) h3
  rw [jEl_int (σ := inS σ a i.toNatClampNeg v) (jk2 hk)]
  show H1[a]? = some (vp_cell _ _)
  rw [e, vp_cell_i, arrV_store]
  congr 2
  funext q
  by_cases hq : q = i.toNatClampNeg
  · subst hq
    simp [updV, inH, inS, u2]
  · simp [updV, inH, inS, u2, hq]
theorem r_aast (C : jC p l s m args meth c g own cc nL rt) {a v : Nat} {i : Int32} {K : Hp → jR} (pc' : Nat) (hp : pc + 1 = pc') (hd : decode cc pc = .ok (.aastore, 1)) (h : jsT σ a i v K = some X)
    (kk : ∀ τ, K τ = some X → jW p l e R s m args below meth c g Q k n pc' lv st τ) : jW p l e R s m args below meth c g Q k n pc lv (.ref v :: .int i :: .ref a :: st) σ := by
  subst hp
  obtain ⟨⟨hk, hkv, hi⟩, h⟩ := jif_some h
  intro H locs ls h1 h2 h3
  have hK := C.2.2.2.2.2.2.2.2.1.1
  have hc := (h1.my (jk2 hk)).2
  rw [jEl_txt (jk2 hk)] at hc
  have hc' : H[a]? = some (vp_cell (gcT g) ((kdH σ a).2, .inr (.inr (.inr (.inr (rfH σ a)))))) := hc
  rw [vp_cell_q] at hc'
  obtain ⟨r', hr', cellV, g1, g2, g3, -⟩ := (h1.one hkv (jEl_obj hkv)) 0 _ rfl
  have hcls := (hK.1 4 (RX4, TX4, 7) rfl).2
  obtain ⟨kA, comp, k1, k2, k3, -⟩ := (hK.2 3 (gcT g, .object RX4) rfl).2
  have hcomp : comp = (gDs g).1 4 := Option.some.inj (k3.symm.trans hcls.1)
  subst hcomp
  obtain ⟨kC, hkC, -⟩ := hcls.2
  have hi1 : ¬ i < 0 := fun q => hi (Or.inl q)
  have hi2 : i.toNatClampNeg < (kdH σ a).2 := Nat.not_le.mp fun q => hi (Or.inr q)
  refine W.aast C.1 C.2.1 hc' (fun q h => by cases h) (fun h => by cases h) k1 k2 rfl hkC ⟨hi1, by rw [arrV_size]; exact hi2⟩ g1 (fun q h => by rw [g3] at h; cases h) (by rw [g2]; exact hkC) (by rw [g2]; exact va_assign hcls) rfl rfl hd fun H1 e z oq => ?_
  refine kk _ h H1 _ ls (h1.upd (h1.my (jk2 hk)).1 rfl rfl ?_ z oq (fun q hq j => rfl) (fun q hq j => rfS_ne hq j)) (h2.put z oq (h1.my (jk2 hk)).1) h3
  rw [jEl_txt (σ := rfS σ a i.toNatClampNeg (some v)) (jk2 hk)]
  show H1[a]? = some (vp_cell _ _)
  rw [e, vp_cell_q, arrV_store]
  congr 2
  funext q
  by_cases hq : q = i.toNatClampNeg
  · subst hq
    simp [updV, rfH, rfS, u2, va_rf]
  · simp [updV, rfH, rfS, u2, hq]
/-! new things -/
theorem r_new (C : jC p l s m args meth c g own cc nL rt) {index ci N : Nat} {Cn : String} {T : u_T} {K : Nat → Hp → jR} (pc' : Nat) (hp : pc + 3 = pc') (ty : Nat → FieldType) (f1 : jCl[ci]? = some (Cn, T, N)) (hty : ∀ k, k < N → parseFieldDescriptor (T k).2.2.1 = some (ty k)) (hdf : ∀ j, j < N → (jfb ci)[j]? = some (decide (defaultValue (ty j) = .int 0)) ∧ (defaultValue (ty j) ≠ .int 0 → defaultValue (ty j) = .null)) (f4 : ∀ w ∈ u_ws Cn T N, w ∈ gT)
    (hcl : Cond.classLink own index Cn ∈ gT) (hins : Cond.instantiable Cn N ∈ gT) (hini : Cond.initialized Cn ∈ gT) (hd : decode cc pc = .ok (.new index, 3)) (hk' : k + 1 ≤ R.cells) (hn' : n + N ≤ R.slots) (h : jnw σ ci K = some X)
    (kk : ∀ a τ, K a τ = some X → jW p l e R s m args below meth c g Q (k + 1) (n + N) pc' lv (.ref a :: st) τ) : jW p l e R s m args below meth c g Q k n pc lv st σ := by
  subst hp
  intro H locs ls h1 h2 h3
  have hK := C.2.2.2.2.2.2.2.2.1.1
  have hKn := hK.1 ci _ f1
  have hts := C.2.2.2.2.1
  refine W.newcK C.1 C.2.1 C.2.2.2.1 (hts _ hcl) (hts _ hins) (hts _ hini) rfl hd hk' hn' hKn.2.1 rfl fun H1 kC hkC e1 z1 o1 => ?_
  have e0 : tpH σ = H.size := h1.1.symm
  have h' : K H.size (nwS σ (1, ci)) = some X := by rw [← e0]; exact h
  refine kk _ _ h' H1 locs ls (h1.new (1, ci) z1 o1 (by simp [jOld]) (fun _ => ?_)) ⟨by rw [z1]; exact Nat.le_succ_of_le h2.1, fun q a b => (o1 q (Nat.lt_of_lt_of_le a h2.1)).trans (h2.2.1 q a b), h2.2.2⟩ h3
  have hkd : kdH (nwS σ (1, ci)) H.size = (1, ci) := by show u1 (kdH σ) (tpH σ) (1, ci) H.size = _; simp [u1, e0]
  rw [jEl_obj hkd]
  refine ⟨_, f1, (u_born ty hts f4 hKn hkC e1 hty).to (fun j hj => ?_)⟩
  have h8 := jFs_get (nwS σ (1, ci)) H.size (jfb ci) 0 j _ (hdf j hj).1
  have : vp_V (jFs (nwS σ (1, ci)) H.size 0 (jfb ci)) j = (if decide (defaultValue (ty j) = .int 0) = true then Value.int (inH (nwS σ (1, ci)) H.size (0 + j)) else va_rf (rfH (nwS σ (1, ci)) H.size (0 + j))) := by
    unfold vp_V
    rw [List.getD_eq_getElem?_getD, h8]
    rfl
  rw [this]
  have i1 : inH (nwS σ (1, ci)) H.size (0 + j) = 0 := by simp [inH, nwS, u1, e0]
  have i2 : rfH (nwS σ (1, ci)) H.size (0 + j) = none := by simp [rfH, nwS, u1, e0]
  rw [i1, i2]
  by_cases hj' : defaultValue (ty j) = .int 0
  · rw [if_pos (by simp [hj']), hj']
  · rw [if_neg (by simp [hj'])]
    exact (hdf j hj).2 hj'
end JHEAP
end
section
/-! ===== BEGIN a constructor that throws (launches without stack traces) ===== -/
section VXIA
variable {p : Program} {l : Launch} {e : Env} {R : Room} {s : State} {m : MethodId} {args : Array Value} {below : List Frame} {meth : Method} {c : Code} {T : State} {locs : List Loc} {cells slots : Nat}
theorem vx_callI (X : Stand p l e R s m args below meth c T locs cells slots) (hexec : p.tables.exec = Jvm.exec) {own : String} {index : Nat} {y : MethodName} {bytes : ByteArray} {maxL : Nat}
    (hown : s.vm.findClass own = some m.cls) (hy1 : y.name = "<init>") (hlink : (Cond.methodLink own index y).before args s = true) (hinst : (Cond.instanceMethod y).before args s = true)
    (hcode : (Cond.code y bytes maxL none).before args s = true) (hy : y.cls ≠ "java/lang/invoke/MethodHandle" ∧ y.cls ≠ "java/lang/invoke/VarHandle")
    {W9 : Nat} {Pre : Pt → Array Value → Prop} {Post : Pt → Array Value → Option Value → Pt → Prop} {PostX : Pt → Array Value → Addr → Pt → Prop} (hK : vx_Back l R p e below s args y 3 W9 Pre Post PostX)
    {g : JFrame} (hg : g.method = m) (hsize : g.locals.size = c.maxLocals) {a : Addr} {argsL rest : List Value} (hlen : ∀ sig, parseMethodDescriptor y.desc = some sig → argsL.length = sig.parameters.length)
    (hstack : g.stack = argsL.reverse ++ .ref a :: rest) (hW : 2 * g.monitorRoom + (rest.map fun v => v.category).sum ≤ W9) (hdg : decode c.code g.pc = .ok (.invokespecial index, 3))
    (hpre : ∀ vm₁, s.WarmedH vm₁ → Pre ⟨T.setVm vm₁, locs, cells, slots⟩ (Value.ref a :: argsL).toArray) :
    (∃ (v : Option Value) (vm₁ : Vm) (B : Pt), s.WarmedH vm₁ ∧ Stand p l e R s m args below meth c B.U B.locs B.cells B.slots ∧ Post ⟨T.setVm vm₁, locs, cells, slots⟩ (Value.ref a :: argsL).toArray v B ∧
      ∀ target, Steps p.tables e below (B.U.setTop { g with pc := g.pc + 3, stack := v.toList ++ rest }) target → Steps p.tables e below (T.setTop g) target) ∨
    (∃ (q : Addr) (vm₁ : Vm) (B : Pt), s.WarmedH vm₁ ∧ Stand p l e R s m args below meth c B.U B.locs B.cells B.slots ∧ PostX ⟨T.setVm vm₁, locs, cells, slots⟩ (Value.ref a :: argsL).toArray q B ∧
      Steps p.tables e below (T.setTop g) ((B.U.setTop { g with stack := rest }).pushFrame (.throwing q))) := by
  subst hg
  have hpl : e.platform.magicAccessors = ({} : Platform).magicAccessors := by rw [X.admits.platform]
  obtain ⟨mk, methM, cM, kP, vm₁, hnamed, hmethM, hcodeM, -, hlocalsM, -, hkP, -, hW₁, hstep₁⟩ := Steps.initColdArgs (e := e) X.here hexec X.warmed hpl hown hy1 hy hlink hinst hcode (f := g) rfl hlen hstack hdg
  have X₁ := X.noted hW₁
  rcases hK g.method meth c ⟨T.setVm vm₁, locs, cells, slots⟩ { g with stack := rest } (.invokespecial index) mk (Value.ref a :: argsL).toArray X₁ rfl hsize hdg hW (X₁.named hnamed) (hpre vm₁ X₁.warmed) with ⟨v, B, X', hpost, hsteps⟩ | ⟨q, B, X', hpost, hsteps⟩
  · exact Or.inl ⟨v, vm₁, B, X₁.warmed, X', hpost, fun target h => hstep₁ _ fun acts => by rw [doInvoke_state]; exact hsteps.trans h⟩
  · exact Or.inr ⟨q, vm₁, B, X₁.warmed, X', hpost, hstep₁ _ fun acts => by rw [doInvoke_state]; exact hsteps⟩
end VXIA
section VXIB
variable {p : Program} {l : Launch} {e : Env} {R : Room} {s : State} {m : MethodId} {args : Array Value} {below : List Frame} {meth : Method} {c : Code} {H : Heap} {locs : List Loc} {cells slots : Nat}
variable {y : MethodName} {bytes cc : ByteArray} {maxL nL mc ms n index : Nat} {ret : Option FieldType} {ws : List Cond} {rm : Room} {Pc : Array Value → State → Prop} {Qc : Array Value → State → Outcome → State → Prop} {XC : String → State → State → Prop} {free : Addr → Prop} {Ts : List Cond} {own C : String} {b : Addr} {As rest : List Value} {g : JFrame}
theorem vx_runI (S : CallFix p m c cc nL s args Ts own) (hM : vx_Met l y ws rm Pc Qc XC mc ms free) (cw : CallB R s args own index y bytes maxL none ws rm mc ms n ∧ y.name = "<init>" ∧ (Cond.instanceMethod y).before args s = true) (hp : PreS s H Pc (.ref b :: As))
    (hg : g.method = m) (hn : As.length = n) (hsize : g.locals.size = nL) (hstack : g.stack = As.reverse ++ .ref b :: rest) (hW : 2 * g.monitorRoom + (rest.map fun v => v.category).sum ≤ 8) (hdg : decode cc g.pc = .ok (.invokespecial index, 3)) (hf : cells + mc ≤ R.cells ∧ slots + ms ≤ R.slots) :
    vx_Run p l e R s m args below meth c H locs cells slots mc ms g rest (Qc (Value.ref b :: As).toArray) XC free := by
  have hK : vx_Back l R p e below s args y 3 8 (PreOf R mc ms Pc) (PostOf Qc mc ms free) (vx_Post XC mc ms free) := vx_callBack cw.1 hM hp.1
  obtain ⟨⟨-, -, -, -, -, -, hcode, -, hy, hlen, hl⟩, hy1, hin⟩ := cw
  obtain ⟨hx, hb, hml, ho, -⟩ := S
  have hPc := hp.2
  intro T hT X
  rcases vx_callI X hx (bytes := bytes) (maxL := maxL) ho hy1 hl hin hcode hy hK hg (hsize.trans hml.symm) (a := b) (argsL := As) (rest := rest) (fun sig h => hn.trans (hlen sig h)) hstack hW (by rw [hb]; exact hdg)
    (fun vm₁ hW₁ => ⟨hf.1, hf.2, hPc (T.setVm vm₁) hT hW₁⟩) with ⟨v, vm₁, ⟨U', l2, c2, s2⟩, hW₁, X', ⟨g', mk, t, L, e1, e2, hq, h1, hL, h2, h3⟩, st⟩ | ⟨q, vm₁, ⟨U', l2, c2, s2⟩, hW₁, X', ⟨g', mk, t, L, E, ce, e1, e2, hq, hce, hcv, hcl, h1, hL, h2, h3⟩, st⟩
  · dsimp only [Pt.U, Pt.locs, Pt.cells, Pt.slots] at X' e1 e2 h1 h2 h3 st
    subst h1; subst h2; subst h3
    exact Or.inl ⟨v, (T.setVm vm₁).calling g' mk (Value.ref b :: As).toArray, t, U', L, hT, X', hL, e1, e2, hq, st⟩
  · dsimp only [Pt.U, Pt.locs, Pt.cells, Pt.slots] at X' e1 e2 h1 h2 h3 st hcl
    subst h1; subst h2; subst h3
    exact Or.inr ⟨q, (T.setVm vm₁).calling g' mk (Value.ref b :: As).toArray, t, U', L, E, ce, hT, X', hL, e1, e2, hq, hce, hcv, vx_cls hW₁ hcl, st⟩
end VXIB
/-! ===== END ===== -/
/-! ===== BEGIN a private constructor of a nest mate that throws ===== -/
section VXIC
variable {p : Program} {l : Launch} {e : Env} {R : Room} {s : State} {m : MethodId} {args : Array Value} {below : List Frame} {meth : Method} {c : Code} {T : State} {locs : List Loc} {cells slots : Nat}
theorem vx_callIN (X : Stand p l e R s m args below meth c T locs cells slots) (hexec : p.tables.exec = Jvm.exec) {own : String} {index : Nat} {host : String} {y : MethodName} {bytes : ByteArray} {maxL : Nat}
    (hown : s.vm.findClass own = some m.cls) (hy1 : y.name = "<init>") (hlink : (Cond.methodLinkNest own index y host).before args s = true) (hinst : (Cond.instanceMethod y).before args s = true)
    (hcode : (Cond.code y bytes maxL none).before args s = true) (hy : y.cls ≠ "java/lang/invoke/MethodHandle" ∧ y.cls ≠ "java/lang/invoke/VarHandle")
    {W9 : Nat} {Pre : Pt → Array Value → Prop} {Post : Pt → Array Value → Option Value → Pt → Prop} {PostX : Pt → Array Value → Addr → Pt → Prop} (hK : vx_Back l R p e below s args y 3 W9 Pre Post PostX)
    {g : JFrame} (hg : g.method = m) (hsize : g.locals.size = c.maxLocals) {a : Addr} {argsL rest : List Value} (hlen : ∀ sig, parseMethodDescriptor y.desc = some sig → argsL.length = sig.parameters.length)
    (hstack : g.stack = argsL.reverse ++ .ref a :: rest) (hW : 2 * g.monitorRoom + (rest.map fun v => v.category).sum ≤ W9) (hdg : decode c.code g.pc = .ok (.invokespecial index, 3))
    (hpre : ∀ vm₁, s.WarmedH vm₁ → Pre ⟨T.setVm vm₁, locs, cells, slots⟩ (Value.ref a :: argsL).toArray) :
    (∃ (v : Option Value) (vm₁ : Vm) (B : Pt), s.WarmedH vm₁ ∧ Stand p l e R s m args below meth c B.U B.locs B.cells B.slots ∧ Post ⟨T.setVm vm₁, locs, cells, slots⟩ (Value.ref a :: argsL).toArray v B ∧
      ∀ target, Steps p.tables e below (B.U.setTop { g with pc := g.pc + 3, stack := v.toList ++ rest }) target → Steps p.tables e below (T.setTop g) target) ∨
    (∃ (q : Addr) (vm₁ : Vm) (B : Pt), s.WarmedH vm₁ ∧ Stand p l e R s m args below meth c B.U B.locs B.cells B.slots ∧ PostX ⟨T.setVm vm₁, locs, cells, slots⟩ (Value.ref a :: argsL).toArray q B ∧
      Steps p.tables e below (T.setTop g) ((B.U.setTop { g with stack := rest }).pushFrame (.throwing q))) := by
  subst hg
  have hpl : e.platform.magicAccessors = ({} : Platform).magicAccessors := by rw [X.admits.platform]
  obtain ⟨mk, methM, cM, kP, vm₁, hnamed, hmethM, hcodeM, -, hlocalsM, -, hkP, -, hW₁, hstep₁⟩ := Steps.initColdArgsNest (e := e) X.here hexec X.warmed hpl hown hy1 hy hlink hinst hcode (f := g) rfl hlen hstack hdg
  have X₁ := X.noted hW₁
  rcases hK g.method meth c ⟨T.setVm vm₁, locs, cells, slots⟩ { g with stack := rest } (.invokespecial index) mk (Value.ref a :: argsL).toArray X₁ rfl hsize hdg hW (X₁.named hnamed) (hpre vm₁ X₁.warmed) with ⟨v, B, X', hpost, hsteps⟩ | ⟨q, B, X', hpost, hsteps⟩
  · exact Or.inl ⟨v, vm₁, B, X₁.warmed, X', hpost, fun target h => hstep₁ _ fun acts => by rw [doInvoke_state]; exact hsteps.trans h⟩
  · exact Or.inr ⟨q, vm₁, B, X₁.warmed, X', hpost, hstep₁ _ fun acts => by rw [doInvoke_state]; exact hsteps⟩
end VXIC
section VXID
variable {p : Program} {l : Launch} {e : Env} {R : Room} {s : State} {m : MethodId} {args : Array Value} {below : List Frame} {meth : Method} {c : Code} {H : Heap} {locs : List Loc} {cells slots : Nat}
theorem vx_runIN {y : MethodName} {bytes cc : ByteArray} {maxL nL mc ms n index : Nat} {ws : List Cond} {rm : Room} {Pc : Array Value → State → Prop} {Qc : Array Value → State → Outcome → State → Prop} {XC : String → State → State → Prop} {free : Addr → Prop} {Ts : List Cond} {own host : String} {b : Addr} {As rest : List Value} {g : JFrame}
    (S : CallFix p m c cc nL s args Ts own) (hM : vx_Met l y ws rm Pc Qc XC mc ms free) (cw : va_CN R s args own index y host bytes maxL none ws rm mc ms n ∧ y.name = "<init>" ∧ (Cond.instanceMethod y).before args s = true) (hp : PreS s H Pc (.ref b :: As))
    (hg : g.method = m) (hn : As.length = n) (hsize : g.locals.size = nL) (hstack : g.stack = As.reverse ++ .ref b :: rest) (hW : 2 * g.monitorRoom + (rest.map fun v => v.category).sum ≤ 8) (hdg : decode cc g.pc = .ok (.invokespecial index, 3)) (hf : cells + mc ≤ R.cells ∧ slots + ms ≤ R.slots) :
    vx_Run p l e R s m args below meth c H locs cells slots mc ms g rest (Qc (Value.ref b :: As).toArray) XC free := by
  obtain ⟨⟨⟨hrc, hrs, hfr, hlo, hws, hcw⟩, hcode, hini, hy, hlen, hl⟩, hx1, hx2⟩ := cw
  have hK : vx_Back l R p e below s args y 3 8 (PreOf R mc ms Pc) (PostOf Qc mc ms free) (vx_Post XC mc ms free) := vx_back (bytes := bytes) (maxL := maxL) (ret := none) hM hp.1 hrc hrs hfr hlo hws hcw (fun a' U hW => word_at hW (Or.inl (by first | rfl | simp [Cond.onTables, Cond.keeps, Cond.steady])) hini)
  obtain ⟨hx, hb, hml, ho, -⟩ := S
  have hPc := hp.2
  intro T hT X
  rcases vx_callIN X hx (bytes := bytes) (maxL := maxL) ho hx1 hl hx2 hcode hy hK hg (hsize.trans hml.symm) (a := b) (argsL := As) (rest := rest) (fun sig h => hn.trans (hlen sig h)) hstack hW (by rw [hb]; exact hdg)
    (fun vm₁ hW₁ => ⟨hf.1, hf.2, hPc (T.setVm vm₁) hT hW₁⟩) with ⟨v, vm₁, ⟨U', l2, c2, s2⟩, hW₁, X', ⟨g', mk, t, L, e1, e2, hq, h1, hL, h2, h3⟩, st⟩ | ⟨q, vm₁, ⟨U', l2, c2, s2⟩, hW₁, X', ⟨g', mk, t, L, E, ce, e1, e2, hq, hce, hcv, hcl, h1, hL, h2, h3⟩, st⟩
  · dsimp only [Pt.U, Pt.locs, Pt.cells, Pt.slots] at X' e1 e2 h1 h2 h3 st
    subst h1; subst h2; subst h3
    exact Or.inl ⟨v, (T.setVm vm₁).calling g' mk (Value.ref b :: As).toArray, t, U', L, hT, X', hL, e1, e2, hq, st⟩
  · dsimp only [Pt.U, Pt.locs, Pt.cells, Pt.slots] at X' e1 e2 h1 h2 h3 st hcl
    subst h1; subst h2; subst h3
    exact Or.inr ⟨q, (T.setVm vm₁).calling g' mk (Value.ref b :: As).toArray, t, U', L, E, ce, hT, X', hL, e1, e2, hq, hce, hcv, vx_cls hW₁ hcl, st⟩
end VXID
/-! ===== END ===== -/
end
section
section JCALLS
variable {p : Program} {l : Launch} {e : Env} {R : Room} {s : State} {m : MethodId} {args : Array Value} {below : List Frame} {meth : Method} {c : Code} {g : jG} {Q : State → Prop} {own : String} {cc : ByteArray} {nL k n pc : Nat} {rt : Option FieldType} {lv lv' : List (Nat × Value)} {st : List Value} {σ τ : Hp} {X : jO × Hp} {o : jO} {mc ms : Nat}
theorem r_newI (C : jC p l s m args meth c g own cc nL rt) {i : Int32} {M : Nat} {K : Nat → Hp → jR} (pc' : Nat) (hp : pc + 2 = pc') (hw : Cond.arrayClass .int ∈ gT) (hd : decode cc pc = .ok (.newarray .int, 2)) (hM : M ≤ 100000) (hk' : k + 1 ≤ R.cells) (hn' : n + M ≤ R.slots) (h : jnA σ 2 M i K = some X)
    (kk : ∀ a τ, K a τ = some X → jW p l e R s m args below meth c g Q (k + 1) (n + M) pc' lv (.ref a :: st) τ) : jW p l e R s m args below meth c g Q k n pc lv (.int i :: st) σ := by
  subst hp
  obtain ⟨⟨hi, hm⟩, h⟩ := jif_some h
  intro H locs ls h1 h2 h3
  refine va_newaK C.1 C.2.1 (atype := .int) (C.2.2.2.2.1 _ hw) rfl hd rfl hi rfl (by show i.toNatClampNeg * 4 ≤ 536870912; omega) hk' (by omega) rfl fun H1 cA e1 z1 o1 hAr hNm => ?_
  have hI : cA = gcI g := Option.some.inj (hNm.symm.trans (C.2.2.2.2.2.2.2.2.1.1.2 0 _ rfl).2)
  subst hI
  have e0 : tpH σ = H.size := h1.1.symm
  refine W.widen (Nat.le_refl _) (show n + i.toNatClampNeg ≤ n + M by omega) ?_
  have h' : K H.size (nwS σ (2, i.toNatClampNeg)) = some X := by rw [← e0]; exact h
  refine kk _ _ h' H1 locs ls (h1.new (2, i.toNatClampNeg) z1 o1 (by simp [jOld]) (fun _ => ?_)) ⟨by rw [z1]; exact Nat.le_succ_of_le h2.1, fun q a b => (o1 q (Nat.lt_of_lt_of_le a h2.1)).trans (h2.2.1 q a b), h2.2.2⟩ h3
  have hkd : kdH (nwS σ (2, i.toNatClampNeg)) H.size = (2, i.toNatClampNeg) := by show u1 (kdH σ) (tpH σ) _ H.size = _; simp [u1, e0]
  rw [jEl_int hkd]
  show H1[H.size]? = some (vp_cell _ _)
  rw [e1, vp_cell_i]
  congr 2
  funext j
  have : inH (nwS σ (2, i.toNatClampNeg)) H.size j = 0 := by simp [inH, nwS, u1, e0]
  rw [this]
  rfl
theorem r_newT (C : jC p l s m args meth c g own cc nL rt) {index : Nat} {i : Int32} {M : Nat} {K : Nat → Hp → jR} (pc' : Nat) (hp : pc + 3 = pc') (hw : Cond.classLink own index RX4 ∈ gT) (hd : decode cc pc = .ok (.anewarray index, 3)) (hM : M ≤ 100000) (hk' : k + 1 ≤ R.cells) (hn' : n + M ≤ R.slots) (h : jnA σ 5 M i K = some X)
    (kk : ∀ a τ, K a τ = some X → jW p l e R s m args below meth c g Q (k + 1) (n + M) pc' lv (.ref a :: st) τ) : jW p l e R s m args below meth c g Q k n pc lv (.int i :: st) σ := by
  subst hp
  obtain ⟨⟨hi, hm⟩, h⟩ := jif_some h
  intro H locs ls h1 h2 h3
  refine W.anew C.1 C.2.1 C.2.2.2.1 (C.2.2.2.2.1 _ hw) (va_AO.use (A := args) C.2.2.2.2.2.2.2.2.1.2.2.2.1) rfl hd rfl hi (by omega) hk' (by omega) fun cA kA comp g1 g2 g3 g4 => ?_
  obtain ⟨kA', comp', -, -, -, g5⟩ := (C.2.2.2.2.2.2.2.2.1.1.2 3 (gcT g, .object RX4) rfl).2
  have hI : cA = gcT g := Option.some.inj (g1.symm.trans g5)
  subst hI
  have e0 : tpH σ = H.size := h1.1.symm
  refine W.widen (Nat.le_refl _) (show n + i.toNatClampNeg ≤ n + M by omega) ?_
  have h' : K H.size (nwS σ (5, i.toNatClampNeg)) = some X := by rw [← e0]; exact h
  have o1 : ∀ (x : Cell) (q : Nat), q < H.size → (H.push x)[q]? = H[q]? := fun x q hq => by rw [Array.getElem?_push, if_neg (Nat.ne_of_lt hq)]
  refine kk _ _ h' _ locs ls (h1.new (5, i.toNatClampNeg) (by simp) (o1 _) (by simp [jOld]) (fun _ => ?_)) ⟨by simp only [Array.size_push]; exact Nat.le_succ_of_le h2.1, fun q a b => (o1 _ q (Nat.lt_of_lt_of_le a h2.1)).trans (h2.2.1 q a b), h2.2.2⟩ h3
  have hkd : kdH (nwS σ (5, i.toNatClampNeg)) H.size = (5, i.toNatClampNeg) := by show u1 (kdH σ) (tpH σ) _ H.size = _; simp [u1, e0]
  rw [jEl_txt hkd]
  show (H.push _)[H.size]? = some (vp_cell _ _)
  rw [vp_cell_q]
  have e8 : (fun j => va_rf (rfH (nwS σ (5, i.toNatClampNeg)) H.size j)) = fun _ => Value.null := by
    funext j
    have : rfH (nwS σ (5, i.toNatClampNeg)) H.size j = none := by simp [rfH, nwS, u1, e0]
    rw [this]
    rfl
  rw [e8, ← arrV_new]
  simp
theorem r_newB (C : jC p l s m args meth c g own cc nL rt) {i : Int32} {M : Nat} {K : Nat → Hp → jR} (pc' : Nat) (hp : pc + 2 = pc') (hw : Cond.arrayClass .byte ∈ gT) (hd : decode cc pc = .ok (.newarray .byte, 2)) (hM : M ≤ 100000) (hk' : k + 1 ≤ R.cells) (hn' : n + M ≤ R.slots) (h : jnA σ 6 M i K = some X)
    (kk : ∀ a τ, K a τ = some X → jW p l e R s m args below meth c g Q (k + 1) (n + M) pc' lv (.ref a :: st) τ) : jW p l e R s m args below meth c g Q k n pc lv (.int i :: st) σ := by
  subst hp
  obtain ⟨⟨hi, hm⟩, h⟩ := jif_some h
  intro H locs ls h1 h2 h3
  refine va_newaK C.1 C.2.1 (atype := .byte) (C.2.2.2.2.1 _ hw) rfl hd rfl hi rfl (by show i.toNatClampNeg * 1 ≤ 536870912; omega) hk' (by omega) rfl fun H1 cA e1 z1 o1 hAr hNm => ?_
  have hI : cA = gcB g := Option.some.inj (hNm.symm.trans (C.2.2.2.2.2.2.2.2.1.1.2 1 _ rfl).2)
  subst hI
  have e0 : tpH σ = H.size := h1.1.symm
  refine W.widen (Nat.le_refl _) (show n + i.toNatClampNeg ≤ n + M by omega) ?_
  have h' : K H.size (nwS σ (6, i.toNatClampNeg)) = some X := by rw [← e0]; exact h
  refine kk _ _ h' H1 locs ls (h1.new (6, i.toNatClampNeg) z1 o1 (by simp [jOld]) (fun _ => ?_)) ⟨by rw [z1]; exact Nat.le_succ_of_le h2.1, fun q a b => (o1 q (Nat.lt_of_lt_of_le a h2.1)).trans (h2.2.1 q a b), h2.2.2⟩ h3
  have hkd : kdH (nwS σ (6, i.toNatClampNeg)) H.size = (6, i.toNatClampNeg) := by show u1 (kdH σ) (tpH σ) _ H.size = _; simp [u1, e0]
  rw [jEl_byt hkd]
  show H1[H.size]? = some (vp_cell _ _)
  rw [e1, vp_cell_i]
  congr 2
  funext j
  have : inH (nwS σ (6, i.toNatClampNeg)) H.size j = 0 := by simp [inH, nwS, u1, e0]
  rw [this]
  rfl
theorem r_newC (C : jC p l s m args meth c g own cc nL rt) {i : Int32} {M : Nat} {K : Nat → Hp → jR} (pc' : Nat) (hp : pc + 2 = pc') (hw : Cond.arrayClass .char ∈ gT) (hd : decode cc pc = .ok (.newarray .char, 2)) (hM : M ≤ 100000) (hk' : k + 1 ≤ R.cells) (hn' : n + M ≤ R.slots) (h : jnA σ 7 M i K = some X)
    (kk : ∀ a τ, K a τ = some X → jW p l e R s m args below meth c g Q (k + 1) (n + M) pc' lv (.ref a :: st) τ) : jW p l e R s m args below meth c g Q k n pc lv (.int i :: st) σ := by
  subst hp
  obtain ⟨⟨hi, hm⟩, h⟩ := jif_some h
  intro H locs ls h1 h2 h3
  refine va_newaK C.1 C.2.1 (atype := .char) (C.2.2.2.2.1 _ hw) rfl hd rfl hi rfl (by show i.toNatClampNeg * 2 ≤ 536870912; omega) hk' (by omega) rfl fun H1 cA e1 z1 o1 hAr hNm => ?_
  have hI : cA = gcC g := Option.some.inj (hNm.symm.trans (C.2.2.2.2.2.2.2.2.1.1.2 2 _ rfl).2)
  subst hI
  have e0 : tpH σ = H.size := h1.1.symm
  refine W.widen (Nat.le_refl _) (show n + i.toNatClampNeg ≤ n + M by omega) ?_
  have h' : K H.size (nwS σ (7, i.toNatClampNeg)) = some X := by rw [← e0]; exact h
  refine kk _ _ h' H1 locs ls (h1.new (7, i.toNatClampNeg) z1 o1 (by simp [jOld]) (fun _ => ?_)) ⟨by rw [z1]; exact Nat.le_succ_of_le h2.1, fun q a b => (o1 q (Nat.lt_of_lt_of_le a h2.1)).trans (h2.2.1 q a b), h2.2.2⟩ h3
  have hkd : kdH (nwS σ (7, i.toNatClampNeg)) H.size = (7, i.toNatClampNeg) := by show u1 (kdH σ) (tpH σ) _ H.size = _; simp [u1, e0]
  rw [jEl_chr hkd]
  show H1[H.size]? = some (vp_cell _ _)
  rw [e1, vp_cell_i]
  congr 2
  funext j
  have : inH (nwS σ (7, i.toNatClampNeg)) H.size j = 0 := by simp [inH, nwS, u1, e0]
  rw [this]
  rfl
theorem r_newS (C : jC p l s m args meth c g own cc nL rt) {index : Nat} {i : Int32} {M : Nat} {K : Nat → Hp → jR} (pc' : Nat) (hp : pc + 3 = pc') (hw : Cond.classLink own index RJ0 ∈ gT) (hd : decode cc pc = .ok (.anewarray index, 3)) (hM : M ≤ 100000) (hk' : k + 1 ≤ R.cells) (hn' : n + M ≤ R.slots) (h : jnA σ 8 M i K = some X)
    (kk : ∀ a τ, K a τ = some X → jW p l e R s m args below meth c g Q (k + 1) (n + M) pc' lv (.ref a :: st) τ) : jW p l e R s m args below meth c g Q k n pc lv (.int i :: st) σ := by
  subst hp
  obtain ⟨⟨hi, hm⟩, h⟩ := jif_some h
  intro H locs ls h1 h2 h3
  refine W.anew C.1 C.2.1 C.2.2.2.1 (C.2.2.2.2.1 _ hw) (va_AO.use (A := args) C.2.2.2.2.2.2.2.2.1.2.2.2.2.2.1) rfl hd rfl hi (by omega) hk' (by omega) fun cA kA comp g1 g2 g3 g4 => ?_
  obtain ⟨kA', comp', -, -, -, g5⟩ := (C.2.2.2.2.2.2.2.2.1.1.2 4 (gcS g, .object RJ0) rfl).2
  have hI : cA = gcS g := Option.some.inj (g1.symm.trans g5)
  subst hI
  have e0 : tpH σ = H.size := h1.1.symm
  refine W.widen (Nat.le_refl _) (show n + i.toNatClampNeg ≤ n + M by omega) ?_
  have h' : K H.size (nwS σ (8, i.toNatClampNeg)) = some X := by rw [← e0]; exact h
  have o1 : ∀ (x : Cell) (q : Nat), q < H.size → (H.push x)[q]? = H[q]? := fun x q hq => by rw [Array.getElem?_push, if_neg (Nat.ne_of_lt hq)]
  refine kk _ _ h' _ locs ls (h1.new (8, i.toNatClampNeg) (by simp) (o1 _) (by simp [jOld]) (fun _ => ?_)) ⟨by simp only [Array.size_push]; exact Nat.le_succ_of_le h2.1, fun q a b => (o1 _ q (Nat.lt_of_lt_of_le a h2.1)).trans (h2.2.1 q a b), h2.2.2⟩ h3
  have hkd : kdH (nwS σ (8, i.toNatClampNeg)) H.size = (8, i.toNatClampNeg) := by show u1 (kdH σ) (tpH σ) _ H.size = _; simp [u1, e0]
  rw [jEl_str hkd]
  show (H.push _)[H.size]? = some (vp_cell _ _)
  rw [vp_cell_q]
  have e8 : (fun j => va_rf (rfH (nwS σ (8, i.toNatClampNeg)) H.size j)) = fun _ => Value.null := by
    funext j
    have : rfH (nwS σ (8, i.toNatClampNeg)) H.size j = none := by simp [rfH, nwS, u1, e0]
    rw [this]
    rfl
  rw [e8, ← arrV_new]
  simp
/-! System.arraycopy within one row of ints -/
theorem r_copy (C : jC p l s m args meth c g own cc nL rt) {index a b : Nat} {sp dp z : Int32} {K : Hp → jR} (pc' : Nat) (hp : pc + 3 = pc') (hlink : Cond.methodLink own index arraycopyName ∈ gT) (hnat : Cond.native arraycopyName ∈ gT) (hstat : Cond.static arraycopyName ∈ gT) (hini : Cond.initialized "java/lang/System" ∈ gT) (hd : decode cc pc = .ok (.invokestatic index, 3))
    (hframes : 1 ≤ R.frames) (hlocals : (st.map fun v => v.category).sum + (nativeFrameWords "java/lang/System" "arraycopy" 5 + 11) ≤ R.locals) (h : jcp σ a b sp dp z K = some X)
    (kk : ∀ τ, K τ = some X → jW p l e R s m args below meth c g Q k n pc' lv st τ) : jW p l e R s m args below meth c g Q k n pc lv (.int z :: .int dp :: .ref b :: .int sp :: .ref a :: st) σ := by
  subst hp
  obtain ⟨⟨rfl, hk, g1, g2, g3, g4, g5⟩, h'⟩ := jif_some h
  have nn : ∀ z : Int32, ¬ z < 0 → z.toInt = (z.toNatClampNeg : Int) := by
    intro z hz
    have hz0 : (0 : Int) ≤ z.toInt := by
      have := Int32.not_lt.mp hz
      simpa using Int32.le_iff_toInt_le.mp this
    show z.toInt = ((z.toInt.toNat : Nat) : Int)
    omega
  intro H locs ls h1 h2 h3 T hT XX
  have hc := (h1.my (jk2 hk)).2
  rw [jEl_int (jk2 hk)] at hc
  have hc1 : H[a]? = some (vp_cell (gcI g) ((kdH σ a).2, .inl (inH σ a))) := hc
  have hts := C.2.2.2.2.1
  obtain ⟨-, k0, hk0, cm0, hkk0⟩ := (C.2.2.2.2.2.2.2.2.1.1.2 0 (gcI g, .int) rfl).1 (kdH σ a).2 (fun j => .int (inH σ a j))
  obtain ⟨vm', X', step⟩ := XX.arraycopy C.1 C.2.2.2.1 (hts _ hlink) (hts _ hnat) (hts _ hstat) (hts _ hini) (src := a) (dst := a) (cs := vp_cell (gcI g) ((kdH σ a).2, .inl (inH σ a))) (cd := vp_cell (gcI g) ((kdH σ a).2, .inl (inH σ a))) (srcPos := sp) (destPos := dp) (n := z) (by rw [hT]; exact hc1) (by rw [hT]; exact hc1)
    (fun _ h => by cases h) (fun _ h => by cases h) (fun h => by cases h) (fun h => by cases h) hk0 hk0 hkk0 hkk0 (by simp [refKind]) g1 g2 g3
    (by rw [nn sp g1, nn z g3]; show ¬ _ > ((arrV (gcI g) (kdH σ a).2 (fun j => .int (inH σ a j))).slots.size : Int); rw [arrV_size]; omega)
    (by rw [nn dp g2, nn z g3]; show ¬ _ > ((arrV (gcI g) (kdH σ a).2 (fun j => .int (inH σ a j))).slots.size : Int); rw [arrV_size]; omega)
    (fun vm₁ _ i hi => by
      have e : (vp_cell (gcI g) ((kdH σ a).2, .inl (inH σ a))).slots.getD (sp.toNatClampNeg + i) .null = .int (inH σ a (sp.toNatClampNeg + i)) := by
        show (arrV (gcI g) (kdH σ a).2 (fun j => .int (inH σ a j))).slots.getD _ _ = _
        rw [Array.getD_eq_getD_getElem?, arrV_read _ _ (by omega)]
        rfl
      refine ⟨?_, ?_⟩
      · rw [e]; rfl
      · rw [e]; exact trivial)
    (g := F0 m pc ls (.int z :: .int dp :: .ref a :: .int sp :: .ref a :: st)) rfl (by rw [h3.1]) (rest := st) rfl (by rw [C.2.1]; exact hd) hframes (by show 2 * 0 + _ + _ ≤ _; omega)
  have e1 : copied (vp_cell (gcI g) ((kdH σ a).2, .inl (inH σ a))) (vp_cell (gcI g) ((kdH σ a).2, .inl (inH σ a))) sp dp z = vp_cell (gcI g) ((kdH σ a).2, .inl (va_cpy (inH σ a) (inH σ a) sp.toNatClampNeg dp.toNatClampNeg z.toNatClampNeg)) := va_copied (fun z => .int z) (gcI g) (gcI g) (inH σ a) (inH σ a) g4
  rw [e1] at X' step
  have hl : a < H.size := (Array.getElem?_eq_some_iff.mp hc1).1
  have hheap : ((T.setVm vm').setCell a (vp_cell (gcI g) ((kdH σ a).2, .inl (va_cpy (inH σ a) (inH σ a) sp.toNatClampNeg dp.toNatClampNeg z.toNatClampNeg)))).heap = H.setIfInBounds a (vp_cell (gcI g) ((kdH σ a).2, .inl (va_cpy (inH σ a) (inH σ a) sp.toNatClampNeg dp.toNatClampNeg z.toNatClampNeg))) := by rw [← hT]; rfl
  have oq : ∀ q : Nat, q ≠ a → (H.setIfInBounds a (vp_cell (gcI g) ((kdH σ a).2, .inl (va_cpy (inH σ a) (inH σ a) sp.toNatClampNeg dp.toNatClampNeg z.toNatClampNeg))))[q]? = H[q]? := fun q hq => by simp [Array.getElem?_setIfInBounds, Ne.symm hq]
  have hA : jA g a := (h1.my (jk2 hk)).1
  have hat : va_at (gDs g) jCl (a, jEl g (cpS σ a sp.toNatClampNeg dp.toNatClampNeg z.toNatClampNeg) a) (H.setIfInBounds a (vp_cell (gcI g) ((kdH σ a).2, .inl (va_cpy (inH σ a) (inH σ a) sp.toNatClampNeg dp.toNatClampNeg z.toNatClampNeg)))) := by
    rw [jEl_int (σ := cpS σ a sp.toNatClampNeg dp.toNatClampNeg z.toNatClampNeg) (jk2 hk)]
    have e9 : inH (cpS σ a sp.toNatClampNeg dp.toNatClampNeg z.toNatClampNeg) a = va_cpy (inH σ a) (inH σ a) sp.toNatClampNeg dp.toNatClampNeg z.toNatClampNeg := by simp [inH, cpS, u1]
    rw [e9]
    show (H.setIfInBounds a _)[a]? = some _
    simp [Array.getElem?_setIfInBounds, hl]
    rfl
  obtain ⟨t, a1, b1⟩ := kk _ h' _ _ ls (h1.upd (τ := cpS σ a sp.toNatClampNeg dp.toNatClampNeg z.toNatClampNeg) (h1.my (jk2 hk)).1 rfl rfl hat (by simp) oq (fun q hq j => cpS_ne hq j) (fun q hq j => rfl)) ⟨by simp; exact h2.1, fun q g1 g2 => by
      rw [oq q (fun e => g2 (by rw [e]; exact hA))]
      exact h2.2.1 q g1 g2, fun q hq => by
      rcases List.mem_append.mp hq with h | h
      · exact h2.2.2 q h
      · obtain ⟨z, -, hz⟩ := List.mem_map.mp h
        rw [← hz]
        exact hA⟩ h3 _ hheap X'
  exact ⟨t, step t a1, b1⟩
/-! ends -/
theorem r_iret (C : jC p l s m args meth c g own cc nL (some .int)) {v : Int32} (hd : decode cc pc = .ok (.ireturn, 1)) (hk : k ≤ mc) (hn : n ≤ ms) (h : some ((.inl (some (.int v)), σ) : jO × Hp) = some (o, τ)) : jW p l e R s m args below meth c g (vx_MQ below (jQc g o τ) (jXC g o τ) args s mc ms (jA g)) k n pc lv [.int v] σ := by
  cases h
  exact fun H locs ls h1 h2 h3 => W.widen hk hn (vx_ret (W.iret C.1 C.2.1 C.2.2.2.2.2.2.2.1 (fun t ht hW => ⟨⟨_, rfl, rfl, by rw [ht]; exact h1⟩, h2.F ht⟩) (fun q hq => h2.2.2 q hq) hd C.2.2.2.2.2.1))
theorem r_zret {ty : FieldType} (C : jC p l s m args meth c g own cc nL (some ty)) {v : Int32} (hty : ∀ v, narrow ty (.int v) = .int (vp_nar ty v)) (hd : decode cc pc = .ok (.ireturn, 1)) (hk : k ≤ mc) (hn : n ≤ ms) (h : jrt ty v σ = some (o, τ)) : jW p l e R s m args below meth c g (vx_MQ below (jQc g o τ) (jXC g o τ) args s mc ms (jA g)) k n pc lv [.int v] σ := by
  obtain ⟨hv, h⟩ := jif_some h
  cases h
  exact fun H locs ls h1 h2 h3 => W.widen hk hn (vx_ret (W.zret C.1 C.2.1 C.2.2.2.2.2.2.2.1 (by rw [hty, hv]) (fun t ht hW => ⟨⟨_, rfl, rfl, by rw [ht]; exact h1⟩, h2.F ht⟩) (fun q hq => h2.2.2 q hq) hd C.2.2.2.2.2.1))
theorem r_aret {ty : FieldType} (C : jC p l s m args meth c g own cc nL (some ty)) {a : Nat} (hty : (∃ q, ty = .object q) ∨ ∃ q, ty = .array q) (hd : decode cc pc = .ok (.areturn, 1)) (hk : k ≤ mc) (hn : n ≤ ms) (h : some ((.inl (some (.ref a)), σ) : jO × Hp) = some (o, τ)) : jW p l e R s m args below meth c g (vx_MQ below (jQc g o τ) (jXC g o τ) args s mc ms (jA g)) k n pc lv [.ref a] σ := by
  cases h
  exact fun H locs ls h1 h2 h3 => W.widen hk hn (vx_ret (W.aret C.1 C.2.1 C.2.2.2.2.2.2.2.1 hty (Or.inr ⟨_, rfl⟩) (fun t ht hW => ⟨⟨_, rfl, rfl, by rw [ht]; exact h1⟩, h2.F ht⟩) (fun q hq => h2.2.2 q hq) hd C.2.2.2.2.2.1))
theorem r_vret (C : jC p l s m args meth c g own cc nL none) (hd : decode cc pc = .ok (.return_, 1)) (hk : k ≤ mc) (hn : n ≤ ms) (h : some ((.inl none, σ) : jO × Hp) = some (o, τ)) : jW p l e R s m args below meth c g (vx_MQ below (jQc g o τ) (jXC g o τ) args s mc ms (jA g)) k n pc lv [] σ := by
  cases h
  exact fun H locs ls h1 h2 h3 => W.widen hk hn (vx_ret (W.vret C.1 C.2.1 C.2.2.2.2.2.2.2.1 (fun t ht hW => ⟨⟨_, rfl, rfl, by rw [ht]; exact h1⟩, h2.F ht⟩) (fun q hq => h2.2.2 q hq) hd C.2.2.2.2.2.1))
/-- what isn't caught goes on to the caller -/
theorem r_out (C : jC p l s m args meth c g own cc nL rt) {E : String} (hout : ∀ x ∈ c.exceptionTable.toList, covers x pc = false) (hk : k ≤ mc) (hn : n ≤ ms) (h : some ((.inr E, σ) : jO × Hp) = some (o, τ)) : jX p l e R s m args below meth c g (vx_MQ below (jQc g o τ) (jXC g o τ) args s mc ms (jA g)) k n pc lv st σ E := by
  cases h
  exact fun H locs ls ce q h1 h2 h3 g1 g2 g3 => vx_out hout C.2.2.2.2.2.1 g1 g2 g3 (fun t ht hA => ⟨rfl, by rw [ht]; exact h1, h2.F ht⟩) (fun z hz => h2.2.2 z hz) hk hn
/-! calls -/
/-- behind a call: it has returned, or thrown -/
theorem r_run (C : jC p l s m args meth c g own cc nL rt) {J : jR} {K : Option Value → Hp → jR} {KX : String → Hp → jR} {st0 : List Value} {av : Array Value}
    (hr : ∀ o τ, J = some (o, τ) → ∀ (H : Heap) (locs : List Loc) (ls : Array Slot), jRel g σ H → va_S (jA g) s.heap H locs → lv_has ls c.maxLocals lv → vx_Run p l e R s m args below meth c H locs k n mc ms (F0 m pc ls st0) st (jQc g o τ av) (jXC g o τ) (jA g)) (h : jcs J K KX = some X)
    (kk : ∀ v τ, K v τ = some X → jW p l e R s m args below meth c g Q (k + mc) (n + ms) (pc + 3) lv (v.toList ++ st) τ) (kx : ∀ E τ, KX E τ = some X → jX p l e R s m args below meth c g Q (k + mc) (n + ms) pc lv st τ E) : jW p l e R s m args below meth c g Q k n pc lv st0 σ := by
  intro H locs ls h1 h2 h3 T hT XX
  rcases jcs_some h with ⟨v, τ, hJ, hK⟩ | ⟨E, τ, hJ, hK⟩
  · rcases hr _ _ hJ H locs ls h1 h2 h3 T hT XX with ⟨v', st₀, t, T', L, e0, X', hL, e1, e2, ⟨⟨v2, hv, hv', hrel⟩, hF⟩, st9⟩ | ⟨q, st₀, t, T', L, E, ce, e0, X', hL, e1, e2, ⟨hE, -⟩, -⟩
    · cases hv
      cases hv'
      obtain ⟨-, -, k3⟩ := vx_keep e0 e1 h2 (fun q _ hq => hq) (fun q hq => hq) hL hF
      obtain ⟨t2, a1, b1⟩ := kk v τ hK T'.heap (locs ++ L) ls (by rw [e1]; exact hrel) k3 h3 T' rfl X'
      exact ⟨t2, st9 t2 a1, b1⟩
    · cases hE
  · rcases hr _ _ hJ H locs ls h1 h2 h3 T hT XX with ⟨v', st₀, t, T', L, e0, X', hL, e1, e2, ⟨⟨v2, hv, hv', hrel⟩, hF⟩, st9⟩ | ⟨q, st₀, t, T', L, E', ce, e0, X', hL, e1, e2, ⟨hE, hrel, hF⟩, hce, hcv, hcl, st9⟩
    · cases hv
    · cases hE
      obtain ⟨-, -, k3⟩ := vx_keep e0 e1 h2 (fun q _ hq => hq) (fun q hq => hq) hL hF
      obtain ⟨t2, a1, b1⟩ := kx E τ hK T'.heap (locs ++ L) ls ce q (by rw [e1]; exact hrel) k3 h3 (by rw [e1]; exact hce) hcv hcl T' rfl X'
      exact ⟨t2, st9.trans a1, b1⟩
/-- a call's words, by its link -/
def jLk (own : String) (index : Nat) (y : MethodName) (bytes : ByteArray) (maxL : Nat) (ret : Option FieldType) (nA : Nat) : Prop :=
  Cond.methodLink own index y ∈ gT ∧ Cond.initialized y.cls ∈ gT ∧ Cond.code y bytes maxL ret ∈ gT ∧ (y.cls ≠ "java/lang/invoke/MethodHandle" ∧ y.cls ≠ "java/lang/invoke/VarHandle" ∧ (parseMethodDescriptor y.desc).map (fun d => d.parameters.length) = some nA)
/-- a private constructor's words, by its link -/
def jLkN (own : String) (index : Nat) (y : MethodName) (bytes : ByteArray) (maxL : Nat) (ret : Option FieldType) (nA : Nat) : Prop :=
  Cond.methodLinkNest own index y own ∈ jNt ∧ Cond.initialized y.cls ∈ gT ∧ Cond.code y bytes maxL ret ∈ gT ∧ (y.cls ≠ "java/lang/invoke/MethodHandle" ∧ y.cls ≠ "java/lang/invoke/VarHandle" ∧ (parseMethodDescriptor y.desc).map (fun d => d.parameters.length) = some nA)
theorem jWs {y : MethodName} {bytes : ByteArray} {maxL : Nat} {ret : Option FieldType} (h : Cond.code y bytes maxL ret ∈ gT) : GoodIn gT (Cond.code y bytes maxL ret :: gT) := by
  intro w hw
  rcases List.mem_cons.mp hw with rfl | hw
  · exact ⟨h, good_of_word (gT_good _ h)⟩
  · exact ⟨hw, good_of_word (gT_good _ hw)⟩
theorem jPre_at (C : jC p l s m args meth c g own cc nL rt) {H : Heap} {locs : List Loc} (h1 : jRel g σ H) (h2 : va_S (jA g) s.heap H locs) {U : State} (hU : U.heap = H) (hW : s.WarmedH U.vm) : jPre g σ U := by
  refine ⟨jSt_warm hW C.2.2.2.2.2.2.2.2.1, ?_, by rw [hU]; exact h1⟩
  rw [hU]
  exact jZt_moved hW.alike (jZt_kept C.2.2.2.2.2.2.2.2.2 h2)
theorem r_callS (C : jC p l s m args meth c g own cc nL rt) {index maxL nA : Nat} {y : MethodName} {bytes : ByteArray} {ret : Option FieldType} {rm : Room} {As st0 : List Value} {J : jR} {K : Option Value → Hp → jR} {KX : String → Hp → jR} (hw : jLk own index y bytes maxL ret nA) (hs : Cond.static y ∈ gT) (pc' k' n' : Nat) (hp : pc + 3 = pc') (hk : k + mc = k') (hn : n + ms = n') (hd : decode cc pc = .ok (.invokestatic index, 3))
    (hrc : rm.cells = mc) (hrs : rm.slots = ms) (hst : st0 = As.reverse ++ st) (hA : As.length = nA) (hcat : (st.map fun v => v.category).sum ≤ 8) (hR : rm.frames + 1 ≤ R.frames ∧ 8 + (maxL + 11) + rm.locals ≤ R.locals) (hf : k + mc ≤ R.cells ∧ n + ms ≤ R.slots)
    (hM : ∀ o τ, J = some (o, τ) → jMet l g y (Cond.code y bytes maxL ret :: gT) rm mc ms As σ o τ) (h : jcs J K KX = some X)
    (kk : ∀ v τ, K v τ = some X → jW p l e R s m args below meth c g Q k' n' pc' lv (v.toList ++ st) τ) (kx : ∀ E τ, KX E τ = some X → jX p l e R s m args below meth c g Q k' n' pc lv st τ E) : jW p l e R s m args below meth c g Q k n pc lv st0 σ := by
  subst hst
  subst hp
  subst hk
  subst hn
  obtain ⟨w1, w2, w3, w4⟩ := hw
  have hts := C.2.2.2.2.1
  refine r_run (av := As.toArray) C (fun o τ hJ H locs ls h1 h2 h3 => vx_runS (nL := c.maxLocals) ⟨C.1, C.2.1, rfl, C.2.2.2.1, hts⟩ (hM o τ hJ) ⟨callB_of nA hts (jWs w3) rfl hrc hrs (hts _ w2) (hts _ w1) w4 hR, hts _ hs⟩ ⟨jPre_blind, fun U hU hW => ⟨rfl, jPre_at C h1 h2 hU hW⟩⟩ rfl hA h3.1 rfl (lv_room hcat) hd hf) h kk kx
theorem r_callV (C : jC p l s m args meth c g own cc nL rt) {index maxL nA b ci : Nat} {y : MethodName} {bytes : ByteArray} {ret : Option FieldType} {rm : Room} {Cn : String} {T : u_T} {N : Nat} {As st0 : List Value} {J : jR} {K : Option Value → Hp → jR} {KX : String → Hp → jR} (hw : jLk own index y bytes maxL ret nA) (hs : Cond.instanceMethod y ∈ gT) (hse : Cond.selects Cn y y ∈ gT) (f1 : jCl[ci]? = some (Cn, T, N)) (pc' k' n' : Nat) (hp : pc + 3 = pc') (hk : k + mc = k') (hn : n + ms = n') (hd : decode cc pc = .ok (.invokevirtual index, 3))
    (hrc : rm.cells = mc) (hrs : rm.slots = ms) (hst : st0 = As.reverse ++ .ref b :: st) (hA : As.length = nA) (hcat : (st.map fun v => v.category).sum ≤ 8) (hR : rm.frames + 1 ≤ R.frames ∧ 8 + (maxL + 11) + rm.locals ≤ R.locals) (hf : k + mc ≤ R.cells ∧ n + ms ≤ R.slots)
    (hM : ∀ o τ, J = some (o, τ) → jMet l g y (Cond.code y bytes maxL ret :: gT) rm mc ms (.ref b :: As) σ o τ) (h : jcv σ b ci J K KX = some X)
    (kk : ∀ v τ, K v τ = some X → jW p l e R s m args below meth c g Q k' n' pc' lv (v.toList ++ st) τ) (kx : ∀ E τ, KX E τ = some X → jX p l e R s m args below meth c g Q k' n' pc lv st τ E) : jW p l e R s m args below meth c g Q k n pc lv st0 σ := by
  subst hst
  subst hp
  subst hk
  subst hn
  obtain ⟨hkd, h⟩ := jcv_some h
  obtain ⟨w1, w2, w3, w4⟩ := hw
  have hts := C.2.2.2.2.1
  have hK := C.2.2.2.2.2.2.2.2.1.1
  refine r_run (av := (.ref b :: As : List Value).toArray) C (fun o τ hJ H locs ls h1 h2 h3 => vx_runV (nL := c.maxLocals) ⟨C.1, C.2.1, rfl, C.2.2.2.1, hts⟩ (hM o τ hJ) ⟨callB_of nA hts (jWs w3) rfl hrc hrs (hts _ w2) (hts _ w1) w4 hR, hts _ hs, hts _ hse⟩ ⟨jPre_blind, ?_, fun U hU hW => ⟨rfl, jPre_at C h1 h2 hU hW⟩⟩ rfl hA h3.1 rfl (lv_room hcat) hd hf) h kk kx
  exact va_recv hK (h1.one hkd (jEl_obj hkd)) (ci := ci) (q0 := 0) f1 rfl
theorem r_callVS (C : jC p l s m args meth c g own cc nL rt) {index maxL nA b : Nat} {y : MethodName} {bytes : ByteArray} {ret : Option FieldType} {rm : Room} {As st0 : List Value} {J : jR} {K : Option Value → Hp → jR} {KX : String → Hp → jR} (hw : jLk own index y bytes maxL ret nA) (hs : Cond.instanceMethod y ∈ gT) (hse : Cond.selects RJ0 y y ∈ gT) (pc' k' n' : Nat) (hp : pc + 3 = pc') (hk : k + mc = k') (hn : n + ms = n') (hd : decode cc pc = .ok (.invokevirtual index, 3))
    (hrc : rm.cells = mc) (hrs : rm.slots = ms) (hst : st0 = As.reverse ++ .ref b :: st) (hA : As.length = nA) (hcat : (st.map fun v => v.category).sum ≤ 8) (hR : rm.frames + 1 ≤ R.frames ∧ 8 + (maxL + 11) + rm.locals ≤ R.locals) (hf : k + mc ≤ R.cells ∧ n + ms ≤ R.slots)
    (hM : ∀ o τ, J = some (o, τ) → jMet l g y (Cond.code y bytes maxL ret :: gT) rm mc ms (.ref b :: As) σ o τ) (h : jcvS σ b J K KX = some X)
    (kk : ∀ v τ, K v τ = some X → jW p l e R s m args below meth c g Q k' n' pc' lv (v.toList ++ st) τ) (kx : ∀ E τ, KX E τ = some X → jX p l e R s m args below meth c g Q k' n' pc lv st τ E) : jW p l e R s m args below meth c g Q k n pc lv st0 σ := by
  subst hst
  subst hp
  subst hk
  subst hn
  obtain ⟨hkd, h⟩ := jcvS_some h
  obtain ⟨w1, w2, w3, w4⟩ := hw
  have hts := C.2.2.2.2.1
  have hK := C.2.2.2.2.2.2.2.2.1.1
  refine r_run (av := (.ref b :: As : List Value).toArray) C (fun o τ hJ H locs ls h1 h2 h3 => vx_runV (nL := c.maxLocals) ⟨C.1, C.2.1, rfl, C.2.2.2.1, hts⟩ (hM o τ hJ) ⟨callB_of nA hts (jWs w3) rfl hrc hrs (hts _ w2) (hts _ w1) w4 hR, hts _ hs, hts _ hse⟩ ⟨jPre_blind, ?_, fun U hU hW => ⟨rfl, jPre_at C h1 h2 hU hW⟩⟩ rfl hA h3.1 rfl (lv_room hcat) hd hf) h kk kx
  rcases hkd with hkd | hkd
  · exact va_recv hK (h1.one hkd (jEl_obj hkd)) (ci := 7) (q0 := 0) rfl rfl
  · obtain ⟨-, h9⟩ := h1.2.2.2 b (Or.inr hkd)
    rcases h9 with ⟨h9, -⟩ | ⟨-, i, hi, rfl, -, -⟩
    · rw [hkd] at h9; cases h9
    · exact vk_recv C.2.2.2.2.2.2.2.2.2.2.2.2.2.2.1 hi h2
theorem r_callI (C : jC p l s m args meth c g own cc nL rt) {index maxL nA b ci : Nat} {y : MethodName} {bytes : ByteArray} {rm : Room} {As st0 : List Value} {J : jR} {K : Option Value → Hp → jR} {KX : String → Hp → jR} (hw : jLk own index y bytes maxL none nA) (hs : Cond.instanceMethod y ∈ gT) (hin : y.name = "<init>") (pc' k' n' : Nat) (hp : pc + 3 = pc') (hk : k + mc = k') (hn : n + ms = n') (hd : decode cc pc = .ok (.invokespecial index, 3))
    (hrc : rm.cells = mc) (hrs : rm.slots = ms) (hst : st0 = As.reverse ++ .ref b :: st) (hA : As.length = nA) (hcat : (st.map fun v => v.category).sum ≤ 8) (hR : rm.frames + 1 ≤ R.frames ∧ 8 + (maxL + 11) + rm.locals ≤ R.locals) (hf : k + mc ≤ R.cells ∧ n + ms ≤ R.slots)
    (hM : ∀ o τ, J = some (o, τ) → jMet l g y (Cond.code y bytes maxL none :: gT) rm mc ms (.ref b :: As) σ o τ) (h : jcv σ b ci J K KX = some X)
    (kk : ∀ v τ, K v τ = some X → jW p l e R s m args below meth c g Q k' n' pc' lv (v.toList ++ st) τ) (kx : ∀ E τ, KX E τ = some X → jX p l e R s m args below meth c g Q k' n' pc lv st τ E) : jW p l e R s m args below meth c g Q k n pc lv st0 σ := by
  subst hst
  subst hp
  subst hk
  subst hn
  obtain ⟨hkd, h⟩ := jcv_some h
  obtain ⟨w1, w2, w3, w4⟩ := hw
  have hts := C.2.2.2.2.1
  exact r_run (av := (.ref b :: As : List Value).toArray) C (fun o τ hJ H locs ls h1 h2 h3 => vx_runI (nL := c.maxLocals) ⟨C.1, C.2.1, rfl, C.2.2.2.1, hts⟩ (hM o τ hJ) ⟨callB_of nA hts (jWs w3) rfl hrc hrs (hts _ w2) (hts _ w1) w4 hR, hin, hts _ hs⟩ ⟨jPre_blind, fun U hU hW => ⟨rfl, jPre_at C h1 h2 hU hW⟩⟩ rfl hA h3.1 rfl (lv_room hcat) hd hf) h kk kx
theorem r_callIN (C : jC p l s m args meth c g own cc nL rt) {index maxL nA b ci : Nat} {y : MethodName} {bytes : ByteArray} {rm : Room} {As st0 : List Value} {J : jR} {K : Option Value → Hp → jR} {KX : String → Hp → jR} (hw : jLkN own index y bytes maxL none nA) (hs : Cond.instanceMethod y ∈ gT) (hin : y.name = "<init>") (pc' k' n' : Nat) (hp : pc + 3 = pc') (hk : k + mc = k') (hn : n + ms = n') (hd : decode cc pc = .ok (.invokespecial index, 3))
    (hrc : rm.cells = mc) (hrs : rm.slots = ms) (hst : st0 = As.reverse ++ .ref b :: st) (hA : As.length = nA) (hcat : (st.map fun v => v.category).sum ≤ 8) (hR : rm.frames + 1 ≤ R.frames ∧ 8 + (maxL + 11) + rm.locals ≤ R.locals) (hf : k + mc ≤ R.cells ∧ n + ms ≤ R.slots)
    (hM : ∀ o τ, J = some (o, τ) → jMet l g y (Cond.code y bytes maxL none :: gT) rm mc ms (.ref b :: As) σ o τ) (h : jcv σ b ci J K KX = some X)
    (kk : ∀ v τ, K v τ = some X → jW p l e R s m args below meth c g Q k' n' pc' lv (v.toList ++ st) τ) (kx : ∀ E τ, KX E τ = some X → jX p l e R s m args below meth c g Q k' n' pc lv st τ E) : jW p l e R s m args below meth c g Q k n pc lv st0 σ := by
  subst hst
  subst hp
  subst hk
  subst hn
  obtain ⟨hkd, h⟩ := jcv_some h
  obtain ⟨w1, w2, w3, w4⟩ := hw
  have hts := C.2.2.2.2.1
  exact r_run (av := (.ref b :: As : List Value).toArray) C (fun o τ hJ H locs ls h1 h2 h3 => vx_runIN (nL := c.maxLocals) (host := own) ⟨C.1, C.2.1, rfl, C.2.2.2.1, hts⟩ (hM o τ hJ) ⟨va_cnB nA hts (jWs w3) rfl hrc hrs (C.2.2.2.2.2.2.2.2.1.2.1 _ w1) (hts _ w2) w4 hR, hin, hts _ hs⟩ ⟨jPre_blind, fun U hU hW => ⟨rfl, jPre_at C h1 h2 hU hW⟩⟩ rfl hA h3.1 rfl (lv_room hcat) hd hf) h kk kx
/-- a call of a method of the class above, found by the receiver: its words -/
def jLkU (own : String) (index : Nat) (Cn owner : String) (x y : MethodName) (bytes : ByteArray) (maxL : Nat) (ret : Option FieldType) (nA : Nat) : Prop :=
  Cond.methodLink own index x ∈ gT ∧ Cond.sameMethod x.cls owner x.name x.desc ∈ gT ∧ Cond.selects Cn x y ∈ gT ∧ Cond.instanceMethod y ∈ gT ∧ Cond.initialized y.cls ∈ gT ∧ Cond.code y bytes maxL ret ∈ gT ∧ (∃ b0 m0 r0, Cond.instanceMethod ⟨owner, x.name, x.desc⟩ ∈ gT ∧ Cond.code ⟨owner, x.name, x.desc⟩ b0 m0 r0 ∈ gT) ∧ (owner ≠ "java/lang/invoke/MethodHandle" ∧ owner ≠ "java/lang/invoke/VarHandle") ∧ (parseMethodDescriptor x.desc).map (fun d => d.parameters.length) = some nA
theorem r_callU (C : jC p l s m args meth c g own cc nL rt) {index maxL nA b ci : Nat} {x y : MethodName} {bytes : ByteArray} {ret : Option FieldType} {rm : Room} {Cn owner : String} {T : u_T} {N : Nat} {As st0 : List Value} {J : jR} {K : Option Value → Hp → jR} {KX : String → Hp → jR} (hw : jLkU own index Cn owner x y bytes maxL ret nA) (f1 : jCl[ci]? = some (Cn, T, N)) (pc' k' n' : Nat) (hp : pc + 3 = pc') (hk : k + mc = k') (hn : n + ms = n') (hd : decode cc pc = .ok (.invokevirtual index, 3))
    (hrc : rm.cells = mc) (hrs : rm.slots = ms) (hst : st0 = As.reverse ++ .ref b :: st) (hA : As.length = nA) (hcat : (st.map fun v => v.category).sum ≤ 8) (hR : rm.frames + 1 ≤ R.frames ∧ 8 + (maxL + 11) + rm.locals ≤ R.locals) (hf : k + mc ≤ R.cells ∧ n + ms ≤ R.slots)
    (hM : ∀ o τ, J = some (o, τ) → jMet l g y (Cond.code y bytes maxL ret :: gT) rm mc ms (.ref b :: As) σ o τ) (h : jcv σ b ci J K KX = some X)
    (kk : ∀ v τ, K v τ = some X → jW p l e R s m args below meth c g Q k' n' pc' lv (v.toList ++ st) τ) (kx : ∀ E τ, KX E τ = some X → jX p l e R s m args below meth c g Q k' n' pc lv st τ E) : jW p l e R s m args below meth c g Q k n pc lv st0 σ := by
  subst hst
  subst hp
  subst hk
  subst hn
  obtain ⟨hkd, h⟩ := jcv_some h
  obtain ⟨w1, w2, w3, w4, w5, w6, ⟨b0, m0, r0, w7, w8⟩, w9, w10⟩ := hw
  have hts := C.2.2.2.2.1
  have hK := C.2.2.2.2.2.2.2.2.1.1
  refine r_run (av := (.ref b :: As : List Value).toArray) C (fun o τ hJ H locs ls h1 h2 h3 => vx_runU (nL := c.maxLocals) ⟨C.1, C.2.1, rfl, C.2.2.2.1, hts⟩ (hM o τ hJ) ⟨⟨hrc, hrs, hR.1, hR.2, pay_in hts (jWs w6), List.mem_cons_self⟩, hts _ w6, hts _ w5, w9, fun sig h => ?_, hts _ w1, hts _ w2, va_Decl.of (hts _ w7) (hts _ w8), hts _ w3, hts _ w4⟩ ⟨jPre_blind, ?_, fun U hU hW => ⟨rfl, jPre_at C h1 h2 hU hW⟩⟩ rfl hA h3.1 rfl (lv_room hcat) hd hf) h kk kx
  · rw [h] at w10
    exact (Option.some.inj w10).symm
  · exact va_recv hK (h1.one hkd (jEl_obj hkd)) (ci := ci) (q0 := 0) f1 rfl
/-- super.m(..): its words -/
def jLkS (own : String) (index : Nat) (y : MethodName) (bytes : ByteArray) (maxL : Nat) (ret : Option FieldType) (nA : Nat) : Prop :=
  Cond.methodLink own index y ∈ gT ∧ Cond.sameMethod y.cls y.cls y.name y.desc ∈ gT ∧ Cond.superclass own y.cls ∈ gT ∧ Cond.instanceMethod y ∈ gT ∧ Cond.initialized y.cls ∈ gT ∧ Cond.code y bytes maxL ret ∈ gT ∧ (y.cls ≠ "java/lang/invoke/MethodHandle" ∧ y.cls ≠ "java/lang/invoke/VarHandle" ∧ y.name ≠ "<init>") ∧ (parseMethodDescriptor y.desc).map (fun d => d.parameters.length) = some nA
theorem r_callSU (C : jC p l s m args meth c g own cc nL rt) {index maxL nA b ci : Nat} {y : MethodName} {bytes : ByteArray} {ret : Option FieldType} {rm : Room} {Cn : String} {T : u_T} {N : Nat} {As st0 : List Value} {J : jR} {K : Option Value → Hp → jR} {KX : String → Hp → jR} (hw : jLkS own index y bytes maxL ret nA) (f1 : jCl[ci]? = some (Cn, T, N)) (pc' k' n' : Nat) (hp : pc + 3 = pc') (hk : k + mc = k') (hn : n + ms = n') (hd : decode cc pc = .ok (.invokespecial index, 3))
    (hrc : rm.cells = mc) (hrs : rm.slots = ms) (hst : st0 = As.reverse ++ .ref b :: st) (hA : As.length = nA) (hcat : (st.map fun v => v.category).sum ≤ 8) (hR : rm.frames + 1 ≤ R.frames ∧ 8 + (maxL + 11) + rm.locals ≤ R.locals) (hf : k + mc ≤ R.cells ∧ n + ms ≤ R.slots)
    (hM : ∀ o τ, J = some (o, τ) → jMet l g y (Cond.code y bytes maxL ret :: gT) rm mc ms (.ref b :: As) σ o τ) (h : jcv σ b ci J K KX = some X)
    (kk : ∀ v τ, K v τ = some X → jW p l e R s m args below meth c g Q k' n' pc' lv (v.toList ++ st) τ) (kx : ∀ E τ, KX E τ = some X → jX p l e R s m args below meth c g Q k' n' pc lv st τ E) : jW p l e R s m args below meth c g Q k n pc lv st0 σ := by
  subst hst
  subst hp
  subst hk
  subst hn
  obtain ⟨hkd, h⟩ := jcv_some h
  obtain ⟨w1, w2, w3, w4, w5, w6, w7, w8⟩ := hw
  have hts := C.2.2.2.2.1
  have hK := C.2.2.2.2.2.2.2.2.1.1
  refine r_run (av := (.ref b :: As : List Value).toArray) C (fun o τ hJ H locs ls h1 h2 h3 => vx_runSU (nL := c.maxLocals) (hK.1 ci _ f1).2 ⟨C.1, C.2.1, rfl, C.2.2.2.1, hts⟩ (hM o τ hJ) ⟨⟨hrc, hrs, hR.1, hR.2, pay_in hts (jWs w6), List.mem_cons_self⟩, hts _ w1, hts _ w2, hts _ w3, hts _ w4, hts _ w5, hts _ w6, w7.2.2, fun sig h => ?_⟩ ⟨jPre_blind, ?_, fun U hU hW => ⟨rfl, jPre_at C h1 h2 hU hW⟩⟩ rfl hA h3.1 rfl (lv_room hcat) hd hf) h kk kx
  · rw [h] at w8
    exact (Option.some.inj w8).symm
  · exact va_recv hK (h1.one hkd (jEl_obj hkd)) (ci := ci) (q0 := 0) f1 rfl
theorem r_objInit (C : jC p l s m args meth c g own cc nL rt) {index : Nat} {a : Nat} (pc' : Nat) (hp : pc + 3 = pc') (hw : Cond.methodLink own index Lib.objectInit ∈ gT) (hs : Cond.instanceMethod Lib.objectInit ∈ gT) (hc : Cond.code Lib.objectInit ⟨#[0xb1]⟩ 1 none ∈ gT) (hd : decode cc pc = .ok (.invokespecial index, 3)) (hframes : 1 ≤ R.frames) (hlocals : (st.map fun v => v.category).sum + 12 ≤ R.locals)
    (kk : jW p l e R s m args below meth c g Q k n pc' lv st σ) : jW p l e R s m args below meth c g Q k n pc lv (.ref a :: st) σ := by
  subst hp
  have hts := C.2.2.2.2.1
  exact fun H locs ls h1 h2 h3 => W.objInit C.1 C.2.1 C.2.2.2.1 (hts _ hw) (hts _ hs) (hts _ hc) rfl h3.1 rfl hd hframes (by show 2 * 0 + _ + 12 ≤ _; omega) (kk H locs ls h1 h2 h3)
theorem r_mmin (C : jC p l s m args meth c g own cc nL rt) {index : Nat} {x y : Int32} (pc' : Nat) (hp : pc + 3 = pc') (hw : Cond.methodLink own index Lib.Math.min.name ∈ gT) (hs : Cond.static Lib.Math.min.name ∈ gT) (hi : Cond.initialized "java/lang/Math" ∈ gT) (hc : Cond.code Lib.Math.min.name Lib.Math.min.code 2 (some .int) ∈ gT) (hd : decode cc pc = .ok (.invokestatic index, 3)) (hframes : 1 ≤ R.frames) (hlocals : (st.map fun v => v.category).sum + 13 ≤ R.locals) (hk : k ≤ R.cells) (hn : n ≤ R.slots)
    (kk : jW p l e R s m args below meth c g Q k n pc' lv (.int (if y < x then y else x) :: st) σ) : jW p l e R s m args below meth c g Q k n pc lv (.int y :: .int x :: st) σ := by
  subst hp
  have hts := C.2.2.2.2.1
  exact fun H locs ls h1 h2 h3 => va_mmin C.1 C.2.1 h3.1.symm C.2.2.2.1 (hts _ hw) (hts _ hs) (hts _ hi) (hts _ hc) hframes hlocals hk hn hd (kk H locs ls h1 h2 h3)
theorem r_mmax (C : jC p l s m args meth c g own cc nL rt) {index : Nat} {x y : Int32} (pc' : Nat) (hp : pc + 3 = pc') (hw : Cond.methodLink own index Lib.Math.max.name ∈ gT) (hs : Cond.static Lib.Math.max.name ∈ gT) (hi : Cond.initialized "java/lang/Math" ∈ gT) (hc : Cond.code Lib.Math.max.name Lib.Math.max.code 2 (some .int) ∈ gT) (hd : decode cc pc = .ok (.invokestatic index, 3)) (hframes : 1 ≤ R.frames) (hlocals : (st.map fun v => v.category).sum + 13 ≤ R.locals) (hk : k ≤ R.cells) (hn : n ≤ R.slots)
    (kk : jW p l e R s m args below meth c g Q k n pc' lv (.int (if x < y then y else x) :: st) σ) : jW p l e R s m args below meth c g Q k n pc lv (.int y :: .int x :: st) σ := by
  subst hp
  have hts := C.2.2.2.2.1
  exact fun H locs ls h1 h2 h3 => va_mmax C.1 C.2.1 h3.1.symm C.2.2.2.1 (hts _ hw) (hts _ hs) (hts _ hi) (hts _ hc) hframes hlocals hk hn hd (kk H locs ls h1 h2 h3)
end JCALLS
abbrev jQ (below : List Frame) (g : jG) (o : jO) (τ : Hp) (args : Array Value) (s : State) (mc ms : Nat) : State → Prop := vx_MQ below (jQc g o τ) (jXC g o τ) args s mc ms (jA g)
theorem j_start (l : Launch) (hst : l.stackTraces = false) {g : jG} {y : MethodName} {rm : Room} {mc ms : Nat} {av : List Value} {σ τ : Hp} {o : jO} {cc : ByteArray} {maxL : Nat} {ret : Option FieldType} {own : String} (hy : plainName y.cls = true) (ho : y.cls = own) (hlen : (lg_sl av).length ≤ maxL)
    (body : ∀ p e s m args below meth c, jC p l s m args meth c g own cc maxL ret → (∀ x ∈ c.exceptionTable.toList, False) → meth.name = y.name → jW p l e rm s m args below meth c g (jQ below g o τ args s mc ms) 0 0 0 (lv_args 0 av) [] σ) : jMet l g y (Cond.code y cc maxL ret :: gT) rm mc ms av σ o τ := by
  refine vx_ofW (cc := cc) (maxL := maxL) (ret := ret) (ws' := gT) hy rfl ?_
  intro p e s m args below meth c s₁ B hml hE hv
  obtain ⟨rfl, hS, hZ, hR⟩ := hv
  have hts := atoms_spec (ws := Cond.code y cc maxL ret :: gT) B.pre
  have C : jC p l s m av.toArray meth c g own cc maxL ret := ⟨B.exec, B.bytes, hml, by rw [← ho]; exact findClass_of_methodNamed B.named, fun w hw => hts w (List.mem_cons_of_mem _ hw), B.notSynchronized, hst, B.returns, hS, hZ⟩
  have K := body p e s m _ below meth c C hE (name_of_methodNamed B.named B.method).1
  have hl := lv_entry av (n := maxL) hlen
  rw [lg_entry_eq]
  exact K s.heap [] _ hR va_S.rf (by rw [hml]; exact hl)
end
section
/-! bytes, chars, Strings, texts, statics -/
section JBYT
variable {p : Program} {l : Launch} {e : Env} {R : Room} {s : State} {m : MethodId} {args : Array Value} {below : List Frame} {meth : Method} {c : Code} {g : jG} {Q : State → Prop} {own : String} {cc : ByteArray} {nL k n pc : Nat} {rt : Option FieldType} {lv lv' : List (Nat × Value)} {st : List Value} {σ τ : Hp} {X : jO × Hp} {o : jO} {mc ms : Nat}
theorem ite_some {P : Prop} {i : Decidable P} {K : jR} {X : jO × Hp} (h : (@ite _ P i K none) = some X) : P ∧ K = some X := jif_some h
/-- a text's bytes -/
theorem jTxt (C : jC p l s m args meth c g own cc nL rt) {H : Heap} (h1 : jRel g σ H) {a : Nat} (hk : (kdH σ a).1 = 16) : va_T .byte a (kdH σ a).2 (fun j => .int (inH σ a j)) (jA g) s s.heap := by
  obtain ⟨-, h9⟩ := h1.2.2.2 a (Or.inl hk)
  rcases h9 with ⟨-, i, hi, rfl, e1, e2⟩ | ⟨h9, -⟩
  · have := (C.2.2.2.2.2.2.2.2.2.2.2.2.2.2.1.1 i hi).2.2.2
    rw [e1, show (fun j => Value.int (inH σ (gKv g i) j)) = (fun j => .int ((kByt.getD i []).getD j 0)) from funext fun j => by rw [e2]]
    exact this
  · rw [hk] at h9; cases h9
theorem r_alenB (C : jC p l s m args meth c g own cc nL rt) {a : Nat} {K : Int32 → jR} (pc' : Nat) (hp : pc + 1 = pc') (hd : decode cc pc = .ok (.arraylength, 1)) (h : jalB σ a K = some X)
    (kk : ∀ v, K v = some X → jW p l e R s m args below meth c g Q k n pc' lv (.int v :: st) σ) : jW p l e R s m args below meth c g Q k n pc lv (.ref a :: st) σ := by
  subst hp
  obtain ⟨hk, h'⟩ := ite_some h
  intro H locs ls h1 h2 h3
  rcases hk with hk | hk
  · exact va_alen C.1 C.2.1 C.2.2.2.2.2.2.2.2.1.1 (h1.one (jk2 hk) (jEl_byt (jk2 hk))) 0 1 rfl rfl rfl hd (kk _ h' H locs ls h1 h2 h3)
  · obtain ⟨cell, g1, g2, g3, g4, g5, g6, g7⟩ := jTxt C h1 hk
    have hc : H[a]? = some cell := by rw [h2.2.1 a (Array.getElem?_eq_some_iff.mp g1).1 g7]; exact g1
    exact W.alen C.1 C.2.1 hc g2 g5 rfl rfl hd (kk _ h' H locs ls h1 h2 h3)
theorem r_bald (C : jC p l s m args meth c g own cc nL rt) {a : Nat} {i : Int32} {K : Int32 → jR} (pc' : Nat) (hp : pc + 1 = pc') (hd : decode cc pc = .ok (.baload, 1)) (h : jaB σ a i K = some X)
    (kk : ∀ v, K v = some X → jW p l e R s m args below meth c g Q k n pc' lv (.int v :: st) σ) : jW p l e R s m args below meth c g Q k n pc lv (.int i :: .ref a :: st) σ := by
  subst hp
  obtain ⟨⟨hk, hi⟩, h'⟩ := ite_some h
  intro H locs ls h1 h2 h3
  rcases hk with hk | hk
  · exact va_bald C.1 C.2.1 C.2.2.2.2.2.2.2.2.1.1 (h1.one (jk2 hk) (jEl_byt (jk2 hk))) 0 1 rfl rfl hi hd (kk _ h' H locs ls h1 h2 h3)
  · obtain ⟨cell, g1, g2, g3, g4, g5, g6, g7⟩ := jTxt C h1 hk
    have hc : H[a]? = some cell := by rw [h2.2.1 a (Array.getElem?_eq_some_iff.mp g1).1 g7]; exact g1
    have hi2 : i.toNatClampNeg < (kdH σ a).2 := Nat.not_le.mp fun q => hi (Or.inr q)
    exact W.bald C.1 C.2.1 hc g2 g3 (fun q => q.elim (fun q => hi (Or.inl q)) (fun q => by omega)) (g6 _ hi2) rfl rfl hd (kk _ h' H locs ls h1 h2 h3)
theorem r_cald (C : jC p l s m args meth c g own cc nL rt) {a : Nat} {i : Int32} {K : Int32 → jR} (pc' : Nat) (hp : pc + 1 = pc') (hd : decode cc pc = .ok (.caload, 1)) (h : jaC σ a i K = some X)
    (kk : ∀ v, K v = some X → jW p l e R s m args below meth c g Q k n pc' lv (.int v :: st) σ) : jW p l e R s m args below meth c g Q k n pc lv (.int i :: .ref a :: st) σ := by
  subst hp
  obtain ⟨⟨hk, hi⟩, h'⟩ := jif_some h
  intro H locs ls h1 h2 h3
  exact va_cald C.1 C.2.1 C.2.2.2.2.2.2.2.2.1.1 (h1.one (jk2 hk) (jEl_chr (jk2 hk))) 0 2 rfl rfl hi hd (kk _ h' H locs ls h1 h2 h3)
theorem r_aaldS (C : jC p l s m args meth c g own cc nL rt) {a : Nat} {i : Int32} {K : Option Nat → jR} (pc' : Nat) (hp : pc + 1 = pc') (hd : decode cc pc = .ok (.aaload, 1)) (h : jaS σ a i K = some X)
    (kk : ∀ v, K v = some X → jW p l e R s m args below meth c g Q k n pc' lv (va_rf v :: st) σ) : jW p l e R s m args below meth c g Q k n pc lv (.int i :: .ref a :: st) σ := by
  subst hp
  obtain ⟨⟨hk, hi⟩, h'⟩ := jif_some h
  exact fun H locs ls h1 h2 h3 => va_aldq C.1 C.2.1 C.2.2.2.2.2.2.2.2.1.1 (h1.one (jk2 hk) (jEl_str (jk2 hk))) 0 4 rfl rfl hi hd (kk _ h' H locs ls h1 h2 h3)
theorem vp_nar_eqB (v : Int32) : narrow .byte (.int v) = .int (vp_nar .byte v) := rfl
theorem vp_nar_eqC (v : Int32) : narrow .char (.int v) = .int (vp_nar .char v) := rfl
theorem r_bast (C : jC p l s m args meth c g own cc nL rt) {a : Nat} {i v : Int32} {K : Hp → jR} (pc' : Nat) (hp : pc + 1 = pc') (hd : decode cc pc = .ok (.bastore, 1)) (h : jsB σ a i v K = some X)
    (kk : ∀ τ, K τ = some X → jW p l e R s m args below meth c g Q k n pc' lv st τ) : jW p l e R s m args below meth c g Q k n pc lv (.int v :: .int i :: .ref a :: st) σ := by
  subst hp
  obtain ⟨⟨hk, hi⟩, h⟩ := jif_some h
  intro H locs ls h1 h2 h3
  have hc := (h1.my (jk2 hk)).2
  rw [jEl_byt (jk2 hk)] at hc
  have hc' : H[a]? = some (vp_cell (gcB g) ((kdH σ a).2, .inl (inH σ a))) := hc
  rw [vp_cell_i] at hc'
  refine W.bast C.1 C.2.1 hc' ((C.2.2.2.2.2.2.2.2.1.1.2 1 _ rfl).1 _ _) (fun q => by cases q) (by rw [arrV_size]; exact hi) rfl rfl hd fun H1 e z oq => ?_
  refine kk _ h H1 _ ls (h1.upd (h1.my (jk2 hk)).1 rfl rfl ?_ z oq (fun q hq j => inS_ne hq j) (fun q hq j => rfl)) (h2.put z oq (h1.my (jk2 hk)).1) h3
  rw [jEl_byt (σ := inS σ a i.toNatClampNeg (vp_nar .byte v)) (jk2 hk)]
  show H1[a]? = some (vp_cell _ _)
  rw [e, vp_cell_i, arrV_store]
  congr 2
  funext q
  by_cases hq : q = i.toNatClampNeg
  · subst hq
    simp [updV, inH, inS, u2]
    exact vp_nar_eqB v
  · simp [updV, inH, inS, u2, hq]
theorem r_cast (C : jC p l s m args meth c g own cc nL rt) {a : Nat} {i v : Int32} {K : Hp → jR} (pc' : Nat) (hp : pc + 1 = pc') (hd : decode cc pc = .ok (.castore, 1)) (h : jsC σ a i v K = some X)
    (kk : ∀ τ, K τ = some X → jW p l e R s m args below meth c g Q k n pc' lv st τ) : jW p l e R s m args below meth c g Q k n pc lv (.int v :: .int i :: .ref a :: st) σ := by
  subst hp
  obtain ⟨⟨hk, hi⟩, h⟩ := jif_some h
  intro H locs ls h1 h2 h3
  have hc := (h1.my (jk2 hk)).2
  rw [jEl_chr (jk2 hk)] at hc
  have hc' : H[a]? = some (vp_cell (gcC g) ((kdH σ a).2, .inl (inH σ a))) := hc
  rw [vp_cell_i] at hc'
  refine W.cast C.1 C.2.1 hc' ((C.2.2.2.2.2.2.2.2.1.1.2 2 _ rfl).1 _ _) (fun q => by cases q) (by rw [arrV_size]; exact hi) rfl rfl hd fun H1 e z oq => ?_
  refine kk _ h H1 _ ls (h1.upd (h1.my (jk2 hk)).1 rfl rfl ?_ z oq (fun q hq j => inS_ne hq j) (fun q hq j => rfl)) (h2.put z oq (h1.my (jk2 hk)).1) h3
  rw [jEl_chr (σ := inS σ a i.toNatClampNeg (vp_nar .char v)) (jk2 hk)]
  show H1[a]? = some (vp_cell _ _)
  rw [e, vp_cell_i, arrV_store]
  congr 2
  funext q
  by_cases hq : q = i.toNatClampNeg
  · subst hq
    simp [updV, inH, inS, u2]
    exact vp_nar_eqC v
  · simp [updV, inH, inS, u2, hq]
theorem r_aastS (C : jC p l s m args meth c g own cc nL rt) {a v : Nat} {i : Int32} {K : Hp → jR} (pc' : Nat) (hp : pc + 1 = pc') (hd : decode cc pc = .ok (.aastore, 1)) (h : jsS σ a i v K = some X)
    (kk : ∀ τ, K τ = some X → jW p l e R s m args below meth c g Q k n pc' lv st τ) : jW p l e R s m args below meth c g Q k n pc lv (.ref v :: .int i :: .ref a :: st) σ := by
  subst hp
  obtain ⟨⟨hk, hkv, hi⟩, h⟩ := jif_some h
  intro H locs ls h1 h2 h3
  have hK := C.2.2.2.2.2.2.2.2.1.1
  have hc := (h1.my (jk2 hk)).2
  rw [jEl_str (jk2 hk)] at hc
  have hc' : H[a]? = some (vp_cell (gcS g) ((kdH σ a).2, .inr (.inr (.inr (.inr (rfH σ a)))))) := hc
  rw [vp_cell_q] at hc'
  obtain ⟨r', hr', cellV, g1, g2, g3, -⟩ := (h1.one hkv (jEl_obj hkv)) 0 _ rfl
  have hcls := (hK.1 7 (RJ0, TJ0, 4) rfl).2
  obtain ⟨kA, comp, k1, k2, k3, -⟩ := (hK.2 4 (gcS g, .object RJ0) rfl).2
  have hcomp : comp = (gDs g).1 7 := Option.some.inj (k3.symm.trans hcls.1)
  subst hcomp
  obtain ⟨kC, hkC, -⟩ := hcls.2
  have hi1 : ¬ i < 0 := fun q => hi (Or.inl q)
  have hi2 : i.toNatClampNeg < (kdH σ a).2 := Nat.not_le.mp fun q => hi (Or.inr q)
  refine W.aast C.1 C.2.1 hc' (fun q h => by cases h) (fun h => by cases h) k1 k2 rfl hkC ⟨hi1, by rw [arrV_size]; exact hi2⟩ g1 (fun q h => by rw [g3] at h; cases h) (by rw [g2]; exact hkC) (by rw [g2]; exact va_assign hcls) rfl rfl hd fun H1 e z oq => ?_
  refine kk _ h H1 _ ls (h1.upd (h1.my (jk2 hk)).1 rfl rfl ?_ z oq (fun q hq j => rfl) (fun q hq j => rfS_ne hq j)) (h2.put z oq (h1.my (jk2 hk)).1) h3
  rw [jEl_str (σ := rfS σ a i.toNatClampNeg (some v)) (jk2 hk)]
  show H1[a]? = some (vp_cell _ _)
  rw [e, vp_cell_q, arrV_store]
  congr 2
  funext q
  by_cases hq : q = i.toNatClampNeg
  · subst hq
    simp [updV, rfH, rfS, u2, va_rf]
  · simp [updV, rfH, rfS, u2, hq]

theorem r_i2b (C : jC p l s m args meth c g own cc nL rt) {x : Int32} (pc' : Nat) (hp : pc + 1 = pc') (hd : decode cc pc = .ok (.i2b, 1)) (kk : jW p l e R s m args below meth c g Q k n pc' lv (.int x.toInt8.toInt32 :: st) σ) : jW p l e R s m args below meth c g Q k n pc lv (.int x :: st) σ := by
  subst hp; exact fun H locs ls h1 h2 h3 => lv_i2b C.1 C.2.1 hd rfl (kk H locs ls h1 h2 h3)
theorem r_gets1 (C : jC p l s m args meth c g own cc nL rt) {index : Nat} (pc' : Nat) (hp : pc + 3 = pc') (hl : Cond.fieldLink own index RJ0 "COMPACT_STRINGS" "Z" ∈ gT) (hd : decode cc pc = .ok (.getstatic index, 3)) (kk : jW p l e R s m args below meth c g Q k n pc' lv (.int 1 :: st) σ) : jW p l e R s m args below meth c g Q k n pc lv st σ := by
  subst hp
  exact fun H locs ls h1 h2 h3 => va_gets C.1 C.2.1 C.2.2.2.2.2.2.2.2.2.2.2.2.2.2.2.1 h2 C.2.2.2.1 (C.2.2.2.2.1 _ hl) (fun x hx => hx) hd (kk H locs ls h1 h2 h3)
theorem r_getsF (C : jC p l s m args meth c g own cc nL rt) {index : Nat} (pc' : Nat) (hp : pc + 3 = pc') (hl : Cond.fieldLink own index RJ3 "SIOOBE_FORMATTER" "Ljava/util/function/BiFunction;" ∈ gT) (hd : decode cc pc = .ok (.getstatic index, 3)) (kk : jW p l e R s m args below meth c g Q k n pc' lv (va_rf (gFm g) :: st) σ) : jW p l e R s m args below meth c g Q k n pc lv st σ := by
  subst hp
  exact fun H locs ls h1 h2 h3 => va_gets C.1 C.2.1 C.2.2.2.2.2.2.2.2.2.2.2.2.2.2.2.2 h2 C.2.2.2.1 (C.2.2.2.2.1 _ hl) (fun x hx => hx) hd (kk H locs ls h1 h2 h3)
theorem r_ldcE (C : jC p l s m args meth c g RL cc nL rt) (pc' : Nat) (hp : pc + 2 = pc') (hd : decode cc pc = .ok (.ldc 54, 2)) (kk : jW p l e R s m args below meth c g Q k n pc' lv (.ref (gKa g 0) :: st) σ) : jW p l e R s m args below meth c g Q k n pc lv st σ := by
  subst hp; exact fun H locs ls h1 h2 h3 => va_ldcS C.1 C.2.1 C.2.2.2.1 C.2.2.2.2.2.2.2.2.1.2.2.2.2.2.2.1 hd (kk H locs ls h1 h2 h3)
theorem r_ldcA (C : jC p l s m args meth c g RL cc nL rt) (pc' : Nat) (hp : pc + 2 = pc') (hd : decode cc pc = .ok (.ldc 21, 2)) (kk : jW p l e R s m args below meth c g Q k n pc' lv (.ref (gKa g 1) :: st) σ) : jW p l e R s m args below meth c g Q k n pc lv st σ := by
  subst hp; exact fun H locs ls h1 h2 h3 => va_ldcS C.1 C.2.1 C.2.2.2.1 C.2.2.2.2.2.2.2.2.1.2.2.2.2.2.2.2 hd (kk H locs ls h1 h2 h3)
theorem r_ckB (C : jC p l s m args meth c g own cc nL rt) {index a : Nat} {K : jR} (pc' : Nat) (hp : pc + 3 = pc') (hl : Cond.classLink own index "[B" ∈ gT) (hd : decode cc pc = .ok (.checkcast index, 3)) (h : jckB σ a K = some X)
    (kk : K = some X → jW p l e R s m args below meth c g Q k n pc' lv (.ref a :: st) σ) : jW p l e R s m args below meth c g Q k n pc lv (.ref a :: st) σ := by
  subst hp
  obtain ⟨hk, h'⟩ := jif_some h
  exact fun H locs ls h1 h2 h3 => va_castA C.1 C.2.1 C.2.2.2.1 (C.2.2.2.2.1 _ hl) (h1.one (jk2 hk) (jEl_byt (jk2 hk))) 0 rfl (C.2.2.2.2.2.2.2.2.1.1.2 1 _ rfl).2 hd (kk h' H locs ls h1 h2 h3)
end JBYT
end
section
/-! bytes copied, arrays cloned -/
section JCPY
variable {p : Program} {l : Launch} {e : Env} {R : Room} {s : State} {m : MethodId} {args : Array Value} {below : List Frame} {meth : Method} {c : Code} {g : jG} {Q : State → Prop} {own : String} {cc : ByteArray} {nL k n pc : Nat} {rt : Option FieldType} {lv lv' : List (Nat × Value)} {st : List Value} {σ τ : Hp} {X : jO × Hp} {o : jO} {mc ms : Nat}
/-- the cell of an array of bytes, of ours or a text's -/
theorem jSrc (C : jC p l s m args meth c g own cc nL rt) {H : Heap} {locs : List Loc} (h1 : jRel g σ H) (h2 : va_S (jA g) s.heap H locs) {a : Nat} (hk : jByt σ a) : ∃ scr : Cell, H[a]? = some scr ∧ s.isArrayOf scr .byte ∧ scr.vm ≠ .unknown ∧ (kdH σ a).2 ≤ scr.slots.size ∧ ∀ j : Nat, j < (kdH σ a).2 → scr.slots[j]? = some (.int (inH σ a j)) := by
  rcases hk with hk | hk
  · have hc := (h1.my (jk2 hk)).2
    rw [jEl_byt (jk2 hk)] at hc
    have hc1 : H[a]? = some (vp_cell (gcB g) ((kdH σ a).2, .inl (inH σ a))) := hc
    refine ⟨_, hc1, (C.2.2.2.2.2.2.2.2.1.1.2 1 _ rfl).1 _ _, (fun q => by cases q), ?_, fun j hj => ?_⟩
    · rw [vp_cell_i, arrV_size]
      exact Nat.le_refl _
    · rw [vp_cell_i, arrV_read _ _ hj]
  · obtain ⟨cell, g1, g2, g3, g4, g5, g6, g7⟩ := jTxt C h1 hk
    exact ⟨cell, by rw [h2.2.1 a (Array.getElem?_eq_some_iff.mp g1).1 g7]; exact g1, g2, g3, g4, g6⟩
theorem r_copyB (C : jC p l s m args meth c g own cc nL rt) {index a b : Nat} {sp dp z : Int32} {K : Hp → jR} (pc' : Nat) (hp : pc + 3 = pc') (hlink : Cond.methodLink own index arraycopyName ∈ gT) (hnat : Cond.native arraycopyName ∈ gT) (hstat : Cond.static arraycopyName ∈ gT) (hini : Cond.initialized "java/lang/System" ∈ gT) (hd : decode cc pc = .ok (.invokestatic index, 3))
    (hframes : 1 ≤ R.frames) (hlocals : (st.map fun v => v.category).sum + (nativeFrameWords "java/lang/System" "arraycopy" 5 + 11) ≤ R.locals) (h : jcpB σ a b sp dp z K = some X)
    (kk : ∀ τ, K τ = some X → jW p l e R s m args below meth c g Q k n pc' lv st τ) : jW p l e R s m args below meth c g Q k n pc lv (.int z :: .int dp :: .ref b :: .int sp :: .ref a :: st) σ := by
  subst hp
  obtain ⟨⟨ha, hb, hfit, g1, g2, g3, g4, g5⟩, h'⟩ := ite_some h
  have nn : ∀ z : Int32, ¬ z < 0 → z.toInt = (z.toNatClampNeg : Int) := by
    intro z hz
    have hz0 : (0 : Int) ≤ z.toInt := by
      have := Int32.not_lt.mp hz
      simpa using Int32.le_iff_toInt_le.mp this
    show z.toInt = ((z.toInt.toNat : Nat) : Int)
    omega
  intro H locs ls h1 h2 h3 T hT XX
  obtain ⟨scr, hc0, hs2, hs3, hs4, hs5⟩ := jSrc C h1 h2 ha
  have hc := (h1.my (jk2 hb)).2
  rw [jEl_byt (jk2 hb)] at hc
  have hc1 : H[b]? = some (vp_cell (gcB g) ((kdH σ b).2, .inl (inH σ b))) := hc
  have hts := C.2.2.2.2.1
  obtain ⟨hs6, k0, hk0, cm0, hkk0⟩ := hs2
  obtain ⟨-, k1, hk1, cm1, hkk1⟩ := (C.2.2.2.2.2.2.2.2.1.1.2 1 (gcB g, .byte) rfl).1 (kdH σ b).2 (fun j => .int (inH σ b j))
  obtain ⟨vm', X', step⟩ := XX.arraycopy C.1 C.2.2.2.1 (hts _ hlink) (hts _ hnat) (hts _ hstat) (hts _ hini) (src := a) (dst := b) (cs := scr) (cd := vp_cell (gcB g) ((kdH σ b).2, .inl (inH σ b))) (srcPos := sp) (destPos := dp) (n := z) (by rw [hT]; exact hc0) (by rw [hT]; exact hc1)
    hs6 (fun _ h => by cases h) hs3 (fun h => by cases h) hk0 hk1 hkk0 hkk1 (by simp [refKind]) g1 g2 g3
    (by rw [nn sp g1, nn z g3]; omega)
    (by rw [nn dp g2, nn z g3]; show ¬ _ > ((arrV (gcB g) (kdH σ b).2 (fun j => .int (inH σ b j))).slots.size : Int); rw [arrV_size]; omega)
    (fun vm₁ _ i hi => by
      have e : scr.slots.getD (sp.toNatClampNeg + i) .null = .int (inH σ a (sp.toNatClampNeg + i)) := by
        rw [Array.getD_eq_getD_getElem?, hs5 _ (by omega)]
        rfl
      refine ⟨?_, ?_⟩
      · rw [e]
        exact hfit _
      · rw [e]
        exact trivial)
    (g := F0 m pc ls (.int z :: .int dp :: .ref b :: .int sp :: .ref a :: st)) rfl (by rw [h3.1]) (rest := st) rfl (by rw [C.2.1]; exact hd) hframes (by show 2 * 0 + _ + _ ≤ _; omega)
  have e1 : copied scr (vp_cell (gcB g) ((kdH σ b).2, .inl (inH σ b))) sp dp z = vp_cell (gcB g) ((kdH σ b).2, .inl (va_cpy (inH σ a) (inH σ b) sp.toNatClampNeg dp.toNatClampNeg z.toNatClampNeg)) := va_copiedX (fun z => .int z) scr (gcB g) (inH σ a) (inH σ b) hs5 g4
  rw [e1] at X' step
  have hl : b < H.size := (Array.getElem?_eq_some_iff.mp hc1).1
  generalize hnw : vp_cell (gcB g) ((kdH σ b).2, .inl (va_cpy (inH σ a) (inH σ b) sp.toNatClampNeg dp.toNatClampNeg z.toNatClampNeg)) = nw at X' step
  have hheap : ((T.setVm vm').setCell b nw).heap = H.setIfInBounds b nw := by rw [← hT]; rfl
  have oq : ∀ q : Nat, q ≠ b → (H.setIfInBounds b nw)[q]? = H[q]? := fun q hq => by simp [Array.getElem?_setIfInBounds, Ne.symm hq]
  have hA : jA g b := (h1.my (jk2 hb)).1
  have hat : va_at (gDs g) jCl (b, jEl g (cpB σ a b sp.toNatClampNeg dp.toNatClampNeg z.toNatClampNeg) b) (H.setIfInBounds b nw) := by
    rw [jEl_byt (σ := cpB σ a b sp.toNatClampNeg dp.toNatClampNeg z.toNatClampNeg) (jk2 hb)]
    have e9 : inH (cpB σ a b sp.toNatClampNeg dp.toNatClampNeg z.toNatClampNeg) b = va_cpy (inH σ a) (inH σ b) sp.toNatClampNeg dp.toNatClampNeg z.toNatClampNeg := by simp [inH, cpB, u1]
    rw [e9]
    show (H.setIfInBounds b nw)[b]? = some _
    rw [← hnw]
    simp [Array.getElem?_setIfInBounds, hl]
    rfl
  obtain ⟨t, a1, b1⟩ := kk _ h' _ _ ls (h1.upd (τ := cpB σ a b sp.toNatClampNeg dp.toNatClampNeg z.toNatClampNeg) hA rfl rfl hat (by simp) oq (fun q hq j => by simp only [inH, cpB, u1]; rw [if_neg hq]) (fun q hq j => rfl)) ⟨by simp; exact h2.1, fun q g1 g2 => by
      rw [oq q (fun e => g2 (by rw [e]; exact hA))]
      exact h2.2.1 q g1 g2, fun q hq => by
      rcases List.mem_append.mp hq with h | h
      · exact h2.2.2 q h
      · obtain ⟨z, -, hz⟩ := List.mem_map.mp h
        rw [← hz]
        exact hA⟩ h3 _ hheap X'
  exact ⟨t, step t a1, b1⟩
/-- a new cell like an old one -/
theorem jRel.cl {H H1 : Heap} (h : jRel g σ H) {a : Nat} (hk : (kdH σ a).1 = 6) (hz : H1.size = H.size + 1) (oq : ∀ q : Nat, q < H.size → H1[q]? = H[q]?) (he : H1[H.size]? = some (vp_cell (gcB g) ((kdH σ a).2, .inl (inH σ a)))) : jRel g (clB σ a) H1 := by
  have k0 : kdH (clB σ a) (tpH σ) = kdH σ a := by show u1 (kdH σ) (tpH σ) (kdH σ a) (tpH σ) = _; simp [u1]
  have kq : ∀ q, q ≠ tpH σ → kdH (clB σ a) q = kdH σ q := fun q e => by show u1 (kdH σ) (tpH σ) _ q = _; simp [u1, e]
  have iq : ∀ q, q ≠ tpH σ → ∀ j, inH (clB σ a) q j = inH σ q j := fun q e j => by simp only [inH, clB, u1]; rw [if_neg e]
  have rq : ∀ q, q ≠ tpH σ → ∀ j, rfH (clB σ a) q j = rfH σ q j := fun q e j => by simp only [rfH, clB, u1]; rw [if_neg e]
  refine ⟨by rw [hz, h.1]; rfl, Nat.le_succ_of_le h.2.1, fun q hq hn => ?_, fun q hq => ?_⟩
  · by_cases e : q = tpH σ
    · subst e
      refine ⟨h.2.1, ?_⟩
      rw [jEl_byt (σ := clB σ a) (n := (kdH σ a).2) (by rw [k0]; exact jk2 hk)]
      have e9 : inH (clB σ a) (tpH σ) = inH σ a := by simp [inH, clB, u1]
      rw [e9]
      show H1[tpH σ]? = some _
      rw [← h.1]
      exact he
    · rw [kq q e] at hq hn
      have h9 := h.2.2.1 q hq hn
      rw [jEl_congr (kq q e) (iq q e) (rq q e)]
      exact ⟨h9.1, h9.2.kept (oq q h9.2.lt)⟩
  · by_cases e : q = tpH σ
    · subst e
      rw [k0] at hq
      rcases hq with hq | hq <;> rw [hk] at hq <;> cases hq
    · rw [kq q e] at hq
      exact ⟨(h.2.2.2 q hq).1, jKc_congr (kq q e) (iq q e) (rq q e) (h.2.2.2 q hq).2⟩
theorem r_clone (C : jC p l s m args meth c g own cc nL rt) {index a M : Nat} {K : Nat → Hp → jR} (pc' : Nat) (hp : pc + 3 = pc') (hlink : Cond.methodLink own index ⟨"[B", "clone", "()Ljava/lang/Object;"⟩ ∈ gT) (hd : decode cc pc = .ok (.invokevirtual index, 3))
    (hframes : 1 ≤ R.frames) (hlocals : (st.map fun v => v.category).sum + 14 ≤ R.locals) (hk' : k + 1 ≤ R.cells) (hn' : n + M ≤ R.slots) (h : jcl σ a M K = some X)
    (kk : ∀ a τ, K a τ = some X → jW p l e R s m args below meth c g Q (k + 1) (n + M) pc' lv (.ref a :: st) τ) : jW p l e R s m args below meth c g Q k n pc lv (.ref a :: st) σ := by
  subst hp
  obtain ⟨⟨hk, hfit, hM⟩, h'⟩ := ite_some h
  intro H locs ls h1 h2 h3
  have hc := (h1.my (jk2 hk)).2
  rw [jEl_byt (jk2 hk)] at hc
  have hc1 : H[a]? = some (vp_cell (gcB g) ((kdH σ a).2, .inl (inH σ a))) := hc
  have hts := C.2.2.2.2.1
  have hK := C.2.2.2.2.2.2.2.2.1.1
  have hca := C.2.2.2.2.2.2.2.2.1.2.1 (.castable "[B" "java/lang/Cloneable") (by simp [jNt])
  obtain ⟨c0, t0', f1, f2, f3⟩ := Cond.castable_spec (va_Nw.use (A := args) rfl hca)
  have hnm := (hK.2 1 (gcB g, .byte) rfl).2
  have hnm' : s.vm.findClass "[B" = some (gcB g) := hnm
  cases hnm'.symm.trans f1
  intro T hT XX
  have hcellT : T.heap[a]? = some (vp_cell (gcB g) ((kdH σ a).2, .inl (inH σ a))) := by rw [hT]; exact hc1
  have hsz : (vp_cell (gcB g) ((kdH σ a).2, .inl (inH σ a))).slots.size = (kdH σ a).2 := arrV_size _ _ _
  obtain ⟨-, kA, hkA, comp, hkind⟩ := State.isArrayOf_alike XX.warmed.alike ((hK.2 1 (gcB g, .byte) rfl).1 0 (fun _ => .null))
  obtain ⟨-, kS, hkS, compS, hkindS⟩ := (hK.2 1 (gcB g, .byte) rfl).1 0 (fun _ => .null)
  obtain ⟨vm', X', st9⟩ := XX.cloneArray C.1 C.2.2.2.1 (hts _ hlink) (hts _ sm_B_clone) (hts _ nat_clone) (hts _ im_clone) (hts _ se_B_clone) (a := a) (cell := vp_cell (gcB g) ((kdH σ a).2, .inl (inH σ a))) hcellT (fun k h => by cases h) (fun h => by cases h) hnm' f2 f3
    (fun i v hv => by
      have hk' : T.vm.classes[gcB g]? = some kA := hkA
      have hv' : (arrV (gcB g) (kdH σ a).2 (fun j => .int (inH σ a j))).slots[i]? = some v := hv
      have hi : i < (kdH σ a).2 := by
        have := (Array.getElem?_eq_some_iff.mp hv').1
        rw [arrV_size] at this
        exact this
      rw [arrV_read _ _ hi] at hv'
      cases hv'
      have := hfit i
      show T.fitsSlot (gcB g) _ i _ = true
      simpa [State.fitsSlot, State.slotType?, hk', hkind, vp_cell, arrV] using this)
    (g := F0 m pc ls (.ref a :: st)) rfl (by rw [h3.1]) rfl (by rw [C.2.1]; exact hd) hframes (by show 2 * 0 + _ + 14 ≤ _; omega) hk' (by rw [hsz]; omega) (hloader := Vm.clonesLoader_of_array hkS hkindS)
  have hcellE : ({ cls := (vp_cell (gcB g) ((kdH σ a).2, .inl (inH σ a))).cls, slots := (vp_cell (gcB g) ((kdH σ a).2, .inl (inH σ a))).slots } : Cell) = vp_cell (gcB g) ((kdH σ a).2, .inl (inH σ a)) := rfl
  rw [hcellE, hsz] at X'
  generalize hH1 : H.push (vp_cell (gcB g) ((kdH σ a).2, .inl (inH σ a))) = H1
  have z1 : H1.size = H.size + 1 := by rw [← hH1, Array.size_push]
  have e1 : H1[H.size]? = some (vp_cell (gcB g) ((kdH σ a).2, .inl (inH σ a))) := by rw [← hH1, Array.getElem?_push_size]
  have o1 : ∀ q : Nat, q < H.size → H1[q]? = H[q]? := fun q hq => by rw [← hH1, Array.getElem?_push, if_neg (Nat.ne_of_lt hq)]
  have e0 : tpH σ = H.size := h1.1.symm
  have h'' : K H.size (clB σ a) = some X := by rw [← e0]; exact h'
  obtain ⟨t, b1, b2⟩ := W.widen (Nat.le_refl _) (show n + (kdH σ a).2 ≤ n + M by omega) (kk _ _ h'' H1 locs ls (h1.cl hk z1 o1 e1) ⟨by rw [z1]; exact Nat.le_succ_of_le h2.1, fun q a b => (o1 q (Nat.lt_of_lt_of_le a h2.1)).trans (h2.2.1 q a b), h2.2.2⟩ h3) ((T.setVm vm').pushCell (vp_cell (gcB g) ((kdH σ a).2, .inl (inH σ a)))) (by rw [← hH1, ← hT]; rfl) X'
  refine ⟨t, st9 t ?_, b2⟩
  rw [hcellE, hT]
  exact b1
end JCPY
end
section
/-! multianewarray of two dimensions: an array of arrays of Strings. (Follows the library's rows for arrays of arrays of numbers, JvmDerived/Shelf42/MA1, MA2, with an inner type that is a reference.) -/
section JMUL
def mInner (comp : ClassId) (M : Nat) : Cell := { cls := comp, slots := Array.replicate M .null, vm := .none }
def mOuter (c : ClassId) (N h0 : Nat) : Nat → Cell
  | 0 => { cls := c, slots := Array.replicate N .null, vm := .none }
  | i + 1 => (mOuter c N h0 i).setSlot i (.ref (h0 + 1 + i))
def mFill (s : State) (c comp : ClassId) (N M : Nat) : Nat → State
  | 0 => s.pushCell (mOuter c N s.heap.size 0)
  | i + 1 => ((mFill s c comp N M i).pushCell (mInner comp M)).setCell s.heap.size (mOuter c N s.heap.size (i + 1))
theorem mOuter_facts (c : ClassId) (N h0 : Nat) : ∀ i, (mOuter c N h0 i).cls = c ∧ (mOuter c N h0 i).vm = .none ∧ (mOuter c N h0 i).slots.size = N
  | 0 => ⟨rfl, rfl, by simp [mOuter]⟩
  | i + 1 => by
    obtain ⟨a, b, d⟩ := mOuter_facts c N h0 i
    exact ⟨by simp [mOuter, Cell.setSlot, a], by simp [mOuter, Cell.setSlot, b], by simp [mOuter, Cell.setSlot, d]⟩
theorem mFill_facts (s : State) (c comp : ClassId) (N M : Nat) : ∀ i, (mFill s c comp N M i).heap.size = s.heap.size + 1 + i ∧ (mFill s c comp N M i).heap[s.heap.size]? = some (mOuter c N s.heap.size i) ∧
    (mFill s c comp N M i).vm = s.vm ∧ (mFill s c comp N M i).slotsUsed = s.slotsUsed + N + i * M
  | 0 => ⟨by simp [mFill], by simp [mFill], rfl, by simp [mFill, mOuter]⟩
  | i + 1 => by
    obtain ⟨a, b, d, u⟩ := mFill_facts s c comp N M i
    have hlt : s.heap.size < (mFill s c comp N M i).heap.size := by omega
    have hb' : ((mFill s c comp N M i).pushCell (mInner comp M)).heap[s.heap.size]? = some (mOuter c N s.heap.size i) := by rw [State.heap_pushCell_of_lt (h := hlt)]; exact b
    refine ⟨?_, State.heap_setCell_self hb', by simp [mFill, d], ?_⟩
    · simp [mFill, State.setCell, a]; omega
    · simp [mFill, u, mInner, Nat.succ_mul]; omega
theorem mFill_setTop (s : State) (f : JFrame) (c comp : ClassId) (N M : Nat) : ∀ i, mFill (s.setTop f) c comp N M i = (mFill s c comp N M i).setTop f
  | 0 => rfl
  | i + 1 => by simp only [mFill, mFill_setTop s f c comp N M i, State.heap_setTop, State.pushCell_setTop, State.setCell_setTop]
theorem mFill_old (s : State) (c comp : ClassId) (N M : Nat) {a : Addr} (ha : a < s.heap.size) : ∀ i, (mFill s c comp N M i).heap[a]? = s.heap[a]?
  | 0 => State.heap_pushCell_of_lt _ _ ha
  | i + 1 => by
    have f1 := (mFill_facts s c comp N M i).1
    have hlt : a < (mFill s c comp N M i).heap.size := Nat.lt_of_lt_of_le ha (by rw [f1]; omega)
    show (((mFill s c comp N M i).pushCell (mInner comp M)).setCell s.heap.size _).heap[a]? = _
    rw [State.heap_setCell_other (Nat.ne_of_gt ha), State.heap_pushCell_of_lt (h := hlt)]
    exact mFill_old s c comp N M ha i
section
variable {E : CtlPost} {e : Env} {d : Bool} {acts : List Action} {s : State}
theorem mp_newArray {c comp : ClassId} {k : Class} {type : FieldType} {len : Nat} (hk : s.vm.classes[c]? = some k) (hkind : k.kind = .array comp type)
    (hlimit : ¬ len > e.platform.arrayLengthLimit) (hheap : ¬ len * componentBytes type > e.platform.maxHeapBytes) (hfit : fits type .null = true) {Q : Addr → Pre}
    (h1 : s.heap.size < e.platform.maxCells) (h2 : s.slotsUsed + len ≤ e.platform.maxSlots)
    (hq : Q s.heap.size d acts (s.pushCell { cls := c, slots := Array.replicate len .null, vm := .none })) :
    wp (Jvm.newArray c len .null) Q E e d acts s := by
  have hfits : ∀ i v, (Array.replicate len Value.null)[i]? = some v → s.fitsSlot c .none i v = true := by
    intro i v hv
    simp only [Array.getElem?_replicate] at hv
    split at hv
    · cases hv; simp [State.fitsSlot, State.slotType?, hk, hkind, hfit]
    · cases hv
  have hda : allocActs (Array.replicate len Value.null) s.heap.size acts = acts := by
    have hall : ((Array.replicate len Value.null).all (·.isDefault)) = true := by
      rw [Array.all_replicate]; split <;> simp [Value.isDefault]
    unfold allocActs; rw [if_pos hall]
  simp only [Jvm.newArray, Jvm.arrayFits, wp_bind', W.ask, W.ite, hlimit, if_false, wp_pure', W.theClass, hk, hkind, hheap, W.alloc, W.stop, Option.some.injEq, exists_eq_left', Array.size_replicate, hda]
  rw [if_neg (by omega)]
  exact ⟨h1, h2, hfits, hq⟩
theorem mRefFits {t : FieldType} (h : t.isReference = true) (v : Value) (hv : v = .null ∨ ∃ a, v = .ref a) : fits t v = true := by
  rcases hv with rfl | ⟨a, rfl⟩ <;> cases t <;> simp [FieldType.isReference] at h <;> rfl
theorem mp_make1 {comp cc : ClassId} {kc : Class} {type : FieldType} {m : Int32} (hkc : s.vm.classes[comp]? = some kc) (hkindc : kc.kind = .array cc type) (href : type.isReference = true) (hm : ¬ m < 0)
    (hl2 : ¬ m.toNatClampNeg > e.platform.arrayLengthLimit) (hh2 : ¬ m.toNatClampNeg * componentBytes type > e.platform.maxHeapBytes)
    (h1 : s.heap.size < e.platform.maxCells) (h2 : s.slotsUsed + m.toNatClampNeg ≤ e.platform.maxSlots)
    {Q : Addr → Pre} (hq : Q s.heap.size d acts (s.pushCell (mInner comp m.toNatClampNeg))) :
    wp (multianewarray.make comp [m]) Q E e d acts s := by
  rw [multianewarray.make]
  simp only [wp_bind', W.ite, hm, if_false, wp_pure', W.theClass, hkc, hkindc, Option.some.injEq, exists_eq_left']
  have hdv : defaultValue type = .null := by cases type <;> simp [FieldType.isReference] at href <;> rfl
  rw [hdv]
  exact mp_newArray hkc hkindc hl2 hh2 (mRefFits href _ (Or.inl rfl)) h1 h2 hq
theorem mp_make2 {c comp cc : ClassId} {k kc : Class} {t0 type : FieldType} {n m : Int32} (hk : s.vm.classes[c]? = some k) (hkind : k.kind = .array comp t0) (href : t0.isReference = true)
    (hkc : s.vm.classes[comp]? = some kc) (hkindc : kc.kind = .array cc type) (href2 : type.isReference = true) (hn : ¬ n < 0) (hm : ¬ m < 0)
    (hl1 : ¬ n.toNatClampNeg > e.platform.arrayLengthLimit) (hh1 : ¬ n.toNatClampNeg * componentBytes t0 > e.platform.maxHeapBytes)
    (hl2 : ¬ m.toNatClampNeg > e.platform.arrayLengthLimit) (hh2 : ¬ m.toNatClampNeg * componentBytes type > e.platform.maxHeapBytes)
    (hc : s.heap.size + 1 + n.toNatClampNeg ≤ e.platform.maxCells) (hs : s.slotsUsed + n.toNatClampNeg + n.toNatClampNeg * m.toNatClampNeg ≤ e.platform.maxSlots)
    {Q : Addr → Pre} (hq : ∀ d' acts', Q s.heap.size d' acts' (mFill s c comp n.toNatClampNeg m.toNatClampNeg n.toNatClampNeg)) :
    wp (multianewarray.make c [n, m]) Q E e d acts s := by
  have hfind : ([m].find? (· < 0)) = none := by simp [hm]
  rw [multianewarray.make]
  simp only [wp_bind', W.ite, hn, if_false, wp_pure', W.theClass, hk, hkind, Option.some.injEq, exists_eq_left']
  refine mp_newArray hk hkind hl1 hh1 (mRefFits href _ (Or.inl rfl)) (by omega) (by have := Nat.zero_le (n.toNatClampNeg * m.toNatClampNeg); omega) ?_
  simp only [hfind]
  rw [ite_self, wp_bind', Std.Legacy.Range.forIn_eq_forIn_range']
  have hsz : ([:n.toNatClampNeg] : Std.Legacy.Range).size = n.toNatClampNeg := by simp [Std.Legacy.Range.size]
  rw [hsz]
  show wp (forIn (List.range' 0 n.toNatClampNeg 1) PUnit.unit _) _ E e d acts _
  refine wp_forIn_inv (fun rest s' => ∃ i, i ≤ n.toNatClampNeg ∧ rest = List.range' i (n.toNatClampNeg - i) ∧ s' = mFill s c comp n.toNatClampNeg m.toNatClampNeg i) _ _ ⟨0, Nat.zero_le _, rfl, rfl⟩ ?_ ?_
  · rintro x rest s' d' acts' Q' ⟨i, hi, hl, rfl⟩ hnext
    have hlt : i < n.toNatClampNeg := by
      rcases Nat.lt_or_ge i n.toNatClampNeg with h | h
      · exact h
      · rw [show n.toNatClampNeg - i = 0 from by omega] at hl; simp at hl
    obtain ⟨rfl, hrest⟩ : x = i ∧ rest = List.range' (i + 1) (n.toNatClampNeg - (i + 1)) := by
      rw [show n.toNatClampNeg - i = (n.toNatClampNeg - (i + 1)) + 1 from by omega, List.range'_succ] at hl
      exact ⟨(List.cons.inj hl).1, (List.cons.inj hl).2⟩
    obtain ⟨f1, f2, f3, f4⟩ := mFill_facts s c comp n.toNatClampNeg m.toNatClampNeg x
    obtain ⟨o1, o2, o3⟩ := mOuter_facts c n.toNatClampNeg s.heap.size x
    have hmul : x * m.toNatClampNeg + m.toNatClampNeg ≤ n.toNatClampNeg * m.toNatClampNeg := by
      have := Nat.mul_le_mul_right m.toNatClampNeg (show x + 1 ≤ n.toNatClampNeg from hlt)
      rw [Nat.succ_mul] at this; exact this
    simp only [wp_bind']
    refine mp_make1 (by rw [f3]; exact hkc) hkindc href2 hm hl2 hh2 (by rw [f1]; omega) (by rw [f4]; omega) ?_
    have hlt0 : s.heap.size < (mFill s c comp n.toNatClampNeg m.toNatClampNeg x).heap.size := by rw [f1]; omega
    simp only [wp_bind', W.writeLoc, wp_pure']
    refine ⟨mOuter c n.toNatClampNeg s.heap.size x, by rw [State.heap_pushCell_of_lt (h := hlt0)]; exact f2, by rw [o2]; simp, by rw [o3]; exact hlt, ?_, hnext _ _ _ ⟨x + 1, hlt, hrest, ?_⟩⟩
    · rw [o1, o2]
      simp [State.fitsSlot, State.slotType?, f3, hk, hkind, mRefFits href _ (Or.inr ⟨_, rfl⟩)]
    · rw [f1]; rfl
  · rintro s' d' acts' ⟨i, hi, hl, rfl⟩
    have hiN : i = n.toNatClampNeg := by
      rcases Nat.lt_or_ge i n.toNatClampNeg with h | h
      · rw [show n.toNatClampNeg - i = (n.toNatClampNeg - (i + 1)) + 1 from by omega, List.range'_succ] at hl; cases hl
      · omega
    subst hiN
    simp only [wp_pure']
    exact hq _ _
end
variable {p : Program} {l : Launch} {e : Env} {R : Room} {s : State} {m : MethodId} {args : Array Value} {below : List Frame} {meth : Method} {c : Code} {g : jG} {Q : State → Prop} {own : String} {cc : ByteArray} {nL k n pc : Nat} {rt : Option FieldType} {lv lv' : List (Nat × Value)} {st : List Value} {σ τ : Hp} {X : jO × Hp} {o : jO} {mc ms : Nat}
theorem mFilled {T : State} {locs : List Loc} {cells slots : Nat} (X : Stand p l e R s m args below meth c T locs cells slots) (cA comp : ClassId) (N M : Nat) :
    ∀ i, Stand p l e R s m args below meth c (mFill T cA comp N M i) (locs ++ (List.range i).map fun j => ⟨T.heap.size, j⟩) (cells + 1 + i) (slots + N + i * M)
  | 0 => by
    have h := X.pushed (mOuter cA N T.heap.size 0)
    rw [(mOuter_facts cA N T.heap.size 0).2.2] at h
    simpa [mFill] using h
  | i + 1 => by
    have Xi := mFilled X cA comp N M i
    obtain ⟨f1, f2, f3, f4⟩ := mFill_facts T cA comp N M i
    have hlt0 : T.heap.size < (mFill T cA comp N M i).heap.size := by rw [f1]; omega
    have hcell : ((mFill T cA comp N M i).pushCell (mInner comp M)).heap[T.heap.size]? = some (mOuter cA N T.heap.size i) := by rw [State.heap_pushCell_of_lt (h := hlt0)]; exact f2
    have h := (Xi.pushed (mInner comp M)).stored hcell i (.ref (T.heap.size + 1 + i))
    have e1 : (mInner comp M).slots.size = M := by simp [mInner]
    rw [e1] at h
    have e2 : (locs ++ (List.range (i + 1)).map fun j => (⟨T.heap.size, j⟩ : Loc)) = (locs ++ (List.range i).map fun j => (⟨T.heap.size, j⟩ : Loc)) ++ [⟨T.heap.size, i⟩] := by simp [List.range_succ, List.append_assoc]
    have e3 : slots + N + (i + 1) * M = slots + N + i * M + M := by rw [Nat.succ_mul]; omega
    rw [e2, e3]
    exact h
theorem mOverA {args : Array Value} {first s : State} {o : Option Outcome} {idx : List Nat} {t : FieldType} (h : (Cond.arrayOver (.array t)).holds args first o s idx = true) :
    ∃ comp c k, s.vm.findClass (FieldType.array t).toString = some comp ∧ s.vm.classes[c]? = some k ∧ k.kind = .array comp (.array t) ∧ s.vm.findClass ("[" ++ (FieldType.array t).toString) = some c := by
  simp only [Cond.holds, Cond.value, beq_iff_eq] at h
  cases hc : s.vm.findClass (FieldType.array t).toString with
  | none => simp [hc] at h
  | some comp =>
    simp only [hc, Option.bind_some, Option.bind_eq_some_iff, Option.map_eq_some_iff] at h
    obtain ⟨c, hi, k, hk, hb⟩ := h
    obtain ⟨hlt, hp, -⟩ := Array.findIdx?_eq_some_iff_getElem.mp hi
    have hkk : s.vm.classes[c] = k := (Array.getElem?_eq_some_iff.mp hk).2
    rw [hkk] at hp
    cases hkind : k.kind with
    | array component ty =>
      rw [hkind] at hb hp
      simp at hb hp
      exact ⟨comp, c, k, rfl, hk, by rw [hkind, hp, hb.1], hb.2⟩
    | _ => rw [hkind] at hb; simp at hb
/-- String[6][100]: seven new cells that nobody looks at -/
noncomputable def jmu (σ : Hp) (K : Nat → Hp → jR) : jR := K (tpH σ) (skS σ 7)
set_option maxHeartbeats 2000000 in
theorem r_multi (C : jC p l s m args meth c g own cc nL rt) {index : Nat} {K : Nat → Hp → jR} (pc' : Nat) (hp : pc + 4 = pc') (hcl : Cond.classLink own index "[[Ljava/lang/String;" ∈ gT) (hover : (Cond.arrayOver (.array (.object RJ0))).before args s = true) (hd : decode cc pc = .ok (.multianewarray index 2, 4))
    (hk' : k + 7 ≤ R.cells) (hn' : n + 606 ≤ R.slots) (h : jmu σ K = some X)
    (kk : ∀ a τ, K a τ = some X → jW p l e R s m args below meth c g Q (k + 7) (n + 606) pc' lv (.ref a :: st) τ) : jW p l e R s m args below meth c g Q k n pc lv (.int 100 :: .int 6 :: st) σ := by
  subst hp
  intro H locs ls h1 h2 h3 T hT XX
  have hpl : e.platform.magicAccessors = ({} : Platform).magicAccessors := by rw [XX.admits.platform]
  obtain ⟨comp, cA, kA, hcomp, hkA, hkindA, hnameA⟩ := mOverA hover
  obtain ⟨kC, cc2, g1, g2, g3, g4⟩ := (C.2.2.2.2.2.2.2.2.1.1.2 4 (gcS g, .object RJ0) rfl).2
  have ecomp : gcS g = comp := Option.some.inj (g4.symm.trans hcomp)
  obtain ⟨c0, hfc0, hcl9⟩ := Cond.classLink_spec C.2.2.2.1 (C.2.2.2.2.1 _ hcl) e.platform hpl
  have e0 : c0 = cA := Option.some.inj (hfc0.symm.trans hnameA)
  subst e0
  obtain ⟨hg₁, hwarm₁, hready₁⟩ := State.classEntry (e := e) XX.warmed hcl9
  generalize T.vm.noted m.cls index (.cls c0) = vm₁ at hg₁ hwarm₁ hready₁
  have hal : s.vm.Alike vm₁ := hwarm₁.alike
  obtain ⟨kA₁, hkA₁, heA⟩ := hal.2.2 _ _ hkA
  obtain ⟨kC₁, hkC₁, heC⟩ := hal.2.2 comp kC (by rw [← ecomp]; exact g1)
  have hkindA₁ : kA₁.kind = .array comp (.array (.object RJ0)) := by rw [heA]; exact hkindA
  have hkindC₁ : kC₁.kind = .array cc2 (.object RJ0) := by rw [heC]; exact g2
  have X₁ := XX.noted hwarm₁
  obtain ⟨hr1, hr2⟩ := XX.roomAbove (a := 7) (b := 606) (by omega) (by omega)
  have XF := mFilled X₁ c0 comp 6 100 6
  have XF' := XF.dropFresh (fun x hx => by
    obtain ⟨j, -, rfl⟩ := List.mem_map.mp hx
    exact XX.heapGrown)
  have h6 : (6 : Int32).toNatClampNeg = 6 := by decide
  have h100 : (100 : Int32).toNatClampNeg = 100 := by decide
  obtain ⟨f1, f2, f3, f4⟩ := mFill_facts (T.setVm vm₁) c0 comp 6 100 6
  have e9 : tpH σ = H.size := h1.1.symm
  have f1' : (mFill (T.setVm vm₁) c0 comp 6 100 6).heap.size = H.size + 7 := by rw [f1]; show T.heap.size + 1 + 6 = _; rw [hT]
  have o1 : ∀ q : Nat, q < H.size → (mFill (T.setVm vm₁) c0 comp 6 100 6).heap[q]? = H[q]? := fun q hq => by
    rw [mFill_old (T.setVm vm₁) c0 comp 6 100 (a := q) (by show q < T.heap.size; rw [hT]; exact hq) 6]
    show T.heap[q]? = H[q]?
    rw [hT]
  have hK : K H.size (skS σ 7) = some X := by rw [← e9]; exact h
  obtain ⟨t, b1, b2⟩ := kk _ _ hK (mFill (T.setVm vm₁) c0 comp 6 100 6).heap locs ls (h1.skips 7 f1' o1) ⟨by rw [f1']; exact Nat.le_trans h2.1 (by omega), fun q a b => (o1 q (Nat.lt_of_lt_of_le a h2.1)).trans (h2.2.1 q a b), h2.2.2⟩ h3 (mFill (T.setVm vm₁) c0 comp 6 100 6) rfl XF'
  refine ⟨t, ?_, b2⟩
  have hl1 : ¬ (6 : Int32).toNatClampNeg > e.platform.arrayLengthLimit := by rw [Launch.admits_arrayLengthLimit XX.admits, h6]; omega
  have hh1 : ¬ (6 : Int32).toNatClampNeg * componentBytes (.array (.object RJ0)) > e.platform.maxHeapBytes := by
    rw [Launch.admits_maxHeapBytes XX.admits, h6]; show ¬ 6 * 4 > 536870912; omega
  have hl2 : ¬ (100 : Int32).toNatClampNeg > e.platform.arrayLengthLimit := by rw [Launch.admits_arrayLengthLimit XX.admits, h100]; omega
  have hh2 : ¬ (100 : Int32).toNatClampNeg * componentBytes (.object RJ0) > e.platform.maxHeapBytes := by rw [Launch.admits_maxHeapBytes XX.admits, h100]; show ¬ 100 * 4 > 536870912; omega
  have hd' : decode c.code pc = .ok (.multianewarray index 2, 4) := by rw [C.2.1]; exact hd
  jvm_step XX.here [C.1, hd']
  simp only [multianewarray.sem, wp_bind', W.resolveClassAt_links (State.method?_setTop (F0 m pc ls (.int 100 :: .int 6 :: st)) XX.here.top) hg₁]
  rw [W.popN, if_neg (by decide)]
  refine ⟨F0 m pc ls (.int 100 :: .int 6 :: st), State.topJava?_setTop' (s := T.setVm vm₁) _ XX.here.top, [.int 6, .int 100], st, rfl, rfl, ?_⟩
  simp only [List.mapM_cons, List.mapM_nil, wp_bind', wp_pure']
  refine mp_make2 (k := kA₁) (kc := kC₁) (comp := comp) (cc := cc2) (t0 := .array (.object RJ0)) (type := .object RJ0) hkA₁ hkindA₁ rfl hkC₁ hkindC₁ rfl (by decide) (by decide) hl1 hh1 hl2 hh2 (by rw [h6]; show T.heap.size + 1 + _ ≤ _; omega) (by rw [h6, h100]; show T.slotsUsed + _ + _ ≤ _; omega) (fun d' acts' => ?_)
  rw [h6, h100]
  have eS : ((T.setTop (F0 m pc ls (.int 100 :: .int 6 :: st))).setVm vm₁).setTop { F0 m pc ls (.int 100 :: .int 6 :: st) with stack := st } = (T.setVm vm₁).setTop { F0 m pc ls (.int 100 :: .int 6 :: st) with stack := st } := by
    show ((T.setVm vm₁).setTop _).setTop _ = _
    rw [State.setTop_setTop]
  rw [eS, mFill_setTop]
  simp only [wp_bind', W.mark, W.pushRef, State.topJava?_setTop' _ XF.here.top, Option.some.injEq, exists_eq_left', State.setTop_setTop, State.heap_setTop]
  intro acts
  simp [jvm, XF.here.top]
  have hsz : (T.setVm vm₁).heap.size = H.size := by show T.heap.size = _; rw [hT]
  rw [hT]
  exact b1
end JMUL
end
section
/-! a throw: vx_throwS of the exceptions' text, which tells also how many cells are new -/
section JTHROW
variable {p : Program} {l : Launch} {e : Env} {R : Room} {s : State} {m : MethodId} {args : Array Value} {below : List Frame} {meth : Method} {c : Code} {H : Heap} {locs : List Loc} {cells slots : Nat} {Qc : Array Value → State → Outcome → State → Prop} {XC : String → State → State → Prop} {free : Addr → Prop} {ls : Array Slot} {rest : List Value}
theorem jx_throwS {cc : ByteArray} {pc : Nat} (hexec : p.tables.exec = Jvm.exec) (hb : c.code = cc) (hl : l.stackTraces = false) {own cls text : String} {names : List String} {ik is ic mc ms sa : Nat} {A : Nat → Prop}
    (hown : s.vm.findClass own = some m.cls) (hcls : Bundle.fit cls = true) (hnames : ∀ n ∈ names, Bundle.fit n = true)
    (hk : (Cond.classLink own ik cls).before args s = true) (hini : (Cond.initialized cls).before args s = true) (hstr : vk_R own is text sa s) (hat : ∀ w ∈ vx_atS own ic cls names, w.before args s = true)
    (hgood : ∀ w ∈ Cond.classLink own ik cls :: Cond.initialized cls :: vx_atS own ic cls names, vx_ot w = true)
    (hU : vx_Zq Bundle.tN "UNASSIGNED_STACK" Bundle.steD A s s.heap) (hN : vx_Zq Bundle.tN "SUPPRESSED_SENTINEL" Bundle.listD A s s.heap) (hS : va_S A s.heap H locs) (hsize : ls.size = c.maxLocals)
    (d0 : decode cc pc = .ok (.new ik, 3)) (d3 : decode cc (pc + 3) = .ok (.dup, 1)) (d4 : decode cc (pc + 4) = .ok (.ldc is, 2)) (d6 : decode cc (pc + 6) = .ok (.invokespecial ic, 3)) (d9 : decode cc (pc + 9) = .ok (.athrow, 1))
    (hout : ∀ x ∈ c.exceptionTable.toList, covers x (pc + 9) = false)
    (hRframes : names.length + 3 < R.frames) (hRlocals : (rest.map fun v => v.category).sum + (13 * (names.length + 1) + 43) ≤ R.locals) (hRcells : cells + 1 ≤ R.cells) (hRslots : slots + 6 ≤ R.slots) (hlocks : meth.locks = false)
    (hx : ∀ t : State, s.vm.Alike t.vm → t.heap.size = H.size + 1 → (∀ q : Nat, q < H.size → t.heap[q]? = H[q]?) → XC cls s t)
    (hf : ∀ z ∈ locs, free z.base) (hc : cells + 1 ≤ mc) (hs : slots + 6 ≤ ms) :
    W p l e R s m args below meth c H locs cells slots (vx_MQ below Qc XC args s mc ms free) (F0 m pc ls rest) := by
  intro T hT X
  have htr : e.platform.stackTraces = false := (show e.platform.stackTraces = l.stackTraces by rw [X.admits.platform]).trans hl
  have Y := vx_rebase X (R' := { frames := R.frames, locals := R.locals, cells := 1, slots := 6 }) (Nat.le_refl _) (Nat.le_refl _) hRcells hRslots
  obtain ⟨s', hA⟩ : ∃ z, z = (T.setVm s.vm).setFrames (.invoking m args :: below) := ⟨_, rfl⟩
  rw [← hA] at Y
  have hvm : s'.vm = s.vm := by rw [hA]; rfl
  have hhp : s'.heap = H := by rw [hA]; exact hT
  have hW0 : s.WarmedH s'.vm := by rw [hvm]; exact State.WarmedH.refl s
  have hat' : ∀ w ∈ vx_atS own ic cls names, w.before args s' = true := fun w hw => vx_ot_at hW0 hvm.symm (hgood w (List.mem_cons_of_mem _ (List.mem_cons_of_mem _ hw))) (hat w hw)
  have hk' : (Cond.classLink own ik cls).before args s' = true := vx_ot_at hW0 hvm.symm (hgood _ List.mem_cons_self) hk
  have hini' : (Cond.initialized cls).before args s' = true := vx_ot_at hW0 hvm.symm (hgood _ (List.mem_cons_of_mem _ List.mem_cons_self)) hini
  have hU' : vx_Zq Bundle.tN "UNASSIGNED_STACK" Bundle.steD A s' s'.heap := by rw [hhp]; exact vx_Zq.moved hW0.alike (hU.kept hS.2.1)
  have hN' : vx_Zq Bundle.tN "SUPPRESSED_SENTINEL" Bundle.listD A s' s'.heap := by rw [hhp]; exact vx_Zq.moved hW0.alike (hN.kept hS.2.1)
  have h : ∀ w ∈ Bundle.ownAtoms own ic cls names, w.before args s' = true := vx_own hat' (vx_isRefq hU'.1) (vx_isRefq hN'.1) hU'.2.word hN'.2.word
  have hown' : s'.vm.findClass own = some m.cls := by rw [hvm]; exact hown
  have hins : (Cond.instantiable cls 6).before args s' = true := h _ (by simp [Bundle.ownAtoms])
  obtain ⟨vm₁, cX, kX, hfX, hkX, -, -, X₁, st1⟩ := Y.newCold hexec (own := own) (C := cls) (index := ik) (n := 6) hown' hk' hins hini'
    (g := F0 m pc ls rest) rfl (by rw [hb]; exact d0) (Nat.le_refl _) (Nat.le_refl _)
  generalize hT1 : (T.setVm vm₁).pushCell { cls := cX, slots := kX.instanceTypes.map defaultValue, vm := .none } = T1 at X₁ st1
  have hcat : (Value.ref T.heap.size).category = 1 := rfl
  have hcellA : T1.heap[T.heap.size]? = some (freshCell cX kX) := by rw [← hT1]; exact State.heap_pushCell_size _ _
  have d3' : decode c.code (pc + 3) = .ok (.dup, 1) := by rw [hb]; exact d3
  have d4' : decode c.code (pc + 4) = .ok (.ldc is, 2) := by rw [hb]; exact d4
  have hstr' : vk_R own is text sa s' := vk_R.warm hW0 hstr
  obtain ⟨U, hsteps, hrun, hend, hW, hsame, ce, hce, hO⟩ := X₁.ctorThrowS hexec htr (own := own) (cls := cls) (names := names) (ic := ic) hown' hcls hnames h (fun x hx => nomatch hx) hfX hkX hcellA (by rw [hhp, hT]; exact Nat.le_refl _) (msg := .ref sa) rfl
    (g := { method := m, pc := pc + 6, locals := ls, stack := .ref sa :: .ref T.heap.size :: .ref T.heap.size :: rest, locked := none }) rfl hsize rfl rfl (rest := rest) rfl
    (by rw [hb]; exact d6) (by rw [hb]; exact d9) hout hRframes (by simp only [List.map_cons, List.sum_cons, hcat]; omega) hlocks
  obtain ⟨f1, f2⟩ := vx_frame hsame
  rw [hhp] at f1 f2
  have hWs : s.WarmedH U.vm := State.WarmedH.trans hW0 hW
  have f0 : U.heap.size = H.size + 1 := by
    have z1 : U.heap.size ≤ s'.heap.size + (0 + 1) := hsame.2.2.1
    have z2 : T.heap.size < U.heap.size := (Array.getElem?_eq_some_iff.mp hce).1
    rw [hhp] at z1
    rw [hT] at z2
    omega
  have hcl : s.vm.findClass cls = some ce.cls := by
    have h9 := hO.cls
    rw [hvm] at h9
    exact h9
  have hall : s.sameButNew ({ U with vm := s.vm } : State) locs mc ms := by
    subst hA
    obtain ⟨e1, e2⟩ := hsame
    rw [State.setFrames_setFrames] at e1
    have h2 : (T.setVm s.vm).sameButNew ({ U with vm := s.vm } : State) [] (0 + 1) (0 + 6) := ⟨e1, e2⟩
    have h3 := X.same.trans h2
    rw [List.append_nil] at h3
    exact h3.mono hc hs
  refine ⟨U, ?_, .threw T.heap.size, hrun, hend, Or.inr ⟨T.heap.size, rfl, cls, ce, locs, hx U hWs.alike f0 (fun q hq => f2 q hq (fun z hz => nomatch hz)), hce, hO.vm, hcl, hWs, hall, hf⟩⟩
  refine st1 _ ?_
  show Steps p.tables e below (T1.setTop { method := m, pc := pc + 3, locals := ls, stack := .ref T.heap.size :: rest, locked := none }) _
  jvm_step X₁.here [X₁.here.top, hexec, d3', Value.category]
  exact X₁.ldcString hexec (own := own) (text := text) (index := is) (a := sa) hown' hstr'.1 hstr'.2
    (g := { method := m, pc := pc + 4, locals := ls, stack := .ref T.heap.size :: .ref T.heap.size :: rest, locked := none }) rfl d4' _ hsteps
theorem jx_throwSW {cc : ByteArray} {pc : Nat} (hexec : p.tables.exec = Jvm.exec) (hb : c.code = cc) (hl : l.stackTraces = false) {own cls text : String} {names : List String} {ik is ic mc ms sa : Nat} {A : Nat → Prop}
    (hown : s.vm.findClass own = some m.cls) (hcls : Bundle.fit cls = true) (hnames : ∀ n ∈ names, Bundle.fit n = true)
    (hk : (Cond.classLink own ik cls).before args s = true) (hini : (Cond.initialized cls).before args s = true) (hstr : vk_R own is text sa s) (hat : ∀ w ∈ vx_atS own ic cls names, w.before args s = true)
    (hgood : ∀ w ∈ Cond.classLink own ik cls :: Cond.initialized cls :: vx_atS own ic cls names, vx_ot w = true)
    (hU : vx_Zq Bundle.tN "UNASSIGNED_STACK" Bundle.steD A s s.heap) (hN : vx_Zq Bundle.tN "SUPPRESSED_SENTINEL" Bundle.listD A s s.heap) (hS : va_S A s.heap H locs) (hsize : ls.size = c.maxLocals)
    (d0 : decode cc pc = .ok (.new ik, 3)) (d3 : decode cc (pc + 3) = .ok (.dup, 1)) (d4 : decode cc (pc + 4) = .ok (.ldc_w is, 3)) (d7 : decode cc (pc + 7) = .ok (.invokespecial ic, 3)) (d10 : decode cc (pc + 10) = .ok (.athrow, 1))
    (hout : ∀ x ∈ c.exceptionTable.toList, covers x (pc + 10) = false)
    (hRframes : names.length + 3 < R.frames) (hRlocals : (rest.map fun v => v.category).sum + (13 * (names.length + 1) + 43) ≤ R.locals) (hRcells : cells + 1 ≤ R.cells) (hRslots : slots + 6 ≤ R.slots) (hlocks : meth.locks = false)
    (hx : ∀ t : State, s.vm.Alike t.vm → t.heap.size = H.size + 1 → (∀ q : Nat, q < H.size → t.heap[q]? = H[q]?) → XC cls s t)
    (hf : ∀ z ∈ locs, free z.base) (hc : cells + 1 ≤ mc) (hs : slots + 6 ≤ ms) :
    W p l e R s m args below meth c H locs cells slots (vx_MQ below Qc XC args s mc ms free) (F0 m pc ls rest) := by
  intro T hT X
  have htr : e.platform.stackTraces = false := (show e.platform.stackTraces = l.stackTraces by rw [X.admits.platform]).trans hl
  have Y := vx_rebase X (R' := { frames := R.frames, locals := R.locals, cells := 1, slots := 6 }) (Nat.le_refl _) (Nat.le_refl _) hRcells hRslots
  obtain ⟨s', hA⟩ : ∃ z, z = (T.setVm s.vm).setFrames (.invoking m args :: below) := ⟨_, rfl⟩
  rw [← hA] at Y
  have hvm : s'.vm = s.vm := by rw [hA]; rfl
  have hhp : s'.heap = H := by rw [hA]; exact hT
  have hW0 : s.WarmedH s'.vm := by rw [hvm]; exact State.WarmedH.refl s
  have hat' : ∀ w ∈ vx_atS own ic cls names, w.before args s' = true := fun w hw => vx_ot_at hW0 hvm.symm (hgood w (List.mem_cons_of_mem _ (List.mem_cons_of_mem _ hw))) (hat w hw)
  have hk' : (Cond.classLink own ik cls).before args s' = true := vx_ot_at hW0 hvm.symm (hgood _ List.mem_cons_self) hk
  have hini' : (Cond.initialized cls).before args s' = true := vx_ot_at hW0 hvm.symm (hgood _ (List.mem_cons_of_mem _ List.mem_cons_self)) hini
  have hU' : vx_Zq Bundle.tN "UNASSIGNED_STACK" Bundle.steD A s' s'.heap := by rw [hhp]; exact vx_Zq.moved hW0.alike (hU.kept hS.2.1)
  have hN' : vx_Zq Bundle.tN "SUPPRESSED_SENTINEL" Bundle.listD A s' s'.heap := by rw [hhp]; exact vx_Zq.moved hW0.alike (hN.kept hS.2.1)
  have h : ∀ w ∈ Bundle.ownAtoms own ic cls names, w.before args s' = true := vx_own hat' (vx_isRefq hU'.1) (vx_isRefq hN'.1) hU'.2.word hN'.2.word
  have hown' : s'.vm.findClass own = some m.cls := by rw [hvm]; exact hown
  have hins : (Cond.instantiable cls 6).before args s' = true := h _ (by simp [Bundle.ownAtoms])
  obtain ⟨vm₁, cX, kX, hfX, hkX, -, -, X₁, st1⟩ := Y.newCold hexec (own := own) (C := cls) (index := ik) (n := 6) hown' hk' hins hini'
    (g := F0 m pc ls rest) rfl (by rw [hb]; exact d0) (Nat.le_refl _) (Nat.le_refl _)
  generalize hT1 : (T.setVm vm₁).pushCell { cls := cX, slots := kX.instanceTypes.map defaultValue, vm := .none } = T1 at X₁ st1
  have hcat : (Value.ref T.heap.size).category = 1 := rfl
  have hcellA : T1.heap[T.heap.size]? = some (freshCell cX kX) := by rw [← hT1]; exact State.heap_pushCell_size _ _
  have d3' : decode c.code (pc + 3) = .ok (.dup, 1) := by rw [hb]; exact d3
  have d4' : decode c.code (pc + 4) = .ok (.ldc_w is, 3) := by rw [hb]; exact d4
  have hstr' : vk_R own is text sa s' := vk_R.warm hW0 hstr
  obtain ⟨U, hsteps, hrun, hend, hW, hsame, ce, hce, hO⟩ := X₁.ctorThrowS hexec htr (own := own) (cls := cls) (names := names) (ic := ic) hown' hcls hnames h (fun x hx => nomatch hx) hfX hkX hcellA (by rw [hhp, hT]; exact Nat.le_refl _) (msg := .ref sa) rfl
    (g := { method := m, pc := pc + 7, locals := ls, stack := .ref sa :: .ref T.heap.size :: .ref T.heap.size :: rest, locked := none }) rfl hsize rfl rfl (rest := rest) rfl
    (by rw [hb]; exact d7) (by rw [hb]; exact d10) hout hRframes (by simp only [List.map_cons, List.sum_cons, hcat]; omega) hlocks
  obtain ⟨f1, f2⟩ := vx_frame hsame
  rw [hhp] at f1 f2
  have hWs : s.WarmedH U.vm := State.WarmedH.trans hW0 hW
  have f0 : U.heap.size = H.size + 1 := by
    have z1 : U.heap.size ≤ s'.heap.size + (0 + 1) := hsame.2.2.1
    have z2 : T.heap.size < U.heap.size := (Array.getElem?_eq_some_iff.mp hce).1
    rw [hhp] at z1
    rw [hT] at z2
    omega
  have hcl : s.vm.findClass cls = some ce.cls := by
    have h9 := hO.cls
    rw [hvm] at h9
    exact h9
  have hall : s.sameButNew ({ U with vm := s.vm } : State) locs mc ms := by
    subst hA
    obtain ⟨e1, e2⟩ := hsame
    rw [State.setFrames_setFrames] at e1
    have h2 : (T.setVm s.vm).sameButNew ({ U with vm := s.vm } : State) [] (0 + 1) (0 + 6) := ⟨e1, e2⟩
    have h3 := X.same.trans h2
    rw [List.append_nil] at h3
    exact h3.mono hc hs
  refine ⟨U, ?_, .threw T.heap.size, hrun, hend, Or.inr ⟨T.heap.size, rfl, cls, ce, locs, hx U hWs.alike f0 (fun q hq => f2 q hq (fun z hz => nomatch hz)), hce, hO.vm, hcl, hWs, hall, hf⟩⟩
  refine st1 _ ?_
  show Steps p.tables e below (T1.setTop { method := m, pc := pc + 3, locals := ls, stack := .ref T.heap.size :: rest, locked := none }) _
  jvm_step X₁.here [X₁.here.top, hexec, d3', Value.category]
  exact X₁.ldcStringW hexec (own := own) (text := text) (index := is) (a := sa) hown' hstr'.1 hstr'.2
    (g := { method := m, pc := pc + 4, locals := ls, stack := .ref T.heap.size :: .ref T.heap.size :: rest, locked := none }) rfl d4' _ hsteps
end JTHROW
/-- a throw's words -/
def jTh (own : String) (ik is ic : Nat) (cls text : String) (names : List String) : Prop :=
  Bundle.fit cls = true ∧ (∀ n ∈ names, Bundle.fit n = true) ∧ Cond.classLink own ik cls ∈ gT ∧ Cond.initialized cls ∈ gT ∧ (own, is, text) ∈ jSr ∧ (∀ w ∈ vx_atS own ic cls names, w ∈ gT ∨ (w ∈ jNt ∧ w.onTables = true)) ∧ (∀ w ∈ Cond.classLink own ik cls :: Cond.initialized cls :: vx_atS own ic cls names, vx_ot w = true)
theorem r_throw {p : Program} {l : Launch} {e : Env} {R : Room} {s : State} {m : MethodId} {args : Array Value} {below : List Frame} {meth : Method} {c : Code} {g : jG} {own : String} {cc : ByteArray} {nL k n pc : Nat} {rt : Option FieldType} {lv : List (Nat × Value)} {st : List Value} {σ τ : Hp} {o : jO} {mc ms : Nat} (C : jC p l s m args meth c g own cc nL rt) {ik is ic : Nat} {cls text : String} {names : List String} (hT : jTh own ik is ic cls text names)
    (d0 : decode cc pc = .ok (.new ik, 3)) (d3 : decode cc (pc + 3) = .ok (.dup, 1)) (d4 : decode cc (pc + 4) = .ok (.ldc is, 2)) (d6 : decode cc (pc + 6) = .ok (.invokespecial ic, 3)) (d9 : decode cc (pc + 9) = .ok (.athrow, 1))
    (hE : ∀ x ∈ c.exceptionTable.toList, False) (hRf : names.length + 3 < R.frames) (hRl : (st.map fun v => v.category).sum + (13 * (names.length + 1) + 43) ≤ R.locals) (hRc : k + 1 ≤ R.cells) (hRs : n + 6 ≤ R.slots) (hk : k + 1 ≤ mc) (hn : n + 6 ≤ ms) (h : some ((.inr cls, thS σ) : jO × Hp) = some (o, τ)) : jW p l e R s m args below meth c g (vx_MQ below (jQc g o τ) (jXC g o τ) args s mc ms (jA g)) k n pc lv st σ := by
  cases h
  obtain ⟨t1, t2, t3, t4, t5, t6, t7⟩ := hT
  obtain ⟨hx, hb, hnl, hown, hts, hlk, hst, hrt, hS, hZ⟩ := C
  obtain ⟨sa, hsa⟩ := hS.2.2.1 _ t5
  intro H locs ls h1 h2 h3
  exact jx_throwS hx hb hst hown t1 t2 (hts _ t3) (hts _ t4) hsa (fun w hw => (t6 w hw).elim (fun q => hts w q) (fun q => va_Nw.use q.2 (hS.2.1 w q.1))) t7 hZ.1 hZ.2.1 h2 h3.1 d0 d3 d4 d6 d9 (fun x hx => (hE x hx).elim) hRf hRl hRc hRs hlk
    (fun t hA hz hq => ⟨rfl, h1.skip hz hq, ⟨by rw [hz]; exact Nat.le_succ_of_le h2.1, fun q a b => (hq q (Nat.lt_of_lt_of_le a h2.1)).trans (h2.2.1 q a b)⟩⟩) (fun z hz => h2.2.2 z hz) hk hn
theorem r_throwW {p : Program} {l : Launch} {e : Env} {R : Room} {s : State} {m : MethodId} {args : Array Value} {below : List Frame} {meth : Method} {c : Code} {g : jG} {own : String} {cc : ByteArray} {nL k n pc : Nat} {rt : Option FieldType} {lv : List (Nat × Value)} {st : List Value} {σ τ : Hp} {o : jO} {mc ms : Nat} (C : jC p l s m args meth c g own cc nL rt) {ik is ic : Nat} {cls text : String} {names : List String} (hT : jTh own ik is ic cls text names)
    (d0 : decode cc pc = .ok (.new ik, 3)) (d3 : decode cc (pc + 3) = .ok (.dup, 1)) (d4 : decode cc (pc + 4) = .ok (.ldc_w is, 3)) (d6 : decode cc (pc + 7) = .ok (.invokespecial ic, 3)) (d9 : decode cc (pc + 10) = .ok (.athrow, 1))
    (hE : ∀ x ∈ c.exceptionTable.toList, False) (hRf : names.length + 3 < R.frames) (hRl : (st.map fun v => v.category).sum + (13 * (names.length + 1) + 43) ≤ R.locals) (hRc : k + 1 ≤ R.cells) (hRs : n + 6 ≤ R.slots) (hk : k + 1 ≤ mc) (hn : n + 6 ≤ ms) (h : some ((.inr cls, thS σ) : jO × Hp) = some (o, τ)) : jW p l e R s m args below meth c g (vx_MQ below (jQc g o τ) (jXC g o τ) args s mc ms (jA g)) k n pc lv st σ := by
  cases h
  obtain ⟨t1, t2, t3, t4, t5, t6, t7⟩ := hT
  obtain ⟨hx, hb, hnl, hown, hts, hlk, hst, hrt, hS, hZ⟩ := C
  obtain ⟨sa, hsa⟩ := hS.2.2.1 _ t5
  intro H locs ls h1 h2 h3
  exact jx_throwSW hx hb hst hown t1 t2 (hts _ t3) (hts _ t4) hsa (fun w hw => (t6 w hw).elim (fun q => hts w q) (fun q => va_Nw.use q.2 (hS.2.1 w q.1))) t7 hZ.1 hZ.2.1 h2 h3.1 d0 d3 d4 d6 d9 (fun x hx => (hE x hx).elim) hRf hRl hRc hRs hlk
    (fun t hA hz hq => ⟨rfl, h1.skip hz hq, ⟨by rw [hz]; exact Nat.le_succ_of_le h2.1, fun q a b => (hq q (Nat.lt_of_lt_of_le a h2.1)).trans (h2.2.1 q a b)⟩⟩) (fun z hz => h2.2.2 z hz) hk hn
end
section
/-! java/util/NoSuchElementException's constructor links by another place than the other exceptions' (13): the same walk (vx_ctorMadeS, vx_makeS of the exceptions' text) over its own code -/
def b13 : ByteArray := ⟨#[0x2a, 0x2b, 0xb7, 0x00, 0x0d, 0xb1]⟩
theorem b13_0 : decode b13 0 = .ok (.aload_n 0, 1) := by decide +kernel
theorem b13_1 : decode b13 1 = .ok (.aload_n 1, 1) := by decide +kernel
theorem b13_2 : decode b13 2 = .ok (.invokespecial 13, 3) := by decide +kernel
theorem b13_5 : decode b13 5 = .ok (.return_, 1) := by decide +kernel
def jO13 (own : String) (ic : Nat) (X Y : String) (r : List String) : List Cond :=
  Bundle.throwableAtoms ++ Bundle.throwableSAtoms ++ (Bundle.passSAtoms X Y 13 b13 ++ Bundle.chainSAtoms Y r) ++
  [.methodLink own ic (Bundle.initS X), .instantiable X 6, .castable X X, .selects X Bundle.tFill0 Bundle.tFill0, .selects X Bundle.tFill Bundle.tFill,
   .lays X Bundle.tN "cause" "Ljava/lang/Throwable;", .lays X Bundle.tN "stackTrace" Bundle.steD, .lays X Bundle.tN "suppressedExceptions" Bundle.listD, .lays X Bundle.tN "detailMessage" "Ljava/lang/String;",
   .isRef (.static Bundle.tN "UNASSIGNED_STACK" Bundle.steD), .isRef (.static Bundle.tN "SUPPRESSED_SENTINEL" Bundle.listD),
   .fieldLink Bundle.tN 198 Bundle.tN "backtrace" "Ljava/lang/Object;", .lays Bundle.tN Bundle.tN "backtrace" "Ljava/lang/Object;", .lays X Bundle.tN "backtrace" "Ljava/lang/Object;"]
theorem jx_chain13 {args : Array Value} {s : State} {pl : Platform} (hpl : pl.magicAccessors = ({} : Platform).magicAccessors) {top : MethodId} (htop : s.methodNamed? (Bundle.initS Bundle.tN) = some top) (r : List String) (X Y : String) (hX : Bundle.fit X = true) (hY : Bundle.fit Y = true) (hn : ∀ n ∈ r, Bundle.fit n = true)
    (h1 : ∀ c ∈ Bundle.passSAtoms X Y 13 b13, c.before args s = true) (h2 : ∀ c ∈ Bundle.chainSAtoms Y r, c.before args s = true) :
    ∃ (P1 : PassC) (Ps : List PassC), Ps.length = r.length + 1 ∧ P1.LinksS pl s ∧ (∀ P, P ∈ Ps → P.LinksS pl s) ∧ s.methodNamed? (Bundle.initS X) = some P1.m ∧
      P1.sup = firstOf top (Ps.map (·.toPassT)) ∧ PassesOn top (Ps.map (·.toPassT)) := by
  obtain ⟨P, L, hm, hs⟩ := PassC.ofS_atoms (args := args) (s := s) hpl (X := X) (Y := Y) (Bundle.fit_spec hX).1 (Bundle.fit_spec hY).2 b13_0 b13_1 b13_2 b13_5 h1
  obtain ⟨P', Ps, hlen, L', hL, hm', hsup, hpass⟩ := Bundle.chainS (args := args) hpl htop r Y hY hn h2
  refine ⟨P, P' :: Ps, by simp [hlen], L, ?_, hm, Option.some.inj (hs.symm.trans hm'), hsup, hpass⟩
  intro Q hQ
  rcases List.mem_cons.mp hQ with rfl | hQ
  · exact L'
  · exact hL Q hQ
section JN1
variable {p : Program} {l : Launch} {e : Env} {R : Room} {s : State} {m₀ : MethodId} {args : Array Value} {below : List Frame} {meth : Method} {c : Code} {W : State} {locs : List Loc} {cells slots : Nat}
set_option maxHeartbeats 1000000 in
theorem jx_ctorMade (X : Stand p l e R s m₀ args below meth c W locs cells slots) (hexec : p.tables.exec = Jvm.exec) (htr : e.platform.stackTraces = false) {own cls : String} {Y : String} {r : List String} {ic : Nat}
    (hown : s.vm.findClass own = some m₀.cls) (hcls : Bundle.fit cls = true) (hY : Bundle.fit Y = true) (hnames : ∀ n ∈ r, Bundle.fit n = true)
    (h : ∀ a ∈ jO13 own ic cls Y r, a.before args s = true)
    (hlocs : ∀ x ∈ locs, ∀ cell, s.heap[x.base]? = some cell → cell.vm.isStatics = false)
    {a : Addr} {cX : ClassId} {kX : Class} (hfoundX : s.vm.findClass cls = some cX) (hkX : s.vm.classes[cX]? = some kX) (hcell : W.heap[a]? = some (freshCell cX kX)) (hnew : s.heap.size ≤ a)
    {msg : Value} (hmsg : msg.isRef = true)
    {g : JFrame} (hg : g.method = m₀) (hsize : g.locals.size = c.maxLocals) {rest : List Value} (hstack : g.stack = msg :: .ref a :: .ref a :: rest)
    (hd6 : decode c.code g.pc = .ok (.invokespecial ic, 3))
    (hRframes : (r.length + 1) + 3 < R.frames) (hRlocals : 2 * g.monitorRoom + ((Value.ref a :: rest).map fun v => v.category).sum + (13 * ((r.length + 1) + 1) + 42) ≤ R.locals) :
    ∃ (V : State) (ce : Cell) (L : List Loc), Stand p l e R s m₀ args below meth c (V.setCell a ce) (locs ++ L) cells slots ∧ (∀ y ∈ L, y.base = a) ∧ a < V.heap.size ∧ ce.cls = cX ∧ ce.vm = .none ∧
      ∀ target, Steps p.tables e below ((V.setCell a ce).setTop { g with stack := .ref a :: rest, pc := g.pc + 3 }) target → Steps p.tables e below (W.setTop g) target := by
  have howns : e.platform.frameOwnsMonitors = true := by rw [X.admits.platform]
  have hfin : e.platform.finalization = false := by rw [X.admits.platform]
  have hpl : e.platform.magicAccessors = ({} : Platform).magicAccessors := by rw [X.admits.platform]
  have a' : ∀ x, x ∈ jO13 own ic cls Y r → x.holds args s none s [] = true := fun x hx => h x hx
  obtain ⟨T, Z0, L, -, TY⟩ := ThrowableC.of_atoms (args := args) howns hfin hpl (fun x hx => h x (by simp [jO13, hx]))
  obtain ⟨Z, M, LZ, LM, hnZ⟩ := Init0T.ofS_atoms (args := args) hpl L TY (fun x hx => h x (by simp [jO13, hx]))
  obtain ⟨P1, Ps, hlen, L1, hL, hP1m, hlink1, hlink⟩ := jx_chain13 (args := args) hpl hnZ r cls Y hcls hY hnames (fun x hx => h x (by simp [jO13, hx])) (fun x hx => h x (by simp [jO13, hx]))
  have hfound : s.vm.findClass cls = some P1.m.cls := findClass_of_methodNamed hP1m
  cases Option.some.inj (hfoundX.symm.trans hfound)
  obtain ⟨c1, kX', hc1, hk, hord, -, -, hn6⟩ := Cond.instantiable_spec (a' (.instantiable cls 6) (by simp [jO13]))
  cases Option.some.inj (hc1.symm.trans hfound)
  cases Option.some.inj (hkX.symm.trans hk)
  have hsel0 : selectMethod e.platform s.vm P1.m.cls T.fill0 = .method T.fill0 := by
    obtain ⟨c2, r2, m2, q1, q2, q3, q4, -⟩ := Cond.selects_spec (a' (.selects cls Bundle.tFill0 Bundle.tFill0) (by simp [jO13]))
    cases Option.some.inj (q1.symm.trans hfound)
    cases Option.some.inj (q2.symm.trans (State.methodFound?_of_named TY.fill0 (by decide)))
    cases Option.some.inj (q3.symm.trans TY.fill0)
    rw [Launch.admits_selectMethod X.admits]; exact q4
  have hselF : selectMethod e.platform s.vm P1.m.cls T.fill = .method T.fill := by
    obtain ⟨c2, r2, m2, q1, q2, q3, q4, -⟩ := Cond.selects_spec (a' (.selects cls Bundle.tFill Bundle.tFill) (by simp [jO13]))
    cases Option.some.inj (q1.symm.trans hfound)
    cases Option.some.inj (q2.symm.trans (State.methodFound?_of_named TY.fill (by decide)))
    cases Option.some.inj (q3.symm.trans TY.fill)
    rw [Launch.admits_selectMethod X.admits]; exact q4
  obtain ⟨cellS0, hcS0, hiss⟩ := TY.statics
  obtain ⟨u0, hu0⟩ := Cond.staticRefV TY.unassigned L.unassignedStatic L.statics hcS0 hiss (a' (.isRef (.static Bundle.tN "UNASSIGNED_STACK" Bundle.steD)) (by simp [jO13]))
  obtain ⟨sen, hsen⟩ := Cond.staticRefV TY.sentinel L.sentinelStatic L.statics hcS0 hiss (a' (.isRef (.static Bundle.tN "SUPPRESSED_SENTINEL" Bundle.listD)) (by simp [jO13]))
  obtain ⟨ci198, i198, fB, hk198, hg198, ha198, hsB, -, hnB, htB, hffB⟩ := Cond.ownField (t := .object "java/lang/Object") TY.found L.cls (by decide +kernel) (a' (.fieldLink Bundle.tN 198 Bundle.tN "backtrace" "Ljava/lang/Object;") (by simp [jO13])) (a' (.lays Bundle.tN Bundle.tN "backtrace" "Ljava/lang/Object;") (by simp [jO13])) e.platform hpl
  obtain ⟨cellS, hcS', heS, -, hkeep⟩ := X.same.2.2.2.2.2 T.aS cellS0 hcS0
  have hcellS : W.heap[T.aS]? = some cellS := hcS'
  have hout' : ∀ i, (⟨T.aS, i⟩ : Loc) ∉ locs := fun i hmem => by
    have := hlocs _ hmem cellS0 hcS0
    rw [hiss] at this; cases this
  have hknownS : cellS.vm ≠ .unknown := by
    rw [heS]; intro hu
    rw [show cellS0.vm = .unknown from hu] at hiss
    cases hiss
  have hneS : T.aS ≠ a := Nat.ne_of_lt (Nat.lt_of_lt_of_le (Array.getElem?_eq_some_iff.mp hcS0).1 hnew)
  obtain ⟨iM, hffM⟩ := TY.msg
  obtain ⟨tyC, dC, hdC, hdnC⟩ := Cond.laysAt hfound hk TY.cause (a' (.lays cls Bundle.tN "cause" "Ljava/lang/Throwable;") (by simp [jO13]))
  obtain ⟨tyS, dS, hdS, hdnS⟩ := Cond.laysAt hfound hk TY.stack (a' (.lays cls Bundle.tN "stackTrace" Bundle.steD) (by simp [jO13]))
  obtain ⟨tyP, dP, hdP, hdnP⟩ := Cond.laysAt hfound hk TY.supp (a' (.lays cls Bundle.tN "suppressedExceptions" Bundle.listD) (by simp [jO13]))
  obtain ⟨tyM, dM, hdM, hdnM⟩ := Cond.laysAt hfound hk hffM (a' (.lays cls Bundle.tN "detailMessage" "Ljava/lang/String;") (by simp [jO13]))
  obtain ⟨tyB, dB, hdB, hdnB⟩ := Cond.laysAt hfound hk hffB (a' (.lays cls Bundle.tN "backtrace" "Ljava/lang/Object;") (by simp [jO13]))
  have bC := Cond.laysApart hdB hdC hdnB hdnC (by rw [hnB, TY.causeName]; decide)
  have bS := Cond.laysApart hdB hdS hdnB hdnS (by rw [hnB, TY.stackName]; decide)
  have bP := Cond.laysApart hdB hdP hdnB hdnP (by rw [hnB, TY.suppName]; decide)
  have hskip : SkipFacts T e.platform s (fun u => u) u0 ((preparedCellV T.toThrowableT (freshCell P1.m.cls kX) a u0 sen).withEntry W.cur) :=
    ⟨{ ci198 := ci198, i198 := i198, fBack := fB }, ⟨hk198, hg198, ha198, hsB⟩, by
      have := fresh_default (c := P1.m.cls) tyB
      rw [htB] at this
      simpa [preparedCellV, Cell.setSlot, Cell.withEntry, Array.getElem?_setIfInBounds, bC, bS, bP, bC.symm, bS.symm, bP.symm, defaultValue] using this, fun _ _ => rfl⟩
  obtain ⟨tm, methC, cdC, kC, vm₁, hnC, -, -, -, -, -, -, -, hW₁, st1⟩ := Steps.initColdS (tb := p.tables) (e := e) (below := below) (s := s) (U := W) X.here hexec X.warmed hpl hown (t := Bundle.initS cls) rfl rfl (Bundle.fit_spec hcls).2
    (a' (.methodLink own ic (Bundle.initS cls)) (by simp [jO13])) (h (.instanceMethod (Bundle.initS cls)) (by simp [jO13, Bundle.passSAtoms])) (bytes := b13) (maxL := 2) (h (.code (Bundle.initS cls) b13 2 none) (by simp [jO13, Bundle.passSAtoms]))
    (f := g) hg (a := a) (msg := msg) (rest := .ref a :: rest) hstack hd6
  cases Option.some.inj (hnC.symm.trans hP1m)
  have X₁ := X.noted hW₁
  obtain ⟨vm₂, X₂, st2⟩ := X₁.ctorMessageOffV hexec (g := { g with stack := .ref a :: rest }) hg hsize T L Z LZ M LM (P1 :: Ps)
    (fun P hP => by rcases List.mem_cons.mp hP with rfl | hP; exact L1; exact hL P hP) ⟨hlink1, hlink⟩ (u0 := u0) (sen := sen) (self := a) hmsg (cell := freshCell P1.m.cls kX) (cellS := cellS)
    hcell (fun _ => by simp) (by simp) rfl rfl hsel0 hselF hcellS hneS hknownS (by rw [hkeep _ (hout' _)]; exact hu0) (by rw [hkeep _ (hout' _)]; exact hsen)
    (Takes.of_laid hk hord tyC (by rw [TY.causeType]; rfl)) (Takes.of_laid hk hord tyS (by rw [TY.stackType]; exact fits_refV_array _ u0)) (Takes.of_laid hk hord tyP (by rw [TY.suppType]; exact fits_refV_object _ sen))
    (Takes.of_laid hk hord tyM (by rw [TY.msgType]; exact fits_refV_object _ ⟨msg, hmsg⟩)) TY.objLocals hskip htr [] hd6
    (by simp only [List.length_cons, hlen]; omega) (by simp only [List.length_cons, hlen]; exact hRlocals)
  have hlt : a < ((W.setVm vm₁).setVm vm₂).heap.size := (Array.getElem?_eq_some_iff.mp hcell).1
  refine ⟨(W.setVm vm₁).setVm vm₂, _, _, X₂, fun y hy => ?_, hlt, rfl, rfl, fun target hwalk => st1 _ (fun acts => ?_)⟩
  · simp only [List.mem_cons, List.not_mem_nil, or_false] at hy
    rcases hy with rfl | rfl | rfl | rfl | rfl <;> rfl
  · rw [doInvoke_state]
    exact st2 _ hwalk
end JN1
section JN2
variable {p : Program} {l : Launch} {e : Env} {R : Room} {s : State} {m : MethodId} {args : Array Value} {below : List Frame} {meth : Method} {c : Code} {H : Heap} {locs : List Loc} {cells slots : Nat} {Q : State → Prop}
variable {ls : Array Slot} {rest : List Value}
theorem jx_make13 {cc : ByteArray} {pc : Nat} (hexec : p.tables.exec = Jvm.exec) (hb : c.code = cc) (hl : l.stackTraces = false) {own cls text : String} {Y0 : String} {r : List String} {ik is ic sa : Nat} {A : Nat → Prop}
    (hown : s.vm.findClass own = some m.cls) (hcls : Bundle.fit cls = true) (hY : Bundle.fit Y0 = true) (hnames : ∀ n ∈ r, Bundle.fit n = true)
    (hk : (Cond.classLink own ik cls).before args s = true) (hini : (Cond.initialized cls).before args s = true) (hstr : vk_R own is text sa s) (hat : ∀ w ∈ (jO13 own ic cls Y0 r).filter vx_no, w.before args s = true)
    (hgood : ∀ w ∈ Cond.classLink own ik cls :: Cond.initialized cls :: (jO13 own ic cls Y0 r).filter vx_no, vx_ot w = true)
    (hU : vx_Zq Bundle.tN "UNASSIGNED_STACK" Bundle.steD A s s.heap) (hN : vx_Zq Bundle.tN "SUPPRESSED_SENTINEL" Bundle.listD A s s.heap) (hS : va_S A s.heap H locs) (hsize : ls.size = c.maxLocals)
    (d0 : decode cc pc = .ok (.new ik, 3)) (d3 : decode cc (pc + 3) = .ok (.dup, 1)) (d4 : decode cc (pc + 4) = .ok (.ldc is, 2)) (d6 : decode cc (pc + 6) = .ok (.invokespecial ic, 3))
    (hRframes : (r.length + 1) + 3 < R.frames) (hRlocals : (rest.map fun v => v.category).sum + (13 * ((r.length + 1) + 1) + 43) ≤ R.locals) (hRcells : cells + 1 ≤ R.cells) (hRslots : slots + 6 ≤ R.slots)
    (kk : ∀ (H1 : Heap) (ce : Cell), H1.size = H.size + 1 → (∀ q, q < H.size → H1[q]? = H[q]?) → H1[H.size]? = some ce → ce.vm = .none → s.vm.findClass cls = some ce.cls → W p l e R s m args below meth c H1 locs (cells + 1) (slots + 6) Q (F0 m (pc + 9) ls (.ref H.size :: rest))) :
    W p l e R s m args below meth c H locs cells slots Q (F0 m pc ls rest) := by
  intro T hT X
  subst hT
  have htr : e.platform.stackTraces = false := (show e.platform.stackTraces = l.stackTraces by rw [X.admits.platform]).trans hl
  have Y := vx_rebase X (R' := { frames := R.frames, locals := R.locals, cells := 1, slots := 6 }) (Nat.le_refl _) (Nat.le_refl _) hRcells hRslots
  obtain ⟨s', hA'⟩ : ∃ z, z = (T.setVm s.vm).setFrames (.invoking m args :: below) := ⟨_, rfl⟩
  rw [← hA'] at Y
  have hvm : s'.vm = s.vm := by rw [hA']; rfl
  have hhp : s'.heap = T.heap := by rw [hA']; rfl
  have hW0 : s.WarmedH s'.vm := by rw [hvm]; exact State.WarmedH.refl s
  have hat' : ∀ w ∈ (jO13 own ic cls Y0 r).filter vx_no, w.before args s' = true := fun w hw => vx_ot_at hW0 hvm.symm (hgood w (List.mem_cons_of_mem _ (List.mem_cons_of_mem _ hw))) (hat w hw)
  have hk' : (Cond.classLink own ik cls).before args s' = true := vx_ot_at hW0 hvm.symm (hgood _ List.mem_cons_self) hk
  have hini' : (Cond.initialized cls).before args s' = true := vx_ot_at hW0 hvm.symm (hgood _ (List.mem_cons_of_mem _ List.mem_cons_self)) hini
  have hU' : vx_Zq Bundle.tN "UNASSIGNED_STACK" Bundle.steD A s' s'.heap := by rw [hhp]; exact vx_Zq.moved hW0.alike (hU.kept hS.2.1)
  have hN' : vx_Zq Bundle.tN "SUPPRESSED_SENTINEL" Bundle.listD A s' s'.heap := by rw [hhp]; exact vx_Zq.moved hW0.alike (hN.kept hS.2.1)
  have h : ∀ w ∈ jO13 own ic cls Y0 r, w.before args s' = true := vx_own hat' (vx_isRefq hU'.1) (vx_isRefq hN'.1) hU'.2.word hN'.2.word
  have hown' : s'.vm.findClass own = some m.cls := by rw [hvm]; exact hown
  have hins : (Cond.instantiable cls 6).before args s' = true := h _ (by simp [jO13])
  obtain ⟨vm₁, cX, kX, hfX, hkX, -, -, X₁, st1⟩ := Y.newCold hexec (own := own) (C := cls) (index := ik) (n := 6) hown' hk' hins hini'
    (g := F0 m pc ls rest) rfl (by rw [hb]; exact d0) (Nat.le_refl _) (Nat.le_refl _)
  generalize hT1 : (T.setVm vm₁).pushCell { cls := cX, slots := kX.instanceTypes.map defaultValue, vm := .none } = T1 at X₁ st1
  have hcat : (Value.ref T.heap.size).category = 1 := rfl
  have hcellA : T1.heap[T.heap.size]? = some (freshCell cX kX) := by rw [← hT1]; exact State.heap_pushCell_size _ _
  have d3' : decode c.code (pc + 3) = .ok (.dup, 1) := by rw [hb]; exact d3
  have d4' : decode c.code (pc + 4) = .ok (.ldc is, 2) := by rw [hb]; exact d4
  have hstr' : vk_R own is text sa s' := vk_R.warm hW0 hstr
  obtain ⟨V, ce, L, Z, hL, hlt, hcl9, hvm9, st⟩ := jx_ctorMade X₁ hexec htr (own := own) (cls := cls) (Y := Y0) (r := r) (ic := ic) hown' hcls hY hnames h (fun x hx => nomatch hx) hfX hkX hcellA (by rw [hhp]; exact Nat.le_refl _) (msg := .ref sa) rfl
    (g := { method := m, pc := pc + 6, locals := ls, stack := .ref sa :: .ref T.heap.size :: .ref T.heap.size :: rest, locked := none }) rfl hsize (rest := rest) rfl
    (by rw [hb]; exact d6) hRframes (by simp only [List.map_cons, List.sum_cons, hcat]; omega)
  have Z0 := Stand.forget (locs := []) Z (fun y hy => by rw [hL y hy, hhp]; exact Nat.le_refl _)
  obtain ⟨f1, f2⟩ := vx_frame Z0.same
  rw [hhp] at f1 f2
  have hh : (V.setCell T.heap.size ce).heap[T.heap.size]? = some ce := heapAt_setCell_self (s := V) ce hlt
  subst hA'
  have X5 := vx_back9 X Y Z0
  have X6 : Stand p l e R s m args below meth c (V.setCell T.heap.size ce) locs (cells + 1) (slots + 6) := { X5 with same := X5.same.mono (by omega) (by omega) }
  have f0 : (V.setCell T.heap.size ce).heap.size = T.heap.size + 1 := by
    have z1 : (V.setCell T.heap.size ce).heap.size ≤ _ := Z0.same.2.2.1
    have z2 : T.heap.size < (V.setCell T.heap.size ce).heap.size := (Array.getElem?_eq_some_iff.mp hh).1
    have z3 : ((T.setVm s.vm).setFrames (.invoking m args :: below)).heap.size = T.heap.size := rfl
    omega
  have hcid : s.vm.findClass cls = some ce.cls := by
    rw [hcl9]
    exact hfX
  obtain ⟨t, a1, b1⟩ := kk (V.setCell T.heap.size ce).heap ce f0 (fun q hq => f2 q hq (fun z hz => nomatch hz)) hh hvm9 hcid _ rfl X6
  refine ⟨t, st1 _ ?_, b1⟩
  show Steps p.tables e below (T1.setTop { method := m, pc := pc + 3, locals := ls, stack := .ref T.heap.size :: rest, locked := none }) _
  jvm_step X₁.here [X₁.here.top, hexec, d3', Value.category]
  exact X₁.ldcString hexec (own := own) (text := text) (index := is) (a := sa) hown' hstr'.1 hstr'.2
    (g := { method := m, pc := pc + 4, locals := ls, stack := .ref T.heap.size :: .ref T.heap.size :: rest, locked := none }) rfl d4' _ (st _ a1)
theorem vx_athrow {cc : ByteArray} {pc : Nat} (hexec : p.tables.exec = Jvm.exec) (hb : c.code = cc) {q : Addr} (hdg : decode cc pc = .ok (.athrow, 1)) (k : vx_W p l e R s m args below meth c H locs cells slots Q (F0 m pc ls rest) q) : W p l e R s m args below meth c H locs cells slots Q (F0 m pc ls (.ref q :: rest)) := by
  intro T hT X
  obtain ⟨t, st, hq⟩ := k T hT X
  refine ⟨t, ?_, hq⟩
  have hdg' : decode c.code pc = .ok (.athrow, 1) := by rw [hb]; exact hdg
  jvm_step X.here [X.here.top, hexec, hdg', athrow.wp_sem]
  exact st
end JN2
/-- its throw's words -/
def jTN (own : String) (ik is ic : Nat) (cls text Y : String) (r : List String) : Prop :=
  Bundle.fit cls = true ∧ Bundle.fit Y = true ∧ (∀ n ∈ r, Bundle.fit n = true) ∧ Cond.classLink own ik cls ∈ gT ∧ Cond.initialized cls ∈ gT ∧ (own, is, text) ∈ jSr ∧ (∀ w ∈ (jO13 own ic cls Y r).filter vx_no, w ∈ gT ∨ (w ∈ jNt ∧ w.onTables = true)) ∧ (∀ w ∈ Cond.classLink own ik cls :: Cond.initialized cls :: (jO13 own ic cls Y r).filter vx_no, vx_ot w = true)
theorem r_throwN {p : Program} {l : Launch} {e : Env} {R : Room} {s : State} {m : MethodId} {args : Array Value} {below : List Frame} {meth : Method} {c : Code} {g : jG} {own : String} {cc : ByteArray} {nL k n pc : Nat} {rt : Option FieldType} {lv : List (Nat × Value)} {st : List Value} {σ τ : Hp} {o : jO} {mc ms : Nat} (C : jC p l s m args meth c g own cc nL rt) {ik is ic : Nat} {cls text Y : String} {r : List String} (hT : jTN own ik is ic cls text Y r)
    (d0 : decode cc pc = .ok (.new ik, 3)) (d3 : decode cc (pc + 3) = .ok (.dup, 1)) (d4 : decode cc (pc + 4) = .ok (.ldc is, 2)) (d6 : decode cc (pc + 6) = .ok (.invokespecial ic, 3)) (d9 : decode cc (pc + 9) = .ok (.athrow, 1))
    (hE : ∀ x ∈ c.exceptionTable.toList, False) (hRf : (r.length + 1) + 3 < R.frames) (hRl : (st.map fun v => v.category).sum + (13 * ((r.length + 1) + 1) + 43) ≤ R.locals) (hRc : k + 1 ≤ R.cells) (hRs : n + 6 ≤ R.slots) (hk : k + 1 ≤ mc) (hn : n + 6 ≤ ms) (h : some ((.inr cls, thS σ) : jO × Hp) = some (o, τ)) : jW p l e R s m args below meth c g (vx_MQ below (jQc g o τ) (jXC g o τ) args s mc ms (jA g)) k n pc lv st σ := by
  have C0 := C
  obtain ⟨t1, t2, t3, t4, t5, t6, t7, t8⟩ := hT
  obtain ⟨hx, hb, hnl, hown, hts, hlk, hst, hrt, hS, hZ⟩ := C
  obtain ⟨sa, hsa⟩ := hS.2.2.1 _ t6
  intro H locs ls h1 h2 h3
  refine jx_make13 hx hb hst hown t1 t2 t3 (hts _ t4) (hts _ t5) hsa (fun w hw => (t7 w hw).elim (fun q => hts w q) (fun q => va_Nw.use q.2 (hS.2.1 w q.1))) t8 hZ.1 hZ.2.1 h2 h3.1 d0 d3 d4 d6 hRf hRl hRc hRs (fun H1 ce hz hq hc hv hcl => ?_)
  refine vx_athrow hx hb d9 ?_
  exact r_out C0 (fun x hx => (hE x hx).elim) hk hn h H1 locs ls ce H.size (h1.skip hz hq) ⟨by rw [hz]; exact Nat.le_succ_of_le h2.1, fun q a b => (hq q (Nat.lt_of_lt_of_le a h2.1)).trans (h2.2.1 q a b), h2.2.2⟩ h3 hc hv hcl
end
section
section JLAW
variable {p : Program} {l : Launch} {e : Env} {R : Room} {s : State} {m : MethodId} {args : Array Value} {below : List Frame} {meth : Method} {c : Code} {g : jG} {Q : State → Prop} {own : String} {cc : ByteArray} {nL k n pc : Nat} {rt : Option FieldType} {lv lv' : List (Nat × Value)} {st : List Value} {σ τ : Hp} {X : jO × Hp} {o : jO} {mc ms : Nat}
/-- a handler of the method's own table catches: those ahead of it name other classes -/
theorem r_catch (C : jC p l s m args meth c g own cc nL rt) {hh : List (Nat × Nat × Nat × Nat)} {E : String} (hT : c.exceptionTable.toList = tableOf hh) (pre : List ExceptionTableEntry) (x : ExceptionTableEntry) (suf : List ExceptionTableEntry) (hs : tableOf hh = pre ++ x :: suf)
    (hpass : ∀ z ∈ pre, z.catchType ≠ 0 ∧ ∃ nm : String, Cond.classLink own z.catchType nm ∈ gT ∧ (E, nm) ∈ jNl) (hx : covers x pc = true) (h0 : x.catchType ≠ 0) (hl : Cond.classLink own x.catchType E ∈ gT) (hc : Cond.castable E E ∈ jNt) (pc' : Nat) (hp : x.handlerPc = pc')
    (kk : ∀ q : Nat, jW p l e R s m args below meth c g Q k n pc' lv [.ref q] σ) : jX p l e R s m args below meth c g Q k n pc lv st σ E := by
  subst hp
  intro H locs ls ce q h1 h2 h3 g1 g2 g3
  have hts := C.2.2.2.2.1
  have hS := C.2.2.2.2.2.2.2.2.1
  exact vx_catch C.2.2.2.1 pre x suf (hT.trans hs) (fun z hz => Or.inr ⟨(hpass z hz).1, by obtain ⟨nm, a, b⟩ := (hpass z hz).2; exact ⟨nm, hts _ a, hS.2.2.2.2.1 _ b⟩⟩) hx h0 (hts _ hl) (va_Nw.use rfl (hS.2.1 _ hc)) g1 g2 g3 (kk q H locs ls h1 h2 h3)
end JLAW
theorem jWsH {y : MethodName} {bytes : ByteArray} {maxL : Nat} {ret : Option FieldType} {hh : List (Nat × Nat × Nat × Nat)} (h : Cond.codeWith y bytes maxL ret hh ∈ gT) : GoodIn gT (Cond.codeWith y bytes maxL ret hh :: gT) := by
  intro w hw
  rcases List.mem_cons.mp hw with rfl | hw
  · exact ⟨h, good_of_word (gT_good _ h)⟩
  · exact ⟨hw, good_of_word (gT_good _ hw)⟩
def jLkH (own : String) (index : Nat) (y : MethodName) (bytes : ByteArray) (maxL : Nat) (ret : Option FieldType) (hh : List (Nat × Nat × Nat × Nat)) (nA : Nat) : Prop :=
  Cond.methodLink own index y ∈ gT ∧ Cond.initialized y.cls ∈ gT ∧ Cond.codeWith y bytes maxL ret hh ∈ gT ∧ (y.cls ≠ "java/lang/invoke/MethodHandle" ∧ y.cls ≠ "java/lang/invoke/VarHandle" ∧ (parseMethodDescriptor y.desc).map (fun d => d.parameters.length) = some nA)
/-- a static call of a method with a table of its own -/
theorem r_callSX {p : Program} {l : Launch} {e : Env} {R : Room} {s : State} {m : MethodId} {args : Array Value} {below : List Frame} {meth : Method} {c : Code} {g : jG} {Q : State → Prop} {own : String} {cc : ByteArray} {nL k n pc : Nat} {rt : Option FieldType} {lv : List (Nat × Value)} {st : List Value} {σ : Hp} {X : jO × Hp} {mc ms : Nat}
    (C : jC p l s m args meth c g own cc nL rt) {index maxL nA : Nat} {y : MethodName} {bytes : ByteArray} {ret : Option FieldType} {hh : List (Nat × Nat × Nat × Nat)} {rm : Room} {As st0 : List Value} {J : jR} {K : Option Value → Hp → jR} {KX : String → Hp → jR} (hw : jLkH own index y bytes maxL ret hh nA) (hs : Cond.static y ∈ gT) (pc' k' n' : Nat) (hp : pc + 3 = pc') (hk : k + mc = k') (hn : n + ms = n') (hd : decode cc pc = .ok (.invokestatic index, 3))
    (hrc : rm.cells = mc) (hrs : rm.slots = ms) (hst : st0 = As.reverse ++ st) (hA : As.length = nA) (hcat : (st.map fun v => v.category).sum ≤ 8) (hR : rm.frames + 1 ≤ R.frames ∧ 8 + (maxL + 11) + rm.locals ≤ R.locals) (hf : k + mc ≤ R.cells ∧ n + ms ≤ R.slots)
    (hM : ∀ o τ, J = some (o, τ) → jMet l g y (Cond.codeWith y bytes maxL ret hh :: gT) rm mc ms As σ o τ) (h : jcs J K KX = some X)
    (kk : ∀ v τ, K v τ = some X → jW p l e R s m args below meth c g Q k' n' pc' lv (v.toList ++ st) τ) (kx : ∀ E τ, KX E τ = some X → jX p l e R s m args below meth c g Q k' n' pc lv st τ E) : jW p l e R s m args below meth c g Q k n pc lv st0 σ := by
  subst hst
  subst hp
  subst hk
  subst hn
  obtain ⟨w1, w2, w3, w4⟩ := hw
  have hts := C.2.2.2.2.1
  refine r_run (av := As.toArray) C (fun o τ hJ H locs ls h1 h2 h3 => vx_runSX (hh := hh) (bytes := bytes) (maxL := maxL) (ret := ret) (nL := c.maxLocals) ⟨C.1, C.2.1, rfl, C.2.2.2.1, hts⟩ (hM o τ hJ) ⟨⟨hrc, hrs, hR.1, hR.2, pay_in hts (jWsH w3), List.mem_cons_self⟩, hts _ w3, hts _ w2, ⟨w4.1, w4.2.1⟩, fun sig h => ?_, hts _ w1, hts _ hs⟩ ⟨jPre_blind, fun U hU hW => ⟨rfl, jPre_at C h1 h2 hU hW⟩⟩ rfl hA h3.1 rfl (lv_room hcat) hd hf) h kk kx
  have h2 := w4.2.2
  rw [h] at h2
  exact (Option.some.inj h2).symm
theorem j_startH (l : Launch) (hst : l.stackTraces = false) {g : jG} {y : MethodName} {rm : Room} {mc ms : Nat} {av : List Value} {σ τ : Hp} {o : jO} {cc : ByteArray} {maxL : Nat} {ret : Option FieldType} {hh : List (Nat × Nat × Nat × Nat)} {own : String} (hy : plainName y.cls = true) (ho : y.cls = own) (hlen : (lg_sl av).length ≤ maxL)
    (body : ∀ p e s m args below meth c, jC p l s m args meth c g own cc maxL ret → c.exceptionTable.toList = tableOf hh → jW p l e rm s m args below meth c g (jQ below g o τ args s mc ms) 0 0 0 (lv_args 0 av) [] σ) : jMet l g y (Cond.codeWith y cc maxL ret hh :: gT) rm mc ms av σ o τ := by
  refine vx_ofWH (cc := cc) (maxL := maxL) (ret := ret) (hh := hh) (ws' := gT) hy rfl ?_
  intro p e s m args below meth c s₁ B hml hv
  obtain ⟨rfl, hS, hZ, hR⟩ := hv
  have hts := atoms_spec (ws := Cond.codeWith y cc maxL ret hh :: gT) B.pre
  have hT := vx_table (x := y) B (hts _ List.mem_cons_self)
  have C : jC p l s m av.toArray meth c g own cc maxL ret := ⟨B.exec, B.bytes, hml, by rw [← ho]; exact findClass_of_methodNamed B.named, fun w hw => hts w (List.mem_cons_of_mem _ hw), B.notSynchronized, hst, B.returns, hS, hZ⟩
  have K := body p e s m _ below meth c C hT
  have hl := lv_entry av (n := maxL) hlen
  rw [lg_entry_eq]
  exact K s.heap [] _ hR va_S.rf (by rw [hml]; exact hl)
end
