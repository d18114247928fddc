/-! The start: the witness's tables, with this script; a machine that has more room than the walk can ask for. -/
def myScr : Array Value := (scr.map Value.int).toArray
def S0 : State := start1.aboutOf myScr
theorem S0_vm : S0.vm = start1.about.vm := rfl
theorem tab_rest : (tables_1.filter (fun w => !w.onTables)).all (fun w => w.before start1.args0 S0) = true := by decide +kernel
theorem S0_tab : ∀ w ∈ (Jvm.Cond.code x code maxLocals ret :: tables_1), w.before start1.args0 S0 = true := fun w hw => by
  cases h : w.onTables with
  | true => exact va_tabs h S0_vm.symm (start1.words w hw)
  | false =>
    rcases List.mem_cons.mp hw with q | q
    · rw [q] at h
      cases h
    · exact List.all_eq_true.mp tab_rest w (List.mem_filter.mpr ⟨q, by rw [h]; rfl⟩)
theorem S0_given : (Jvm.Cond.and given_1 narrow_1).before start1.args0 S0 = true := by decide +kernel
theorem S0_rest : rest_1_c.before start1.args0 S0 = true := by decide +kernel
theorem S0_fit : argsFit S0.vm ⟨0, 0⟩ start1.args0 = true := by decide +kernel
theorem S0_heap : heapFits S0 = true := by decide +kernel
theorem S0_sel : jSel start1.args0 S0 := by
  show ∀ y ∈ jPr, (Cond.selects RJ4 y y).before start1.args0 S0 = true
  decide +kernel
theorem S0_nl : ∀ q ∈ jNl, (Cond.not (.castable q.1 q.2)).before start1.args0 S0 = true := by decide +kernel
/-- the machine -/
def e0 : Env := launch0.env 0 (10 ^ 30) (10 ^ 30)
theorem S0_room (r : Room) (h1 : S0.frames.length + r.frames ≤ launch0.maxFrames) (h2 : S0.heap.size + r.cells ≤ 10 ^ 30) (h3 : S0.slotsUsed + r.slots ≤ 10 ^ 30) (h4 : S0.localsInUse + r.locals ≤ launch0.maxStackSlots - stackMargin) (h5 : S0.localsInUse + r.locals + stackMargin ≤ realStackBytes / 8) : S0.hasRoom e0.platform r = true :=
  State.hasRoom_of (by decide +kernel) (Nat.le_trans h1 (Nat.le_max_left _ _)) (Nat.le_trans h4 (Nat.le_max_left _ _)) (Nat.le_trans h2 (Nat.le_max_right _ _)) (Nat.le_trans h3 (Nat.le_max_right _ _)) (by decide +kernel) h5
theorem S0_applies (r : Room) (h : S0.hasRoom e0.platform r = true) : (headSpec (Jvm.Cond.code x code maxLocals ret :: tables_1) r).applies x e0.platform S0 = true :=
  (Spec.applies_iff rfl).mpr ⟨rfl, rfl, rfl, by decide +kernel, by decide +kernel, by decide +kernel, h, atoms_intro S0_tab⟩
theorem S0_str : ∀ (c : ClassId) (k : Class) (comp : ClassId) (ty : FieldType), S0.vm.findClass RJ0 = some c → S0.vm.classes[c]? = some k → k.kind ≠ .array comp ty := by
  intro c k comp ty hc hk he
  have h1 : S0.vm.findClass RJ0 = some 23 := by decide +kernel
  rw [h1] at hc
  cases hc
  have h2 : S0.vm.classes[23]? = some start1.c23 := rfl
  rw [h2] at hk
  cases hk
  cases he
theorem S0_ints : S0.IntsAt 0 scr := by
  refine ⟨{ cls := 34, slots := myScr, vm := .none }, rfl, ?_, ?_, by decide +kernel⟩
  · show (scr.map Value.int).toArray.toList = _
    rfl
  · exact ⟨fun k h => (by cases h), _, rfl, _, rfl⟩
theorem S0_P : lw_P 0 #[Value.ref 0] S0 := ⟨rfl, S0_ints, S0_given, S0_sel, S0_nl, S0_str⟩
/-- the Statement's own premises all hold here -/
theorem at_start : S0.frames = Frame.invoking ⟨0, 0⟩ #[Value.ref 0] :: Lib.HandBits.below0 ∧ launch0.admits e0 ∧ FairCas e0.choices ∧ FairClock e0.choices ∧ (headSpec (Jvm.Cond.code x code maxLocals ret :: tables_1) room_1).applies x e0.platform S0 = true ∧ (headSpec (Jvm.Cond.code x code maxLocals ret :: tables_1) jRoom).applies x e0.platform S0 = true :=
  ⟨rfl, launch0.admits_env _ _ _, fairChoices_fair.cas, fairChoices_fair.clock, S0_applies room_1 (S0_room room_1 (by decide +kernel) (by decide +kernel) (by decide +kernel) (by decide +kernel) (by decide +kernel)), S0_applies jRoom (S0_room jRoom (by decide +kernel) (by decide +kernel) (by decide +kernel) (by decide +kernel) (by decide +kernel))⟩
theorem falls {P : Jvm.Tables → Jvm.Env → Array Jvm.Value → Jvm.State → Jvm.Outcome → Jvm.State → Prop} (hP : ∀ tb e a s o t, P tb e a s o t → ∃ L, Framed s o t L 243177 8372093) : ¬ Jvm.D.ArmFor flags0 classFile x code maxLocals ret World_1 tables_1 room_1 Calls_1 rest_1 Pre_1 P := by
  intro h
  obtain ⟨hf, ha, hc, hk, h1, h2⟩ := at_start
  obtain ⟨n, o, w, -, he, hp⟩ := h launch0 rfl lists_1 trivial start1.p0 e0 ha hc hk S0 ⟨0, 0⟩ #[Value.ref 0] Lib.HandBits.below0 hf S0_fit S0_heap h1 ⟨trivial, S0_rest, S0_given⟩
  obtain ⟨L, hF⟩ := hP _ _ _ _ _ _ hp
  exact too_many launch0 rfl ha hc hk hf h2 S0_P w he hF
/-- THE REFUTATION: neither of the two is true -/
theorem not_1_1 : ¬ Claimed_1_1 := falls (fun _ _ _ _ _ _ h => ⟨_, h.2⟩)
theorem not_1_2 : ¬ Claimed_1_2 := falls (fun _ _ _ _ _ _ h => ⟨_, h.2⟩)
theorem refuted : ¬ (Claimed_1_1 ∧ Claimed_1_2) := fun h => not_1_1 h.1
