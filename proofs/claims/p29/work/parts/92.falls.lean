/-! The start: the witness's tables, with this script; a machine that has more room than the walk can ask for. -/
def myScr : Array Value := (scr.map Value.int).toArray
def S0 : State := start1.aboutOf myScr
theorem S0_vm : S0.vm = start1.about.vm := rfl
theorem tab_rest : (tables_1.filter (fun w => !w.onTables)).all (fun w => w.before start1.args0 S0) = true := by decide +kernel
theorem S0_tab : ∀ w ∈ (Jvm.Cond.code x code maxLocals ret :: tables_1), w.before start1.args0 S0 = true := fun w hw => by
  cases h : w.onTables with
  | true => exact va_tabs h S0_vm.symm (start1.words w hw)
  | false =>
    rcases List.mem_cons.mp hw with q | q
    · rw [q] at h
      cases h
    · exact List.all_eq_true.mp tab_rest w (List.mem_filter.mpr ⟨q, by rw [h]; rfl⟩)
theorem S0_given : (Jvm.Cond.and given_1 narrow_1).before start1.args0 S0 = true := by decide +kernel
theorem S0_rest : rest_1_c.before start1.args0 S0 = true := by decide +kernel
theorem S0_fit : argsFit S0.vm ⟨0, 0⟩ start1.args0 = true := by decide +kernel
theorem S0_heap : heapFits S0 = true := by decide +kernel
theorem S0_sel : jSel start1.args0 S0 := by
  show ∀ y ∈ jPr, (Cond.selects RJ4 y y).before start1.args0 S0 = true
  decide +kernel
theorem S0_nl : ∀ q ∈ jNl, (Cond.not (.castable q.1 q.2)).before start1.args0 S0 = true := by decide +kernel
/-- the machine -/
def e0 : Env := launch0.env 0 (10 ^ 30) (10 ^ 30)
theorem S0_room (r : Room) (h1 : S0.frames.length + r.frames ≤ launch0.maxFrames) (h2 : S0.heap.size + r.cells ≤ 10 ^ 30) (h3 : S0.slotsUsed + r.slots ≤ 10 ^ 30) (h4 : S0.localsInUse + r.locals ≤ launch0.maxStackSlots - stackMargin) (h5 : S0.localsInUse + r.locals + stackMargin ≤ realStackBytes / 8) : S0.hasRoom e0.platform r = true :=
  State.hasRoom_of (by decide +kernel) (Nat.le_trans h1 (Nat.le_max_left _ _)) (Nat.le_trans h4 (Nat.le_max_left _ _)) (Nat.le_trans h2 (Nat.le_max_right _ _)) (Nat.le_trans h3 (Nat.le_max_right _ _)) (by decide +kernel) h5
theorem S0_applies (r : Room) (h : S0.hasRoom e0.platform r = true) : (headSpec (Jvm.Cond.code x code maxLocals ret :: tables_1) r).applies x e0.platform S0 = true :=
  (Spec.applies_iff rfl).mpr ⟨rfl, rfl, rfl, by decide +kernel, by decide +kernel, by decide +kernel, h, atoms_intro S0_tab⟩
