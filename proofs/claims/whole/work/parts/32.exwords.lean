/-! A literal message thrown: what must be known of Throwable and of the exceptions' classes. -/
def am_exn : List String := ["java/lang/RuntimeException", "java/lang/Exception"]
/-- a static field that holds a reference or null, its cell apart from A -/
def am_ls (C n d : String) (A : Nat → Prop) (U : State) (H : Heap) : Prop := ∃ (c : ClassId) (k : Class) (i : Nat) (f : Field) (a : Nat) (cell : Cell) (v : Value), U.vm.findClass C = some c ∧ U.fieldFound? C n d = some (c, k, i, f) ∧ f.isStatic = true ∧ k.statics = some a ∧ H[a]? = some cell ∧ cell.vm.isStatics = true ∧ cell.cls = c ∧ f.slot < cell.slots.size ∧ k.staticTypes[f.slot]? = some f.type ∧ cell.slots[f.slot]? = some v ∧ (v = .null ∨ ∃ x, v = .ref x) ∧ ¬ A a
theorem am_ls.next {C n d : String} {A : Nat → Prop} {u U : State} {H H1 : Heap} (h : am_ls C n d A u H) (hvm : u.vm.Alike U.vm) (hq : ∀ a : Nat, a < H.size → ¬ A a → H1[a]? = H[a]?) : am_ls C n d A U H1 := by
  obtain ⟨c, k, i, f, a, cell, v, h1, h2, h3, h4, h5, h6, h7, h8, h9, h10, h11, h12⟩ := h
  obtain ⟨k', hi', hek⟩ := State.fieldFound?_setVm hvm h2
  exact ⟨c, k', i, f, a, cell, v, by rw [hvm.findClass]; exact h1, hi', h3, by rw [hek]; exact h4, by rw [hq a (Array.getElem?_eq_some_iff.mp h5).1 h12]; exact h5, h6, h7, h8, by rw [hek]; exact h9, h10, h11, h12⟩
theorem am_ls.lays {C n d : String} {A : Nat → Prop} {U : State} {args : Array Value} (h : am_ls C n d A U U.heap) : (Cond.laysStatic C n d).before args U = true := by
  obtain ⟨c, k, i, f, a, cell, v, h1, h2, h3, h4, h5, h6, h7, h8, h9, h10, h11, h12⟩ := h
  exact Cond.laysStatic_of h1 h2 h3 h4 h5 h6 h7 h8 h9
theorem am_ls.isRef {C n d : String} {A : Nat → Prop} {U : State} {args : Array Value} (h : am_ls C n d A U U.heap) : (Cond.isRef (.static C n d)).before args U = true := by
  obtain ⟨c, k, i, f, a, cell, v, h1, h2, h3, h4, h5, h6, h7, h8, h9, h10, h11, h12⟩ := h
  have e : (Term.static C n d).eval args U none [] U = some v := by
    simp [Term.eval, State.fieldNamed?, h2, h3, h4, h5, h6, h10]
  rcases h11 with rfl | ⟨x, rfl⟩ <;> simp [Cond.before, Cond.holds, Cond.value, e]
theorem am_ls.of {C n d : String} {A : Nat → Prop} {U : State} {args : Array Value} (hl : (Cond.laysStatic C n d).before args U = true) (h : (Cond.isRef (.static C n d)).before args U = true) (hA : ∀ a : Nat, a < U.heap.size → ¬ A a) : am_ls C n d A U U.heap := by
  obtain ⟨c, k, i, f, a, cell, hc, hi, hst, ha, hcell, hs, hcls, hlt, hty⟩ := Cond.laysStatic_spec hl
  cases hv : (Term.static C n d).eval args U none [] U with
  | none => simp [Cond.before, Cond.holds, Cond.value, hv] at h
  | some w =>
    obtain ⟨hst', a', cell', ha', hcell', -, hslot⟩ := Term.static_spec hi hv
    cases ha.symm.trans ha'
    cases hcell.symm.trans hcell'
    refine ⟨c, k, i, f, a, cell, w, hc, hi, hst, ha, hcell, hs, hcls, hlt, hty, hslot, ?_, hA a (Array.getElem?_eq_some_iff.mp hcell).1⟩
    simp only [Cond.before, Cond.holds, Cond.value, hv] at h
    cases w with
    | null => exact Or.inl rfl
    | ref t => exact Or.inr ⟨t, rfl⟩
    | _ => simp at h
/-- the words that a throw needs beside the good ones -/
def am_dw : List Cond := [.declares (Bundle.initS "java/lang/RuntimeException"), .declares (Bundle.initS "java/lang/Exception"), .declares (Bundle.initS Bundle.tN), .castable "java/lang/IllegalArgumentException" "java/lang/IllegalArgumentException", .castable "java/lang/UnsupportedOperationException" "java/lang/UnsupportedOperationException", .castable "java/lang/IllegalStateException" "java/lang/IllegalStateException", .castable "java/lang/ArithmeticException" "java/lang/ArithmeticException", .castable "java/lang/IndexOutOfBoundsException" "java/lang/IndexOutOfBoundsException"]
def am_dx (A : Nat → Prop) (U : State) (H : Heap) : Prop := (∀ w ∈ am_dw, va_Nw w U) ∧ am_ls Bundle.tN "UNASSIGNED_STACK" Bundle.steD A U H ∧ am_ls Bundle.tN "SUPPRESSED_SENTINEL" Bundle.listD A U H
theorem am_dx.next {A : Nat → Prop} {u U : State} {H H1 : Heap} (h : am_dx A u H) (hW : u.WarmedH U.vm) (hq : ∀ a : Nat, a < H.size → ¬ A a → H1[a]? = H[a]?) : am_dx A U H1 := by
  refine ⟨fun w hw => ?_, h.2.1.next hW.alike hq, h.2.2.next hW.alike hq⟩
  have z := h.1 w hw
  unfold am_dw at hw
  simp only [List.mem_cons, List.not_mem_nil, or_false] at hw
  rcases hw with rfl | rfl | rfl | rfl | rfl | rfl | rfl | rfl
  · exact va_Nw.warmD hW z
  · exact va_Nw.warmD hW z
  · exact va_Nw.warmD hW z
  · exact va_Nw.warmC hW z
  · exact va_Nw.warmC hW z
  · exact va_Nw.warmC hW z
  · exact va_Nw.warmC hW z
  · exact va_Nw.warmC hW z
/-- the five: link of the constructor in ChartPress's pool, and the class -/
def am_ex (k : Nat) : Nat × String := [(106, "java/lang/IllegalArgumentException"), (116, "java/lang/UnsupportedOperationException"), (124, "java/lang/IllegalStateException"), (137, "java/lang/ArithmeticException"), (150, "java/lang/IndexOutOfBoundsException")].getD k (0, "")
def ck_ex (k : Nat) : Bool := (Bundle.ownAtoms "ChartPress" (am_ex k).1 (am_ex k).2 am_exn).all fun w => (goodWord w && decide (w ∈ lw_tbl)) || decide (w ∈ am_dw) || decide (w = .laysStatic Bundle.tN "UNASSIGNED_STACK" Bundle.steD) || decide (w = .laysStatic Bundle.tN "SUPPRESSED_SENTINEL" Bundle.listD) || decide (w = .isRef (.static Bundle.tN "UNASSIGNED_STACK" Bundle.steD)) || decide (w = .isRef (.static Bundle.tN "SUPPRESSED_SENTINEL" Bundle.listD))
set_option maxRecDepth 100000 in
theorem ck_ex_0 : ck_ex 0 = true := by decide +kernel
set_option maxRecDepth 100000 in
theorem ck_ex_1 : ck_ex 1 = true := by decide +kernel
set_option maxRecDepth 100000 in
theorem ck_ex_2 : ck_ex 2 = true := by decide +kernel
set_option maxRecDepth 100000 in
theorem ck_ex_3 : ck_ex 3 = true := by decide +kernel
set_option maxRecDepth 100000 in
theorem ck_ex_4 : ck_ex 4 = true := by decide +kernel
