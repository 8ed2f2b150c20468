/-! ChartPressLaw.draw(): what ChartPress.draw() throws is caught. -/
def am_nc (U : State) : Prop := ∀ k k' : Nat, k < 5 → k' < 5 → k ≠ k' → ∀ c t, U.vm.findClass (am_ex k).2 = some c → U.vm.findClass (am_ex k').2 = some t → U.vm.assignable c t = false
theorem am_nc.next {u U : State} (h : am_nc u) (hW : u.vm.Alike U.vm) : am_nc U := fun k k' h1 h2 h3 c t h4 h5 => by
  rw [hW.findClass] at h4 h5
  rw [hW.assignable]
  exact h k k' h1 h2 h3 c t h4 h5
def am_hh : List (Nat × Nat × Nat × Nat) := [(0, 8, 11, 13), (0, 8, 14, 15), (0, 8, 17, 17), (0, 8, 20, 19), (0, 8, 23, 21)]
theorem am_hh_at {k : Nat} (h : k < 5) : am_hh[k]? = some (0, 8, 11 + 3 * k, 13 + 2 * k) := by
  rcases k with _ | _ | _ | _ | _ | k
  iterate 5 rfl
  omega
set_option maxRecDepth 100000 in
theorem wl_0 : Cond.classLink "ChartPressLaw" 13 "java/lang/IllegalArgumentException" ∈ am_TS ∧ Cond.classLink "ChartPressLaw" 15 "java/lang/UnsupportedOperationException" ∈ am_TS ∧ Cond.classLink "ChartPressLaw" 17 "java/lang/IllegalStateException" ∈ am_TS ∧ Cond.classLink "ChartPressLaw" 19 "java/lang/ArithmeticException" ∈ am_TS ∧ Cond.classLink "ChartPressLaw" 21 "java/lang/IndexOutOfBoundsException" ∈ am_TS := ⟨List.mem_filter.mpr ⟨by decide +kernel, rfl⟩, List.mem_filter.mpr ⟨by decide +kernel, rfl⟩, List.mem_filter.mpr ⟨by decide +kernel, rfl⟩, List.mem_filter.mpr ⟨by decide +kernel, rfl⟩, List.mem_filter.mpr ⟨by decide +kernel, rfl⟩⟩
theorem wl_c {k : Nat} (h : k < 5) : Cond.classLink "ChartPressLaw" (13 + 2 * k) (am_ex k).2 ∈ am_TS ∧ Cond.castable (am_ex k).2 (am_ex k).2 ∈ am_dw := by
  rcases k with _ | _ | _ | _ | _ | k
  · exact ⟨wl_0.1, by decide +kernel⟩
  · exact ⟨wl_0.2.1, by decide +kernel⟩
  · exact ⟨wl_0.2.2.1, by decide +kernel⟩
  · exact ⟨wl_0.2.2.2.1, by decide +kernel⟩
  · exact ⟨wl_0.2.2.2.2, by decide +kernel⟩
  · omega
section CT
variable {p : Program} {l : Launch} {e : Env} {R : Room} {s : State} {m : MethodId} {args : Array Value} {below : List Frame} {meth : Method} {c : Code} {T : State} {locs : List Loc} {cells slots : Nat}
/-- the k-th of the five exceptions, thrown in the try, goes to its handler -/
theorem am_catchK (X : Stand p l e R s m args below meth c T locs cells slots) (hown : s.vm.findClass "ChartPressLaw" = some m.cls) (hts : ∀ w ∈ am_TS, w.before args s = true) (hnc : am_nc s) {A : Nat → Prop} (hdx : am_dx A s s.heap) (htab : c.exceptionTable.toList.map (fun h => (h.startPc, h.endPc, h.handlerPc, h.catchType)) = am_hh) {k : Nat} (hk : k < 5) {ad : Nat} {ce : Cell} (hce : T.heap[ad]? = some ce) (hcv : ce.vm = .none) (hcc : s.vm.findClass (am_ex k).2 = some ce.cls) {g : JFrame} (hg : g.method = m) (hpc : g.pc < 8) : ∃ vm', Stand p l e R s m args below meth c (T.setVm vm') locs cells slots ∧ ∀ target, Steps p.tables e below ((T.setVm vm').setTop { g with pc := 11 + 3 * k, stack := [.ref ad] }) target → Steps p.tables e below ((T.setTop g).pushFrame (.throwing ad)) target := by
  have hpl : e.platform.magicAccessors = ({} : Platform).magicAccessors := by rw [X.admits.platform]
  have hlk : ∀ j, j < 5 → ∃ cj, s.vm.findClass (am_ex j).2 = some cj ∧ s.vm.ClassLinks e.platform m.cls (13 + 2 * j) cj := fun j hj => Cond.classLink_spec hown (hts _ (wl_c hj).1) e.platform hpl
  have hlen : c.exceptionTable.toList.length = 5 := by
    have z := congrArg List.length htab
    rw [List.length_map] at z
    exact z
  have hat : ∀ j, j < 5 → ∀ y, c.exceptionTable.toList[j]? = some y → y.startPc = 0 ∧ y.endPc = 8 ∧ y.handlerPc = 11 + 3 * j ∧ y.catchType = 13 + 2 * j := by
    intro j hj y hy
    have z : (c.exceptionTable.toList.map (fun h => (h.startPc, h.endPc, h.handlerPc, h.catchType)))[j]? = some (y.startPc, y.endPc, y.handlerPc, y.catchType) := by rw [List.getElem?_map, hy]; rfl
    rw [htab, am_hh_at hj] at z
    simp only [Option.some.injEq, Prod.mk.injEq] at z
    exact ⟨z.1.symm, z.2.1.symm, z.2.2.1.symm, z.2.2.2.symm⟩
  obtain ⟨x, hxk⟩ : ∃ x, c.exceptionTable.toList[k]? = some x := ⟨_, List.getElem?_eq_getElem (by omega)⟩
  obtain ⟨x1, x2, x3, x4⟩ := hat k hk x hxk
  have hcov : ∀ y : ExceptionTableEntry, y.startPc = 0 → y.endPc = 8 → covers y g.pc = true := fun y h1 h2 => by
    simp only [covers, h1, h2, Bool.and_eq_true, decide_eq_true_eq]
    omega
  obtain ⟨ck, hck, hclk⟩ := hlk k hk
  cases hcc.symm.trans hck
  obtain ⟨c3, c4, hc3, hc4, hasg⟩ := Cond.castable_spec (hdx.1 _ (wl_c hk).2)
  cases hcc.symm.trans hc3
  cases hcc.symm.trans hc4
  have hsplit : c.exceptionTable.toList = c.exceptionTable.toList.take k ++ x :: c.exceptionTable.toList.drop (k + 1) := by
    have z := List.take_append_drop k c.exceptionTable.toList
    rw [List.drop_eq_getElem_cons (by omega)] at z
    have hx' : c.exceptionTable.toList[k]'(by omega) = x := by
      have := List.getElem?_eq_getElem (l := c.exceptionTable.toList) (i := k) (by omega)
      rw [hxk] at this
      exact (Option.some.inj this).symm
    rw [hx'] at z
    exact z.symm
  subst hg
  have hkc : ∃ kk, s.vm.classes[ce.cls]? = some kk := Vm.classAt_of_findClass hcc
  obtain ⟨vm', v1, v2⟩ := am_goes (e := e) (s0 := s) (f := g) (a := ad) (cell := ce) (fun kk hkk => by rw [hcv] at hkk; cases hkk) hkc (x := x) (rest := c.exceptionTable.toList.drop (k + 1)) (hcov x x1 x2) (by rw [x4]; omega) (cx := ce.cls) (by rw [x4]; exact hclk) hasg (c.exceptionTable.toList.take k) (fun y hy => by
    obtain ⟨j, hj, ej⟩ := List.getElem_of_mem hy
    rw [List.length_take] at hj
    have hy' : c.exceptionTable.toList[j]? = some y := by
      rw [← ej, List.getElem_take]
      exact List.getElem?_eq_getElem (by omega)
    obtain ⟨y1, y2, y3, y4⟩ := hat j (by omega) y hy'
    obtain ⟨cj, hcj, hclj⟩ := hlk j (by omega)
    exact ⟨hcov y y1 y2, by rw [y4]; omega, cj, by rw [y4]; exact hclj, hnc k j hk (by omega) (by omega) _ _ hcc hcj⟩) ((T.setTop g).pushFrame (.throwing ad)) (by rw [Stand.throwing_vm]; exact X.warmed) (by rw [Stand.throwing_heap]; exact hce)
  refine ⟨vm', X.noted v1, fun target hrest => am_caught (vm' := vm') (pc := 11 + 3 * k) X.here (fun Q E d acts => ?_) hrest⟩
  rw [W.findHandler_eq (meth := meth) (code := c) (by rw [Stand.throwing_vm]; exact X.method') X.code, hsplit, v2 Q E d acts, x3]
end CT
