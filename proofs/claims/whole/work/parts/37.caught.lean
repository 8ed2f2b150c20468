/-! A handler looked for where the catch types may not have been resolved yet. -/
theorem am_rc {vm : Vm} {d index c : Nat} (e : Env) (h : vm.ClassLinks e.platform d index c) : (VmOp.resolveClass d index).answer e vm = .ok c ∧ (VmOp.resolveClass d index).tables e vm = vm.noted d index (.cls c) := (resolveClass_links e.toSetting h).op rfl
theorem am_go1 {E : Jvm.CtlPost} {e : Env} {d : Bool} {acts : List Action} {s : State} {f : JFrame} {a : Addr} {Q : Handler → Jvm.Pre} {x : ExceptionTableEntry} {t : List ExceptionTableEntry} {c : ClassId} {cell : Cell} {vm' : Vm} (hx : covers x f.pc = true) (h0 : x.catchType ≠ 0) (hl : s.vm.ClassLinks e.platform f.method.cls x.catchType c) (hv : vm' = s.vm.noted f.method.cls x.catchType (.cls c)) (hcell : s.heap[a]? = some cell) (hobj : ∀ k, cell.vm ≠ .statics k) (hk : ∃ k, vm'.classes[cell.cls]? = some k) (hc : ∃ k, vm'.classes[c]? = some k) : Sem.wp (findHandler.go f a (x :: t)) Q E e d acts s ↔ if vm'.assignable cell.cls c = true then Q (.found x.handlerPc) d acts (s.setVm vm') else Sem.wp (findHandler.go f a t) Q E e d acts (s.setVm vm') := by
  simp only [covers] at hx
  obtain ⟨h1, h2⟩ := am_rc e hl
  subst hv
  cases hfit : (s.vm.noted f.method.cls x.catchType (.cls c)).assignable cell.cls c <;>
    simp [findHandler.go, hx, h0, h1, h2, hcell, hobj, hk, hc, hfit, VmOp.dirties, VmOp.acts, State.setVm]
/-- the search goes past entries of other classes, to the one that fits -/
theorem am_goes {e : Env} {s0 : State} {f : JFrame} {a : Addr} {cell : Cell} (hobj : ∀ k, cell.vm ≠ .statics k) (hcls : ∃ k, s0.vm.classes[cell.cls]? = some k) {x : ExceptionTableEntry} {rest : List ExceptionTableEntry} (hx : covers x f.pc = true) (h0 : x.catchType ≠ 0) {cx : ClassId} (hl : s0.vm.ClassLinks e.platform f.method.cls x.catchType cx) (hfit : s0.vm.assignable cell.cls cx = true) : ∀ (pre : List ExceptionTableEntry), (∀ y ∈ pre, covers y f.pc = true ∧ y.catchType ≠ 0 ∧ ∃ c, s0.vm.ClassLinks e.platform f.method.cls y.catchType c ∧ s0.vm.assignable cell.cls c = false) → ∀ (S : State), s0.WarmedH S.vm → S.heap[a]? = some cell → ∃ vm', s0.WarmedH vm' ∧ ∀ (Q : Handler → Jvm.Pre) (E : Jvm.CtlPost) (d : Bool) (acts : List Action), Sem.wp (findHandler.go f a (pre ++ x :: rest)) Q E e d acts S ↔ Q (.found x.handlerPc) d acts (S.setVm vm')
  | [], _, S, hW, hcell => by
    have hW' : s0.WarmedH (S.vm.noted f.method.cls x.catchType (.cls cx)) := by
      obtain ⟨dk, _, _, _, hd, _, _, _, _, _, _, hres⟩ := hl.here
      exact hW.noted hd hres (State.rightAt_cls hl)
    refine ⟨_, hW', fun Q E d acts => ?_⟩
    have k1 : ∃ k, (S.vm.noted f.method.cls x.catchType (.cls cx)).classes[cell.cls]? = some k := by
      obtain ⟨k, hk⟩ := hcls
      obtain ⟨k', hk', -⟩ := hW'.alike.2.2 _ _ hk
      exact ⟨k', hk'⟩
    have k2 : ∃ k, (S.vm.noted f.method.cls x.catchType (.cls cx)).classes[cx]? = some k := by
      obtain ⟨dk, _, _, ck, hd, _, _, _, _, hc, _, _⟩ := hl.here
      obtain ⟨k', hk', -⟩ := hW'.alike.2.2 _ _ hc
      exact ⟨k', hk'⟩
    rw [List.nil_append, am_go1 hx h0 (hW.classLinks hl) rfl hcell hobj k1 k2, if_pos (by rw [hW'.alike.assignable]; exact hfit)]
  | y :: pre, hp, S, hW, hcell => by
    obtain ⟨y1, y2, c, y3, y4⟩ := hp y List.mem_cons_self
    have hW' : s0.WarmedH (S.vm.noted f.method.cls y.catchType (.cls c)) := by
      obtain ⟨dk, _, _, _, hd, _, _, _, _, _, _, hres⟩ := y3.here
      exact hW.noted hd hres (State.rightAt_cls y3)
    have k1 : ∃ k, (S.vm.noted f.method.cls y.catchType (.cls c)).classes[cell.cls]? = some k := by
      obtain ⟨k, hk⟩ := hcls
      obtain ⟨k', hk', -⟩ := hW'.alike.2.2 _ _ hk
      exact ⟨k', hk'⟩
    have k2 : ∃ k, (S.vm.noted f.method.cls y.catchType (.cls c)).classes[c]? = some k := by
      obtain ⟨dk, _, _, ck, hd, _, _, _, _, hc, _, _⟩ := y3.here
      obtain ⟨k', hk', -⟩ := hW'.alike.2.2 _ _ hc
      exact ⟨k', hk'⟩
    obtain ⟨vm', v1, v2⟩ := am_goes hobj hcls hx h0 hl hfit pre (fun z hz => hp z (List.mem_cons_of_mem _ hz)) (S.setVm (S.vm.noted f.method.cls y.catchType (.cls c))) hW' hcell
    refine ⟨vm', v1, fun Q E d acts => ?_⟩
    rw [List.cons_append, am_go1 y1 y2 (hW.classLinks y3) rfl hcell hobj k1 k2, if_neg (by rw [hW'.alike.assignable, y4]; decide), v2]
    rfl
/-- what the search gives, and the tables behind it -/
def am_fnd (e : Env) (s : State) (f : JFrame) (a : Addr) (h : Handler) (vm' : Vm) : Prop := ∀ (Q : Handler → Jvm.Pre) (E : Jvm.CtlPost) (d : Bool) (acts : List Action), Sem.wp (findHandler f a) Q E e d acts s ↔ Q h d acts (s.setVm vm')
theorem am_stc {e : Env} {s : State} {a : Addr} {f : JFrame} {r : List Frame} {pc : Nat} {vm' : Vm} (hfind : am_fnd e s f a (.found pc) vm') : (stepThrowing e s a (.java f :: r)).Is ((s.setVm vm').setFrames (.java { f with pc := pc, stack := [.ref a] } :: r)) [] := by
  simp only [stepThrowing, searchFrame, vmDo]
  generalize hr : Sem.go _ e false [] s = res
  obtain ⟨as, rfl, ha⟩ := Sem.eq_ok_of hr (a := Handler.found pc) (s' := s.setVm vm') (acts' := []) (by simp [hfind _ _ _ _])
  exact ⟨rfl, ha⟩
theorem am_caught {tb : Tables} {e : Env} {s target : State} {g : JFrame} {c : Code} {below : List Frame} {a : Addr} (h : At s g.method c below) {pc : Nat} {vm' : Vm} (hfind : am_fnd e ((s.setTop g).pushFrame (.throwing a)) g a (.found pc) vm') (hrest : Steps tb e below ((s.setVm vm').setTop { g with pc := pc, stack := [.ref a] }) target) : Steps tb e below ((s.setTop g).pushFrame (.throwing a)) target := by
  obtain ⟨hgo, hw⟩ := h.throwing a
  refine Steps.head hgo hw ?_
  rw [stepThread_throwing (frames_entered h.top _), (am_stc (s := (s.setTop g).pushFrame (.throwing a)) hfind).1]
  obtain ⟨g₀, hg⟩ := Option.isSome_iff_exists.mp h.top
  obtain ⟨r, hr⟩ := State.topJava?_eq_some.mp hg
  have hr' : (s.setVm vm').frames = .java g₀ :: r := hr
  rw [State.setTop_of_frames _ hr'] at hrest
  have key : (((s.setTop g).pushFrame (.throwing a)).setVm vm').setFrames (.java { g with pc := pc, stack := [.ref a] } :: s.frames.tail) = (s.setVm vm').setFrames (.java { g with pc := pc, stack := [.ref a] } :: r) := by
    rw [hr, List.tail_cons, State.pushFrame, State.setTop_of_frames _ hr, State.setFrames_setFrames]
    show (State.setFrames (State.setFrames (s.setVm vm') _) _) = _
    rw [State.setFrames_setFrames]
  rw [key]
  exact hrest
