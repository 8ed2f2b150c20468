/-! A literal message thrown: from 'new' to 'threw'. -/
theorem am_own {k : Nat} (hk : ck_ex k = true) {A : Nat → Prop} {U : State} {args : Array Value} (hts : ∀ w ∈ am_TS, w.before args U = true) (hd : am_dx A U U.heap) : ∀ a ∈ Bundle.ownAtoms "ChartPress" (am_ex k).1 (am_ex k).2 am_exn, a.before args U = true := by
  intro w hw
  have z := List.all_eq_true.mp hk w hw
  simp only [Bool.or_eq_true, Bool.and_eq_true, decide_eq_true_eq] at z
  rcases z with ((((z | z) | z) | z) | z) | z
  · exact hts w (List.mem_filter.mpr ⟨z.2, z.1⟩)
  · have y := hd.1 w z
    unfold am_dw at z
    simp only [List.mem_cons, List.not_mem_nil, or_false] at z
    rcases z with rfl | rfl | rfl | rfl | rfl | rfl | rfl | rfl <;> exact va_Nw.use rfl y
  · rw [z]; exact hd.2.1.lays
  · rw [z]; exact hd.2.2.lays
  · rw [z]; exact hd.2.1.isRef
  · rw [z]; exact hd.2.2.isRef
/-- where a throw ends: the exception lies in a new cell, of the class; the rest of the heap stands -/
def am_TH (cls : String) (s : State) (below : List Frame) (locs : List Loc) (H : Heap) : State → Prop := fun t => ∃ (a : Nat) (ce : Cell), t.status = .running ∧ Ended t below (.threw a) ∧ s.WarmedH t.vm ∧ s.sameButNew ({ t with vm := s.vm } : State) locs 1 6 ∧ (∀ q : Nat, q < H.size → t.heap[q]? = H[q]?) ∧ H.size ≤ t.heap.size ∧ t.heap[a]? = some ce ∧ ce.vm = .none ∧ s.vm.findClass cls = some ce.cls
section TH
variable {p : Program} {l : Launch} {e : Env} {R : Room} {s : State} {m : MethodId} {args : Array Value} {below : List Frame} {meth : Method} {c : Code} {H : Heap} {locs : List Loc} {A : Nat → Prop} {cc : ByteArray} {pc i1 i2 k msg : Nat} {ls : Array Slot} {tx : String}
set_option maxHeartbeats 2000000 in
theorem am_throw (hk : ck_ex k = true) (hfit : Bundle.fit (am_ex k).2 = true) (hx : p.tables.exec = Jvm.exec) (hb : c.code = cc) (hl : l.stackTraces = false) (hown : s.vm.findClass "ChartPress" = some m.cls) (hts : ∀ w ∈ am_TS, w.before args s = true) (hdx : am_dx A s s.heap) (hS : va_S A s.heap H locs) (hlocks : meth.locks = false) (hex : c.exceptionTable.isEmpty = true) (hls : ls.size = c.maxLocals) (hstr : vk_R "ChartPress" i2 tx msg s)
    (d0 : decode cc pc = .ok (.new i1, 3)) (d3 : decode cc (pc + 3) = .ok (.dup, 1)) (d4 : decode cc (pc + 3 + 1) = .ok (.ldc i2, 2)) (d6 : decode cc (pc + 3 + 1 + 2) = .ok (.invokespecial (am_ex k).1, 3)) (d9 : decode cc (pc + 3 + 1 + 2 + 3) = .ok (.athrow, 1))
    (hcl : Cond.classLink "ChartPress" i1 (am_ex k).2 ∈ am_TS) (hin : Cond.instantiable (am_ex k).2 6 ∈ am_TS) (hini : Cond.initialized (am_ex k).2 ∈ am_TS) (hR : 5 < R.frames) (hRl : 100 ≤ R.locals) (hRc : 1 ≤ R.cells) (hRs : 6 ≤ R.slots) :
    W p l e R s m args below meth c H locs 0 0 (am_TH (am_ex k).2 s below locs H) (F0 m pc ls []) := by
  intro T hT X
  have X0 := am_rebase X (Nat.zero_le _) (Nat.zero_le _)
  have hW : s.WarmedH (T.setFrames (.invoking m args :: below)).vm := X.warmed
  have hts' : ∀ w ∈ am_TS, w.before args (T.setFrames (.invoking m args :: below)) = true := fun w hw => word_at hW (good_of_word (List.mem_filter.mp hw).2) (hts w hw)
  have hdx' : am_dx A (T.setFrames (.invoking m args :: below)) (T.setFrames (.invoking m args :: below)).heap := hdx.next hW (fun a h1 h2 => by show T.heap[a]? = _; rw [hT]; exact hS.2.1 a h1 h2)
  have hown' : (T.setFrames (.invoking m args :: below)).vm.findClass "ChartPress" = some m.cls := by rw [hW.alike.findClass]; exact hown
  have hstr' := hstr.warm hW
  obtain ⟨cC, k1, hfc, -⟩ := Cond.instantiable_spec (hts' _ hin)
  have htr : e.platform.stackTraces = false := by rw [X.admits.platform]; exact hl
  generalize hs' : T.setFrames (.invoking m args :: below) = s' at *
  have hh' : s'.heap = T.heap := by rw [← hs']; rfl
  have key : W p l e ({ frames := R.frames, cells := R.cells - 0, slots := R.slots - 0, locals := R.locals } : Room) s' m args below meth c T.heap [] 0 0 (am_TH (am_ex k).2 s below locs H) (F0 m pc ls []) := by
    refine W.newcK hx hb hown' (hts' _ hcl) (hts' _ hin) (hts' _ hini) rfl d0 (by show 0 + 1 ≤ R.cells - 0; omega) (by show 0 + 6 ≤ R.slots - 0; omega) hfc rfl (fun H' kC h1 h2 h3 h4 => ?_)
    refine lv_dup hx hb d3 rfl ?_
    refine va_ldcS hx hb hown' hstr' d4 ?_
    intro T2 hT2 X2
    obtain ⟨U, g1, g2, g3, g4, g5, ce, g6, g7⟩ := X2.ctorThrowS hx htr (own := "ChartPress") (cls := (am_ex k).2) (names := am_exn) (ic := (am_ex k).1) hown' hfit (by decide +kernel) (am_own hk hts' hdx') (fun x hx => by cases hx) hfc h1 (a := T.heap.size) (by rw [hT2]; exact h2) (by rw [hh']; exact Nat.le_refl _) (msg := .ref msg) rfl (g := F0 m (pc + 3 + 1 + 2) ls [.ref msg, .ref T.heap.size, .ref T.heap.size]) rfl hls rfl rfl (rest := []) rfl (by rw [hb]; exact d6) (by rw [hb]; exact d9) (fun x hx => by
      have z : c.exceptionTable.toList = [] := by
        have := hex
        simpa [Array.isEmpty] using this
      rw [z] at hx; cases hx) (by show 2 + 3 < R.frames; omega) (by show _ ≤ R.locals; exact Nat.le_trans (Nat.le_of_ble_eq_true rfl) hRl) hlocks
    refine ⟨U, g1, T.heap.size, ce, g2, g3, State.WarmedH.trans X.warmed (by rw [← hs'] at g4; exact g4), ?_, ?_, ?_, g6, g7.vm, ?_⟩
    · subst hs'
      have h3 := (X.same.setFrames (.invoking m args :: below) X.cur).trans (g5.setVm s.vm)
      simp only [List.append_nil, Nat.zero_add] at h3
      exact h3
    · intro q hq
      rw [← hT] at hq ⊢
      have hc := Array.getElem?_eq_getElem hq
      rw [hc]
      exact g5.old_cell (by rw [hh']; exact hc)
    · rw [← hT, ← hh']
      exact g5.2.1
    · have z := g7.cls
      rw [hW.alike.findClass] at z
      exact z
  exact key T rfl X0
end TH
