/-! A walk begun anew where it stands: nothing has changed since. -/
section RB
variable {p : Program} {l : Launch} {e : Env} {R : Room} {s : State} {m : MethodId} {args : Array Value} {below : List Frame} {meth : Method} {c : Code} {T : State} {locs : List Loc} {cells slots : Nat}
theorem am_hears (X : Stand p l e R s m args below meth c T locs cells slots) (fs : List Frame) : (T.setFrames fs).hears m below = true := by
  have hh := X.hears
  have hm := X.method'
  have hv : (T.setFrames fs).vm = T.vm := rfl
  rcases below with _ | ⟨y, r⟩
  · simp only [State.hears, X.method, Option.any_some] at hh
    simp only [State.hears, hv, hm, Option.any_some]
    exact hh
  · cases y
    case java g =>
      simp only [State.hears] at hh ⊢
      rw [State.code?_eq] at hh ⊢
      rw [hv, X.warmed.alike.method?]
      exact hh
    case native g => rfl
    case proc g => rfl
    all_goals
      simp only [State.hears, X.method, Option.any_some] at hh
      simp only [State.hears, hv, hm, Option.any_some]
      exact hh
theorem am_rebase (X : Stand p l e R s m args below meth c T locs cells slots) (hc : cells ≤ R.cells) (hs : slots ≤ R.slots) : Stand p l e ({ frames := R.frames, cells := R.cells - cells, slots := R.slots - slots, locals := R.locals } : Room) (T.setFrames (.invoking m args :: below)) m args below meth c T [] 0 0 := by
  have hcur : T.cur < T.threads.size := State.cur_lt_of_top X.here.top
  have hF : (T.setFrames (.invoking m args :: below)).frames = .invoking m args :: below := State.frames_setFrames _ hcur
  obtain ⟨g₀, hfr⟩ := X.frames_eq
  refine ⟨X.admits, X.cas, X.clock, hF, ?_, am_hears X _, X.method', X.code, X.here, X.tail, State.WarmedH.refl (T.setFrames (.invoking m args :: below)), by rw [State.stackLimits_setFrames], by rw [State.stackBytes_setFrames], ?_⟩
  · obtain ⟨r1, r2, r3, r4⟩ := State.hasRoom_stack X.room
    have r5 := State.hasRoom_real X.room
    have h := X.room
    simp only [State.hasRoom, Bool.and_eq_true, decide_eq_true_eq] at h
    rw [State.localsInUse_invoking X.frames X.method X.code] at r3 r4 r5
    rw [X.frames, List.length_cons] at r1 r2
    have hU := State.localsInUse_invoking hF X.method' X.code
    have q1 : T.heap.size ≤ s.heap.size + cells := X.same.2.2.1
    have q2 : T.slotsUsed = s.slotsUsed + _ := X.same.2.2.2.1
    have q3 := X.same.2.2.2.2.1
    simp only [State.hasRoom, Bool.and_eq_true, decide_eq_true_eq, hF, hU, List.length_cons, State.stackLimits_setFrames, State.stackBytes_setFrames, X.limits, X.bytes]
    refine ⟨⟨⟨⟨by omega, by omega, by omega, by omega, by omega, h.1.1.1.2.2.2.2.2⟩, ?_⟩, ?_⟩, X.book⟩
    · have := h.1.1.2
      show T.heap.size + (R.cells - cells) ≤ _
      omega
    · have := h.1.2
      show T.slotsUsed + (R.slots - slots) ≤ _
      omega
  · obtain ⟨t, ht, -⟩ := State.frames_cons hF
    have h := (State.sameButNew.refl (T.setFrames (.invoking m args :: below)) ht).setFrames T.frames (State.cur_lt_of_frames hF)
    rw [State.setFrames_setFrames] at h
    have e1 : T.setFrames T.frames = T := by
      exact State.setFrames_self (Array.getElem?_eq_getElem hcur)
    rw [e1] at h
    exact h
end RB
