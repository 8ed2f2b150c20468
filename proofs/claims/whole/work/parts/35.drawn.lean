/-! ChartPress.draw() from its first instruction to its end: it gives a number back, or throws one of the five. -/
theorem W.imp {p : Program} {l : Launch} {e : Env} {R : Room} {s : State} {m : MethodId} {args : Array Value} {below : List Frame} {meth : Method} {c : Code} {H : Heap} {locs : List Loc} {cells slots : Nat} {Q Q' : State → Prop} {g : JFrame} (h : W p l e R s m args below meth c H locs cells slots Q g) (hQ : ∀ t, Q t → Q' t) : W p l e R s m args below meth c H locs cells slots Q' g := by
  intro T hT X
  obtain ⟨U, a, b⟩ := h T hT X
  exact ⟨U, a, hQ U b⟩
/-- where draw ends that throws the k-th: the memory is μ' -/
def am_DT (X : am_K) (C : am_C) (k : Nat) (μ' : am_M) : State → Prop := match X with
  | (_, _, _, _, s, _, _, below, _, _) => fun t => ∃ (H : Heap) (locs : List Loc), va_P C.1 am_cl (am_ws C μ') H ∧ va_D C.2.2.2.1 (am_ws C μ') ∧ va_S C.2.2.2.1 s.heap H locs ∧ am_okM μ' ∧ am_TH (am_ex k).2 s below locs H t
def am_DQ (X : am_K) (C : am_C) (r : (Int × am_M) ⊕ (Nat × am_M)) : State → Prop := match r with
  | .inl (x, μ') => am_E X C 232 x μ'
  | .inr (k, μ') => am_DT X C k μ'
def am_DX (X : am_K) (C : am_C) : Prop := match X with
  | (_, l, _, R, s, _, _, _, meth, c) => l.stackTraces = false ∧ am_dx C.2.2.2.1 s s.heap ∧ c.exceptionTable.isEmpty = true ∧ (meth.sig.returnType = am_mr 232 ∧ meth.locks = false) ∧ 1 ≤ R.cells ∧ 6 ≤ R.slots
theorem am_md232 : 5 < am_md 232 ∧ 100 ≤ am_lr 232 ∧ am_cn (am_mo 232) = "ChartPress" := by decide +kernel
theorem am_dth {X : am_K} {C : am_C} (hG : am_G X C 232 0 0 (0, fun _ => 0)) (hX : am_DX X C) {k pc i1 i2 i : Nat} {tx : String} {lv : am_L} {μ : am_M} (hk : ck_ex k = true) (hfit : Bundle.fit (am_ex k).2 = true) (hs : am_str[i]? = some ("ChartPress", i2, tx)) (d0 : decode (am_mc 232) pc = .ok (.new i1, 3)) (d3 : decode (am_mc 232) (pc + 3) = .ok (.dup, 1)) (d4 : decode (am_mc 232) (pc + 3 + 1) = .ok (.ldc i2, 2)) (d6 : decode (am_mc 232) (pc + 3 + 1 + 2) = .ok (.invokespecial (am_ex k).1, 3)) (d9 : decode (am_mc 232) (pc + 3 + 1 + 2 + 3) = .ok (.athrow, 1)) (hcl : Cond.classLink "ChartPress" i1 (am_ex k).2 ∈ am_TS) (hin : Cond.instantiable (am_ex k).2 6 ∈ am_TS) (hini : Cond.initialized (am_ex k).2 ∈ am_TS) : am_W X C 232 (am_DT X C k μ) 0 0 pc lv [] μ := by
  obtain ⟨p, l, e, R, s, m, args, below, meth, c⟩ := X
  obtain ⟨hx, hb, hml, hown, hts, hK, hkst, hA, hRf, hRl, hcc, hss, hscr⟩ := hG
  obtain ⟨x1, x2, x3, x4, x5, x6⟩ := hX
  obtain ⟨y1, y2, y3⟩ := am_md232
  rw [y3] at hown
  intro o1 o2 o3 H locs ls hP hD hS hl
  have hstr := hkst.1 i _ hs
  refine W.imp (am_throw (tx := tx) hk hfit hx hb x1 hown hts x2 hS x4.2 x3 (by rw [hl.1, hml]) hstr d0 d3 d4 d6 d9 hcl hin hini (Nat.lt_of_lt_of_le y1 hRf) (Nat.le_trans y2 hRl) x5 x6) (fun t ht => ⟨H, locs, hP, hD, hS, o3, ht⟩)
set_option maxRecDepth 100000 in
theorem wx0 : Cond.classLink "ChartPress" 102 "java/lang/IllegalArgumentException" ∈ am_TS ∧ Cond.instantiable "java/lang/IllegalArgumentException" 6 ∈ am_TS ∧ Cond.initialized "java/lang/IllegalArgumentException" ∈ am_TS := ⟨List.mem_filter.mpr ⟨by decide +kernel, rfl⟩, List.mem_filter.mpr ⟨by decide +kernel, rfl⟩, List.mem_filter.mpr ⟨by decide +kernel, rfl⟩⟩
set_option maxRecDepth 100000 in
theorem wx1 : Cond.classLink "ChartPress" 112 "java/lang/UnsupportedOperationException" ∈ am_TS ∧ Cond.instantiable "java/lang/UnsupportedOperationException" 6 ∈ am_TS ∧ Cond.initialized "java/lang/UnsupportedOperationException" ∈ am_TS := ⟨List.mem_filter.mpr ⟨by decide +kernel, rfl⟩, List.mem_filter.mpr ⟨by decide +kernel, rfl⟩, List.mem_filter.mpr ⟨by decide +kernel, rfl⟩⟩
set_option maxRecDepth 100000 in
theorem wx2 : Cond.classLink "ChartPress" 120 "java/lang/IllegalStateException" ∈ am_TS ∧ Cond.instantiable "java/lang/IllegalStateException" 6 ∈ am_TS ∧ Cond.initialized "java/lang/IllegalStateException" ∈ am_TS := ⟨List.mem_filter.mpr ⟨by decide +kernel, rfl⟩, List.mem_filter.mpr ⟨by decide +kernel, rfl⟩, List.mem_filter.mpr ⟨by decide +kernel, rfl⟩⟩
set_option maxRecDepth 100000 in
theorem wx3 : Cond.classLink "ChartPress" 133 "java/lang/ArithmeticException" ∈ am_TS ∧ Cond.instantiable "java/lang/ArithmeticException" 6 ∈ am_TS ∧ Cond.initialized "java/lang/ArithmeticException" ∈ am_TS := ⟨List.mem_filter.mpr ⟨by decide +kernel, rfl⟩, List.mem_filter.mpr ⟨by decide +kernel, rfl⟩, List.mem_filter.mpr ⟨by decide +kernel, rfl⟩⟩
set_option maxRecDepth 100000 in
theorem wx4 : Cond.classLink "ChartPress" 146 "java/lang/IndexOutOfBoundsException" ∈ am_TS ∧ Cond.instantiable "java/lang/IndexOutOfBoundsException" 6 ∈ am_TS ∧ Cond.initialized "java/lang/IndexOutOfBoundsException" ∈ am_TS := ⟨List.mem_filter.mpr ⟨by decide +kernel, rfl⟩, List.mem_filter.mpr ⟨by decide +kernel, rfl⟩, List.mem_filter.mpr ⟨by decide +kernel, rfl⟩⟩
/-- draw, whole -/
theorem dr232 {X : am_K} {C : am_C} (hG : am_G X C 232 0 0 (0, fun _ => 0)) (hX : am_DX X C) {o : Nat} {μ : am_M} {r : (Int × am_M) ⊕ (Nat × am_M)} (hz : fn232 o μ = some r) : am_W X C 232 (am_DQ X C r) 0 0 0 [(0, .inr (.inr (0, o)))] [] μ := by
  refine w232 hG hz (fun x m2 h => ?_) (fun m2 h => ?_) (fun m2 h => ?_) (fun m2 h => ?_) (fun m2 h => ?_) (fun m2 h => ?_)
  · subst h
    exact am_c_ireturn hG (by decide) (by obtain ⟨p, l, e, R, s, m, args, below, meth, c⟩ := X; exact hX.2.2.2.1) d232_193 (t := .int) (by decide +kernel) rfl (Or.inl rfl)
  · obtain rfl := Option.some.inj h
    exact am_dth (k := 3) (i := 22) hG hX ck_ex_3 (by decide +kernel) rfl d232_117 d232_120 d232_121 d232_123 d232_126 wx3.1 wx3.2.1 wx3.2.2
  · obtain rfl := Option.some.inj h
    exact am_dth (k := 4) (i := 23) hG hX ck_ex_4 (by decide +kernel) rfl d232_168 d232_171 d232_172 d232_174 d232_177 wx4.1 wx4.2.1 wx4.2.2
  · obtain rfl := Option.some.inj h
    exact am_dth (k := 2) (i := 21) hG hX ck_ex_2 (by decide +kernel) rfl d232_69 d232_72 d232_73 d232_75 d232_78 wx2.1 wx2.2.1 wx2.2.2
  · obtain rfl := Option.some.inj h
    exact am_dth (k := 1) (i := 1) hG hX ck_ex_1 (by decide +kernel) rfl d232_41 d232_44 d232_45 d232_47 d232_50 wx1.1 wx1.2.1 wx1.2.2
  · obtain rfl := Option.some.inj h
    exact am_dth (k := 0) (i := 0) hG hX ck_ex_0 (by decide +kernel) rfl d232_21 d232_24 d232_25 d232_27 d232_30 wx0.1 wx0.2.1 wx0.2.2
