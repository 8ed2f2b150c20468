/-! String.checkIndex(II)V: a static of which only 'a reference or null' is said is handed on: by hand. -/
def fn57 (a b : Int) (μ : am_M) : Option (Int × am_M) := if 0 ≤ a ∧ a < b then some (0, μ) else none
def sp57 : am_F := fun vs μ => am_aI vs fun a vs => am_aI vs fun b vs => am_a0 vs (fn57 a b μ)
theorem e57 (a b : Int) (μ : am_M) : sp57 [.inl a, .inl b] μ = fn57 a b μ := am_aI_c.trans (am_aI_c.trans am_a0_c)
theorem rg57 : am_rcg 57 = 0 := by decide +kernel
def yP : MethodName := ⟨"jdk/internal/util/Preconditions", "checkIndex", "(IILjava/util/function/BiFunction;)I"⟩
def wP : List Cond := .code yP prog_27_method_11_code 3 (some .int) :: am_TS
theorem dP0 : decode prog_27_method_11_code 0 = .ok (.iload_n 0, 1) := by decide +kernel
theorem dP1 : decode prog_27_method_11_code 1 = .ok (.ifCond .lt 8, 3) := by decide +kernel
theorem dP4 : decode prog_27_method_11_code 4 = .ok (.iload_n 0, 1) := by decide +kernel
theorem dP5 : decode prog_27_method_11_code 5 = .ok (.iload_n 1, 1) := by decide +kernel
theorem dP6 : decode prog_27_method_11_code 6 = .ok (.if_icmp .lt 10, 3) := by decide +kernel
theorem dP16 : decode prog_27_method_11_code 16 = .ok (.iload_n 0, 1) := by decide +kernel
theorem dP17 : decode prog_27_method_11_code 17 = .ok (.ireturn, 1) := by decide +kernel
theorem sdP (l : Launch) (a b : Int32) (v : Value) (hv : v = .null ∨ ∃ x, v = .ref x) (h0 : ¬ a < 0) (h1 : a < b) : Met l yP wP ({ frames := 0, cells := 0, slots := 0, locals := 0 }) (va_Pc [.int a, .int b, v] (fun _ => True)) (fun _ st oc t => oc = .returned (some (.int a)) ∧ t.heap = st.heap) 0 0 (fun _ => False) := by
  refine am_ofW (cc := prog_27_method_11_code) (maxL := 3) (ret := some .int) (by decide +kernel) rfl ?_
  intro p e s m args below meth c s₁ B hml hv2
  obtain ⟨rfl, -⟩ := hv2
  have hx := B.exec
  have hb := B.bytes
  have hr := B.returns
  have hlocks := B.notSynchronized
  have hl : ∃ ls, entryFrame m ([Value.int a, .int b, v] : List Value).toArray 3 = F0 m 0 ls [] ∧ lv_has ls 3 [(0, .int a), (1, .int b)] := by
    have hle : (lg_sl [Value.int a, .int b, v]).length ≤ 3 := by
      rcases hv with rfl | ⟨x, rfl⟩ <;> exact Nat.le_of_ble_eq_true rfl
    have hl := lv_entry ([Value.int a, .int b, v]) (n := 3) hle
    exact ⟨_, lg_entry_eq m _ 3, lv_sub hl [0, 1] rfl⟩
  obtain ⟨ls, e1, hl⟩ := hl
  rw [e1]
  refine lv_iload_n hx hb dP0 rfl (lv_at hl 0 rfl) ?_
  refine lv_if_lt (tgt := 9) hx hb dP1 rfl (fun q => absurd q h0) (fun _ => ?_)
  refine lv_iload_n hx hb dP4 rfl (lv_at hl 0 rfl) ?_
  refine lv_iload_n hx hb dP5 rfl (lv_at hl 1 rfl) ?_
  refine lv_icmp_lt (tgt := 16) hx hb dP6 rfl (fun _ => ?_) (fun q => absurd h1 q)
  refine lv_iload_n hx hb dP16 rfl (lv_at hl 0 rfl) ?_
  exact W.iret (v := a) hx hb hr (fun t ht _ => ⟨rfl, ht⟩) (fun q h => by cases h) dP17
theorem wP_good : GoodIn am_TS wP := by
  intro w hw
  have hm : w ∈ am_TS := by
    rcases List.mem_cons.mp hw with rfl | h2
    · exact List.mem_filter.mpr ⟨List.mem_append_right _ (show Cond.code yP prog_27_method_11_code 3 (some .int) ∈ tables_1 from (List.mem_append_right _ (List.mem_append_right _ (List.mem_append_left _ (List.mem_of_getElem? (i := 234) rfl))))), rfl⟩
    · exact h2
  exact ⟨hm, good_of_word (List.mem_filter.mp hm).2⟩
theorem wP1 : Cond.methodLink "java/lang/String" 1059 yP ∈ am_TS := am_in_1 (p := 712) (by decide +kernel) rfl
theorem wP2 : Cond.static yP ∈ am_TS := am_in_1 (p := 713) (by decide +kernel) rfl
theorem wP3 : Cond.initialized yP.cls ∈ am_TS := am_in_1 (p := 20) (by decide +kernel) rfl
theorem wP4 : Cond.fieldLink "java/lang/String" 1053 "jdk/internal/util/Preconditions" "SIOOBE_FORMATTER" "Ljava/util/function/BiFunction;" ∈ am_TS := am_in_1 (p := 710) (by decide +kernel) rfl
theorem d57_0 : decode prog_21_method_155_code 0 = .ok (.iload_n 0, 1) := by decide +kernel
theorem d57_1 : decode prog_21_method_155_code 1 = .ok (.iload_n 1, 1) := by decide +kernel
theorem d57_2 : decode prog_21_method_155_code 2 = .ok (.getstatic 1053, 3) := by decide +kernel
theorem d57_5 : decode prog_21_method_155_code 5 = .ok (.invokestatic 1059, 3) := by decide +kernel
theorem d57_8 : decode prog_21_method_155_code 8 = .ok (.pop, 1) := by decide +kernel
theorem d57_9 : decode prog_21_method_155_code 9 = .ok (.return_, 1) := by decide +kernel
section H57
variable {p : Program} {l : Launch} {e : Env} {R : Room} {s : State} {m : MethodId} {args : Array Value} {below : List Frame} {meth : Method} {c : Code} {H : Heap} {locs : List Loc} {cells slots : Nat} {Q : State → Prop} {pc : Nat} {ls : Array Slot} {rest st0 : List Value} {a : Array Value}
/-- a call that changes nothing -/
theorem am_callh {v : Value} (hr : va_Run p l e R s m args below meth c H locs cells slots 0 0 (F0 m pc ls st0) rest (fun st oc t => oc = .returned (some v) ∧ t.heap = st.heap) (fun _ => False))
    (kk : W p l e R s m args below meth c H locs cells slots Q (F0 m (pc + 3) ls (v :: rest))) : W p l e R s m args below meth c H locs cells slots Q (F0 m pc ls st0) := by
  intro T hT X
  obtain ⟨w, st₀, t, T', L, h0, X', hL, e1, e2, ⟨hv, hh⟩, st⟩ := hr T hT X
  cases hv
  have eL : L = [] := List.eq_nil_iff_forall_not_mem.mpr (fun q hq => hL q hq)
  subst eL
  rw [List.append_nil] at X'
  obtain ⟨t2, a1, b1⟩ := kk T' (by rw [e1, hh, h0]) X'
  exact ⟨t2, st t2 a1, b1⟩
end H57
set_option maxHeartbeats 1000000 in
theorem sd57 : am_Sd 57 sp57 := by
  refine am_Sd_of (by decide) (fun vs μ μ' x h hv hM => ?_)
  obtain ⟨a, vs0, rfl, h0⟩ := am_aI_s h
  obtain ⟨b, vs1, rfl, h1⟩ := am_aI_s h0
  obtain ⟨rfl, hz⟩ := am_a0_s h1
  refine ⟨Nat.le_of_ble_eq_true rfl, fun X C hG hr => ?_⟩
  unfold fn57 at hz
  obtain ⟨⟨g1, g2⟩, hz⟩ := am_if_s hz
  cases hz
  obtain ⟨p, l, e, R, s, m, args, below, meth, c⟩ := X
  obtain ⟨hx, hb, hml, hown, hts, hK, hkst, hA, hRf, hRl, hcc, hss, hscr⟩ := hG
  have hb : c.code = prog_21_method_155_code := hb
  have hown : s.vm.findClass "java/lang/String" = some m.cls := hown
  have hml : c.maxLocals = 2 := hml
  intro o1 o2 o3 H locs ls hP hD hS hl
  have hl : lv_has ls 2 [(0, .int (Int32.ofInt a)), (1, .int (Int32.ofInt b))] := hl
  have ia : am_inI a := o1 (0, .inl a) List.mem_cons_self
  have ib : am_inI b := o1 (1, .inl b) (List.mem_cons_of_mem _ List.mem_cons_self)
  obtain ⟨v, k1, k2⟩ := hkst.2.2.2.2.2.2
  refine lv_iload_n hx hb d57_0 rfl (lv_at hl 0 rfl) ?_
  refine lv_iload_n hx hb d57_1 rfl (lv_at hl 1 rfl) ?_
  refine va_gets hx hb k2 hS hown (hts _ wP4) (fun _ h => h) d57_2 ?_
  have hrun := va_runS (p := p) (l := l) (e := e) (R := R) (s := s) (m := m) (args := args) (below := below) (meth := meth) (c := c) (H := H) (locs := locs) (cells := 0) (slots := 0) (Ts := am_TS) (own := "java/lang/String") (n := 3) (As := [.int (Int32.ofInt a), .int (Int32.ofInt b), v]) (rest := []) (g := F0 m 5 ls [v, .int (Int32.ofInt b), .int (Int32.ofInt a)]) ⟨hx, hb, hml, hown, hts⟩ (sdP l (Int32.ofInt a) (Int32.ofInt b) v k1 (fun q => by rw [show (0 : Int32) = Int32.ofInt 0 from rfl, am_lt32 ia am_0in] at q; omega) ((am_lt32 ia ib).mpr g2))
    ⟨callB_of 3 hts wP_good rfl rfl rfl (hts _ wP3) (hts _ wP1) ⟨by decide, by decide, by decide +kernel⟩ ⟨Nat.le_trans (by decide +kernel) hRf, Nat.le_trans (by decide +kernel) hRl⟩, hts _ wP2⟩
    ⟨fun _ _ _ _ q => q, fun U hU hW => ⟨rfl, trivial⟩⟩ rfl rfl hl.1 rfl (lv_room (Nat.le_of_ble_eq_true rfl)) d57_5 ⟨hcc, hss⟩
  refine am_callh hrun ?_
  refine lv_pop hx hb d57_8 rfl ?_
  have hr2 := hr.1
  rw [show am_mr 57 = none from by decide +kernel] at hr2
  refine W.vret (hlocks := hr.2) hx hb hr2 (fun t ht hW => ?_) hS.2.2 d57_9
  rw [show am_rk 57 = 0 from by decide +kernel]
  exact ⟨rfl, by rw [ht]; exact hP, hD, hS.F ht, o3, fun v hv => by cases hv⟩
