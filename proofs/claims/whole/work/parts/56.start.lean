/-! THE CLAIM OUT OF ONE WALK OF THE LAW'S BODY: the law's entry and its beginning. -/
def R_law : String := "ChartPressLaw"
def lw_P (b : Addr) (xs : List Int32) (args : Array Value) (s : State) : Prop := args = #[.ref b] ∧ s.IntsAt b xs ∧ xs.length ≤ 1536 ∧ (Jvm.Cond.and given_1 narrow_1).before args s = true
def lw_Q (_ : Array Value) (s : State) (o : Outcome) (t : State) : Prop := o = .returned (some (.int 1)) ∧ Framed s o t [] 601024 7293034
def lw_Z (below : List Frame) (a : Array Value) (s : State) : State → Prop := fun t => ∃ o, t.status = .running ∧ Ended t below o ∧ lw_Q a s o t
theorem lw_ret {p : Program} {l : Launch} {e : Env} {s : State} {m : MethodId} {below : List Frame} {meth : Method} {c : Code} {b : Nat} (hx : p.tables.exec = Jvm.exec) (hb : c.code = code) (hr : meth.sig.returnType = ret) (hlocks : meth.locks = false) {pc : Nat} {H : Heap} {ls : Array Slot} (hdg : decode code pc = .ok (.ireturn, 1)) : W p l e room_1 s m #[Value.ref b] below meth c H [] 601024 7293034 (lw_Z below #[Value.ref b] s) (F0 m pc ls [.int 1]) := by
  intro T hT X
  obtain ⟨fs, hret, hrun, hended, hW, hframe⟩ := X.leave (v := some (.int 1)) (hlocks := hlocks) (fun h => by rw [hr] at h; cases h)
  have hmeth' : T.vm.method? m = some meth := X.method'
  refine ⟨T.setFrames fs, ?_, .returned (some (.int 1)), hrun, hended, rfl, ⟨_, rfl⟩, hW, hframe⟩
  jvm_step X.here [X.here.top, hx, hb, hdg, hmeth', hr, ret, narrow_b1]
  (try refine ⟨rfl, ?_⟩); (try refine ⟨rfl, ?_⟩)
  first | (intro acts; rw [hret _ acts rfl rfl rfl]) | rw [hret _ _ rfl rfl rfl]
  exact Steps.refl _
/-- what holds at the law's entry: the machine, the code, the tables' words, the script of L ints xs at the cell b, what the Statement gives of the start -/
def lw_At (p : Program) (s : State) (m : MethodId) (meth : Method) (c : Code) (b L : Nat) (xs : Nat → Int32) : Prop :=
  p.tables.exec = Jvm.exec ∧ c.code = code ∧ meth.sig.returnType = ret ∧ c.maxLocals = 7 ∧ s.vm.findClass R_law = some m.cls ∧ (∀ w ∈ lw_tbl, w.before #[Value.ref b] s = true) ∧ va_X b L xs s s.heap ∧ b < s.heap.size ∧ meth.locks = false ∧ (Jvm.Cond.and given_1 narrow_1).before #[Value.ref b] s = true
theorem lw_mc : am_mc 234 = code := rfl
theorem z234_0 : decode (zc_c 12) 0 = .ok (.new 8, 3) := by decide +kernel
theorem z234_3 : decode (zc_c 12) 3 = .ok (.dup, 1) := by decide +kernel
theorem z234_4 : decode (zc_c 12) 4 = .ok (.invokespecial 23, 3) := by decide +kernel
theorem z234_7 : decode (zc_c 12) 7 = .ok (.astore_n 1, 1) := by decide +kernel
theorem z234_8 : decode (zc_c 12) 8 = .ok (.new 24, 3) := by decide +kernel
theorem z234_11 : decode (zc_c 12) 11 = .ok (.dup, 1) := by decide +kernel
theorem z234_12 : decode (zc_c 12) 12 = .ok (.invokespecial 26, 3) := by decide +kernel
theorem z234_15 : decode (zc_c 12) 15 = .ok (.astore_n 2, 1) := by decide +kernel
theorem z234_16 : decode (zc_c 12) 16 = .ok (.iconst 1, 1) := by decide +kernel
theorem z234_17 : decode (zc_c 12) 17 = .ok (.newarray .long, 2) := by decide +kernel
theorem d234_19 : decode (am_mc 234) 19 = .ok (.astore_n 3, 1) := by decide +kernel
theorem d234_20 : decode (am_mc 234) 20 = .ok (.iconst 0, 1) := by decide +kernel
theorem d234_21 : decode (am_mc 234) 21 = .ok (.istore 4, 2) := by decide +kernel
/-- all is made: the abstract machine goes on -/
theorem zc_to {X : am_K} {C : am_C} {Q : State → Prop} {S S' : zc_S} {pc : Nat} {lv : am_L} {st : List am_V} (hc : zc_chk S = true) (hn : S.1 = 263) (hs : S.2.1 = 16919) (o1 : ∀ q ∈ lv, am_ok q.2) (o2 : ∀ v ∈ st, am_ok v) (h : ∀ C', zc_eq C' C 0 → am_W X C' 234 Q 263 16919 pc lv st S.2.2.2) : zc_W X C 12 0 0 Q S' pc lv st S := by
  obtain ⟨p, l, e, R, s, m, args, below, meth, c⟩ := X
  intro C' H locs ls ⟨q0, q1, q2, q3, q4, hI, p1, p2, hP, hD, hS⟩ hl
  obtain ⟨w1, w2⟩ := zc_whole hc hn hP hD
  have z := h C' q0 o1 o2 (zc_okM hc hI) H locs ls (by rw [q0.1]; exact w1) (by rw [q0.2.2.1]; exact w2) (by rw [q0.2.2.1]; exact hS) hl
  rw [show S.1 - 0 = 263 by omega, show S.2.1 - 0 = 16919 by omega]
  exact z
set_option maxHeartbeats 2000000 in
theorem lw_begin (hRC : RC) (hRD : RD) {p : Program} {e : Env} {s : State} {m : MethodId} {below : List Frame} {meth : Method} {c : Code} (l : Launch) (hl0 : l.stackTraces = false) {b L : Nat} {xs : Nat → Int32} (hL : L ≤ 1536) (C0 : lw_At p s m meth c b L xs) : W p l e room_1 s m #[Value.ref b] below meth c s.heap [] 0 0 (lw_Z below #[Value.ref b] s) (entryFrame m ([Value.ref b] : List Value).toArray 7) := by
  obtain ⟨hx, hcode, hret, hml, hown, hts, hX, hbl, hlk, hgv⟩ := C0
  have hA : ∀ a : Nat, a < s.heap.size → ¬ (fun q : Nat => s.heap.size ≤ q) a := fun a h z => Nat.not_le.mpr h z
  obtain ⟨sr, hsr, hkst⟩ := ls_kst hts hgv hA b
  obtain ⟨D, g, hK⟩ := ls_K hts
  obtain ⟨S1, S2, eA, n1, k1, eB, n2, k2, hchk, hini⟩ := zc_made
  have hTS : ∀ w ∈ am_TS, w.before #[Value.ref b] s = true := fun w hw => hts w (List.mem_filter.mp hw).1
  have hG : zc_G (p, l, e, room_1, s, m, #[Value.ref b], below, meth, c) (D, g, (fun _ => 0), (fun q : Nat => s.heap.size ≤ q), sr) 12 0 0 (263, 16919, S2.2.2) := ⟨hx, hcode.trans lw_mc.symm, hml, hown, hTS, hK _ _ _, ls_cx hts, fun q h => h, Nat.le_refl _, Nat.le_refl _, fun h => absurd h (by decide), fun h => absurd h (by decide), hlk, by show 263 - 0 ≤ 601024; decide, by show 16919 - 0 ≤ 7293034; decide⟩
  have fin : ∀ C' : am_C, zc_eq C' (D, g, (fun _ => 0), (fun q : Nat => s.heap.size ≤ q), sr) 0 → am_W (p, l, e, room_1, s, m, #[Value.ref b], below, meth, c) C' 234 (lw_Z below #[Value.ref b] s) 263 16919 19 [(2, .inr (.inr (11, 240))), (1, .inr (.inr (0, 0))), (0, .inr (.inr (33, 0)))] [.inr (.inr (17, 262))] S2.2.2.2 := by
    intro C' hC'
    obtain ⟨D', g', a', AS'⟩ := C'
    obtain ⟨e1, e2, e3, -⟩ := hC'
    dsimp only at e1 e2 e3
    subst e1 e2 e3
    have hscr : am_scr (D', g', a', (fun q : Nat => s.heap.size ≤ q), sr) s (L, fun i => (xs i).toInt) := by
      refine ⟨?_, by show sr 33 0 < _; rw [hsr]; exact hbl, by show ¬ s.heap.size ≤ sr 33 0; rw [hsr]; omega, fun i => am_i_in _, by show L < _; omega⟩
      show va_X (sr 33 0) L (fun i => Int32.ofInt (xs i).toInt) s s.heap
      rw [hsr, show (fun i => Int32.ofInt (xs i).toInt) = xs from funext fun i => am_i_eq _]
      exact hX
    have hGk : ∀ cells slots, cells ≤ 601024 → slots ≤ 7293034 → am_G (p, l, e, room_1, s, m, #[Value.ref b], below, meth, c) (D', g', a', (fun q : Nat => s.heap.size ≤ q), sr) 234 cells slots (L, fun i => (xs i).toInt) := fun cells slots h1 h2 => ⟨hx, hcode.trans lw_mc.symm, by rw [wd_4.2.2.1]; exact hml, by rw [wd_4.1, wd_4.2.1]; exact hown, hTS, hK _ _ _, hkst _ _ _, fun q h => h, wd_6.1, wd_6.2, h1, h2, fun _ => hscr⟩
    have hend : ∀ (cells slots : Nat) (lv : am_L) (μ : am_M), cells ≤ 601024 → slots ≤ 7293034 → am_W (p, l, e, room_1, s, m, #[Value.ref b], below, meth, c) (D', g', a', (fun q : Nat => s.heap.size ≤ q), sr) 234 (lw_Z below #[Value.ref b] s) cells slots 442 lv [] μ := by
      intro cells slots lv μ h1 h2 o1 o2 o3 H locs ls hP hD hS hl
      refine lv_iconst hx (hcode.trans lw_mc.symm) d234_442 rfl ?_
      refine va_forget (fun q hq => hS.2.2 q hq) (W.widen h1 h2 ?_)
      exact lw_ret hx hcode hret hlk (by rw [← lw_mc]; exact d234_443)
    have hH : lw_H (p, l, e, room_1, s, m, #[Value.ref b], below, meth, c) (D', g', a', (fun q : Nat => s.heap.size ≤ q), sr) (L, fun i => (xs i).toInt) (lw_Z below #[Value.ref b] s) := ⟨hGk, hL, ⟨hl0, ls_dx hts hgv hA, ls_nc hgv, rfl, rfl⟩, fun i => am_i_in _, hend⟩
    have hG2 := hGk 263 16919 (by decide) (by decide)
    refine am_c_astore_n hG2 d234_19 (by rw [wd_4.2.2.1]; decide) ?_
    refine am_c_iconst hG2 d234_20 (by decide) ?_
    refine am_c_istore hG2 d234_21 (by rw [wd_4.2.2.1]; decide) ?_
    exact lw_loop hRC hRD hH 512 0 S2.2.2.2 (by show L < _; omega) (by decide) (zc_R hini)
  have key : zc_W (p, l, e, room_1, s, m, #[Value.ref b], below, meth, c) (D, g, (fun _ => 0), (fun q : Nat => s.heap.size ≤ q), sr) 12 0 0 (lw_Z below #[Value.ref b] s) (263, 16919, S2.2.2) 0 [(0, .inr (.inr (33, 0)))] [] zc_0 := by
    refine zc_c_new (t := 0) hG z234_0 (by decide +kernel) (by decide) (by decide) (Nat.le_of_ble_eq_true rfl) (Nat.le_of_ble_eq_true rfl) ?_
    show zc_W _ _ _ _ _ _ _ _ _ [.inr (.inr (0, 0))] zc_a
    refine zc_c_dup hG z234_3 rfl ?_
    refine zc_c_call (t := 0) (o := 0) (as := []) (rest := [.inr (.inr (0, 0))]) (S1 := S1) hG z234_4 (Or.inl (by decide +kernel)) (by decide) rfl rfl (by decide) (zc_sd (f := 3000) eA (by decide) (by decide) (by rw [n1]; decide) (by rw [k1]; decide)) (by rw [n1]; decide) (by rw [k1]; decide) (by rw [n1]; exact Nat.le_of_ble_eq_true rfl) (by rw [k1]; exact Nat.le_of_ble_eq_true rfl) ?_
    refine zc_c_astore_n hG z234_7 (by decide) ?_
    refine zc_c_new (t := 11) hG z234_8 (by decide +kernel) (by decide) (by rw [n1]; decide) (by rw [n1]; exact Nat.le_of_ble_eq_true rfl) (by rw [k1]; exact Nat.le_of_ble_eq_true rfl) ?_
    show zc_W _ _ _ _ _ _ _ _ _ [.inr (.inr (11, S1.1))] (zc_b S1)
    rw [n1]
    refine zc_c_dup hG z234_11 rfl ?_
    refine zc_c_call (t := 11) (o := 240) (as := []) (rest := [.inr (.inr (11, 240))]) (S1 := S2) hG z234_12 (Or.inl (by decide +kernel)) (by decide) rfl rfl (by decide) (zc_sd (f := 3000) eB (by decide) (by decide) (by show S1.1 + 1 ≤ S2.1; rw [n1, n2]; decide) (by show S1.2.1 + 54 ≤ S2.2.1; rw [k1, k2]; decide)) (by show S1.1 + 1 ≤ S2.1; rw [n1, n2]; decide) (by show S1.2.1 + 54 ≤ S2.2.1; rw [k1, k2]; decide) (by rw [n2]; exact Nat.le_of_ble_eq_true rfl) (by rw [k2]; exact Nat.le_of_ble_eq_true rfl) ?_
    refine zc_c_astore_n hG z234_15 (by decide) ?_
    refine zc_c_iconst hG z234_16 (by decide) ?_
    have e1 : (.inl 1 : am_V) = .inl ((am_len S2.1 : Nat) : Int) := by rw [n2]; rfl
    rw [e1]
    refine zc_c_newarray (y := .long) hG z234_17 (by decide) (by rw [n2]; decide) (by rw [n2]; exact Nat.le_of_ble_eq_true rfl) (by rw [n2, k2]; exact Nat.le_of_ble_eq_true rfl) ?_
    rw [n2]
    refine zc_to (S := (263, S2.2.1 + am_len 262, S2.2.2)) hchk rfl (by show S2.2.1 + am_len 262 = 16919; rw [k2]; decide) ?_ ?_ fin
    · intro q hq
      rcases List.mem_cons.mp hq with rfl | hq
      · exact am_ok_mk (by decide) (by decide)
      · rcases List.mem_cons.mp hq with rfl | hq
        · exact am_ok_mk (by decide) (by decide)
        · rw [List.mem_singleton.mp hq]
          exact Or.inr (Or.inr (Or.inr rfl))
    · intro v hv
      rw [List.mem_singleton.mp hv]
      exact am_ok_mk (by decide) (by decide)
  have hl := lv_entry ([Value.ref b] : List Value) (n := 7) (Nat.le_of_ble_eq_true rfl)
  rw [lg_entry_eq]
  have hv : am_v (D, g, (fun _ => 0), (fun q : Nat => s.heap.size ≤ q), sr) (.inr (.inr (33, 0))) = Value.ref b := by
    show Value.ref (sr 33 0) = _
    rw [hsr]
  refine key (D, g, (fun _ => 0), (fun q : Nat => s.heap.size ≤ q), sr) s.heap [] _ ⟨zc_eq_rf _ _, Nat.le_refl _, Nat.le_refl _, Nat.zero_le _, Nat.zero_le _, ⟨(fun o k h => absurd h Bool.false_ne_true), (fun _ _ _ => rfl), (fun _ _ _ => rfl)⟩, ?_, (fun v h => by cases h), (fun k q h => by cases h), ⟨(fun i j p q h => by cases h), (fun k q h => by cases h)⟩, va_S.rf⟩ ?_
  · intro q hq
    rw [List.mem_singleton.mp hq]
    exact Or.inr ⟨(33, 0), rfl, by decide⟩
  · show lv_has _ 7 [(0, am_v _ (.inr (.inr (33, 0))))]
    rw [hv]
    exact hl
