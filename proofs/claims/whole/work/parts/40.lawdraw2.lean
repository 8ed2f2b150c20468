/-! ChartPressLaw.draw(): the call that throws, up to the handler. -/
theorem am_y233 : am_cn 12 = "ChartPressLaw" ∧ (am_my 232).cls = "ChartPress" ∧ tb_m 12 7 = some (232, 1, 1, 0) := by decide +kernel
section CW
variable {p : Program} {l : Launch} {e : Env} {R : Room} {s : State} {m : MethodId} {args : Array Value} {below : List Frame} {meth : Method} {c : Code} {H : Heap} {locs : List Loc} {cells slots : Nat} {C : am_C} {Q : State → Prop}
set_option maxHeartbeats 1000000 in
theorem am_catchW (hx : p.tables.exec = Jvm.exec) (hml : c.maxLocals = am_ml 233) (hown : s.vm.findClass "ChartPressLaw" = some m.cls) (hts : ∀ w ∈ am_TS, w.before args s = true) (hK : va_K C.1 am_cl (am_tys C) s) (hkst : am_kst C s s.heap) (hA : ∀ q, s.heap.size ≤ q → C.2.2.2.1 q) (hl : l.stackTraces = false) (hdx : am_dx C.2.2.2.1 s s.heap) (hnc : am_nc s) (htab : c.exceptionTable.toList.map (fun h => (h.startPc, h.endPc, h.handlerPc, h.catchType)) = am_hh)
    (hRf : am_md 232 + 1 ≤ R.frames) (hRl : 8 + (am_ml 232 + 11) + am_lr 232 ≤ R.locals) (hRc : cells + 1 ≤ R.cells) (hRs : slots + 6 ≤ R.slots) {o k : Nat} {μ μ' : am_M} (hz : fn232 o μ = some (.inr (k, μ'))) (hk : k < 5) (ho : am_ok (.inr (.inr (0, o)))) (hM : am_okM μ) (hP : va_P C.1 am_cl (am_ws C μ) H) (hD : va_D C.2.2.2.1 (am_ws C μ)) (hS : va_S C.2.2.2.1 s.heap H locs) {ls : Array Slot} (hls : ls.size = am_ml 233) {rest : List Value} (hrest : (rest.map fun v => v.category).sum ≤ 8) {pc : Nat} (hpc : pc < 8) (hdg : decode c.code pc = .ok (.invokevirtual 7, 3))
    (kk : ∀ (ad : Nat) (H1 : Heap) (locs1 : List Loc), am_okM μ' → va_P C.1 am_cl (am_ws C μ') H1 → va_D C.2.2.2.1 (am_ws C μ') → va_S C.2.2.2.1 s.heap H1 locs1 → W p l e R s m args below meth c H1 locs1 (cells + 1) (slots + 6) Q (F0 m (11 + 3 * k) ls [.ref ad])) : W p l e R s m args below meth c H locs cells slots Q (F0 m pc ls (am_v C (.inr (.inr (0, o))) :: rest)) := by
  intro T hT X
  obtain ⟨y0, ycl, hq⟩ := am_y233
  obtain ⟨m1, m2, m3, m4, m5, m6⟩ := am_m_ok hq (by decide)
  obtain ⟨y1, y2, y3, y4, y5, y6, y7, y8⟩ := am_yok m1
  have hrc : am_rcg 232 ≠ 0 := by decide +kernel
  have g232 := am_good 232 (by decide)
  obtain ⟨w1, w2⟩ := am_ok_w ho (by decide)
  have hcell : ∃ cellB : Cell, H[am_ra C 0 o]? = some cellB ∧ cellB.vm.isStatics = false ∧ s.vm.findClass "ChartPress" = some cellB.cls := by
    rw [am_ra_w C o (by decide)]
    obtain ⟨Cn, Ty, N, ty, c1, -⟩ := am_co 0 (by decide)
    have ecl : Cn = "ChartPress" := by
      have z : (am_cl[0]?).map (fun q => q.1) = some "ChartPress" := by decide +kernel
      rw [c1] at z
      exact Option.some.inj z
    have hat := hP o _ (am_ws_at C μ w1)
    rw [am_cell_o C μ w2 (by decide)] at hat
    obtain ⟨r, r1, cell, r2, r3, r4, r5⟩ := hat
    obtain ⟨hSl, hfc, -⟩ := hK.1 0 _ c1
    refine ⟨cell, r2, by rw [r4]; rfl, ?_⟩
    rw [← ecl, r3]
    exact hfc
  obtain ⟨cellB, b1, b2, b3⟩ := hcell
  obtain ⟨ad, first, t, T', L, hFr, f1, f2, f3, X', e1, e2, hq2, st⟩ := am_callT (Fr := fun L => ∀ q ∈ L, C.2.2.2.1 q.base) (k := 1) (n := 6) X hx (own := "ChartPressLaw") (C := "ChartPress") (index := 7) (W := 8) (y := am_my 232) (bytes := am_mc 232) (maxL := am_ml 232) (ret := am_mr 232) hown (hts _ m4) (hts _ (y7 hrc).1) (hts _ (y7 hrc).2) (hts _ (g232 _ List.mem_cons_self).1) (hts _ y5) ⟨y2, y3⟩ (sd232 (C := C) hl hz ho hM) hRf hRl hRc hRs (b := am_ra C 0 o) (cellB := cellB) (by rw [hT]; exact b1) b2 b3 (g := F0 m pc ls (am_v C (.inr (.inr (0, o))) :: rest)) rfl (by rw [hml]; exact hls) (argsL := []) (rest := rest) (fun sig hs => by
      rw [hs] at m5
      have z := Option.some.inj m5
      rw [if_neg hrc] at z
      exact z.symm) rfl (lv_room hrest) hdg
    (fun vm₁ hW => ⟨atoms_intro fun w hw => word_at hW (g232 w hw).2 (hts w (g232 w hw).1), fun g mk => ⟨am_blind C μ [.inr (.inr (0, o))] _ (T.setVm vm₁) g mk ⟨rfl, by show va_P _ _ _ T.heap; rw [hT]; exact hP, hD, va_K.moved hW.alike hK, hkst.next hW (fun a h1 h2 => by show T.heap[a]? = _; rw [hT]; exact hS.2.1 a h1 h2), fun q hq => hA q (Nat.le_trans hS.1 (by rw [← hT]; exact hq))⟩, hdx.next hW (fun a h1 h2 => by show T.heap[a]? = _; rw [hT]; exact hS.2.1 a h1 h2)⟩⟩)
    (fun first o t hq => by
      obtain ⟨ad, ce, L, h1, h2, h3, h4, h5, h6, h7, h8, -⟩ := hq
      exact ⟨ad, L, h1, h6, h7, h8⟩)
  obtain ⟨ad', ce, L', h1, h2, h3, h4, h5, h6, h7, h8, h9, h10, h11⟩ := hq2
  cases h1
  obtain ⟨vm', X2, st2⟩ := am_catchK X' hown hts hnc hdx htab hk (by rw [e1]; exact h9) h10 (by rw [← f2.alike.findClass]; exact h11) (g := F0 m pc ls rest) rfl hpc
  obtain ⟨U, a1, b1⟩ := kk ad T'.heap (locs ++ L) h5 (by rw [e1]; exact h2) h3 ⟨by rw [e1]; exact Nat.le_trans hS.1 (by rw [← hT, ← f1]; exact h4.1), fun q q1 q2 => by
      rw [e1, h4.2 q (by rw [f1, hT]; exact Nat.lt_of_lt_of_le q1 hS.1) q2, f1, hT]
      exact hS.2.1 q q1 q2, fun q hq => by
      rcases List.mem_append.mp hq with h | h
      · exact hS.2.2 q h
      · exact hFr q h⟩ (T'.setVm vm') rfl X2
  exact ⟨U, st U (st2 U a1), b1⟩
end CW
