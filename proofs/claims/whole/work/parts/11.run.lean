/-! Calls, returns, constants, switches on the abstract machine; then one instruction, then a stretch. -/
theorem am_rk_ok : ∀ j, j < 235 → (am_mr j = none → am_rk j = 0) ∧ ((am_mr j = some .int ∨ am_mr j = some .boolean ∨ am_mr j = some .char ∨ am_mr j = some .byte) → am_rk j = 1) ∧ (am_mr j = some .long → am_rk j = 2) ∧ (am_rk j = 0 ∨ am_rk j = 1 ∨ am_rk j = 2 ∨ am_rk j = 3) ∧ (am_rk j = 3 → am_mr j = some (.object "ChartPress$Letters")) ∧ (am_rk j = 2 → am_mr j = some .long) ∧ (am_rk j = 0 → am_mr j = none) := by decide +kernel
theorem am_nn {x : Int} (h : 0 ≤ x) : Int32.ofInt x = nI x.toNat := by
  obtain ⟨n, rfl⟩ := Int.eq_ofNat_of_zero_le h
  rfl
theorem am_rt_s {β : Type} {ty : Option FieldType} {x : Int} {b : Option β} {y : β} (h : am_rt ty x b = some y) : b = some y ∧ ∃ t, ty = some t ∧ narrow t (.int (Int32.ofInt x)) = .int (Int32.ofInt x) ∧ (t = .int ∨ t = .boolean ∨ t = .char ∨ t = .byte) := by
  unfold am_rt at h
  split at h
  · exact ⟨h, _, rfl, rfl, Or.inl rfl⟩
  · obtain ⟨h1, h2⟩ := am_if_s h
    refine ⟨h2, _, rfl, ?_, Or.inr (Or.inl rfl)⟩
    rcases h1 with rfl | rfl <;> rfl
  · obtain ⟨h1, h2⟩ := am_if_s h
    refine ⟨h2, _, rfl, ?_, Or.inr (Or.inr (Or.inl rfl))⟩
    rw [am_nn h1.1]
    exact (pk_charN (by omega)).1
  · obtain ⟨h1, h2⟩ := am_if_s h
    refine ⟨h2, _, rfl, ?_, Or.inr (Or.inr (Or.inr rfl))⟩
    show Value.int (Int32.ofInt x).toInt8.toInt32 = _
    congr 1
    apply Int32.toInt_inj.mp
    rw [Int8.toInt_toInt32, Int32.toInt_toInt8, am_i_of (by unfold am_inI; omega)]
    show Int.bmod x 256 = x
    unfold Int.bmod
    dsimp only
    split <;> omega
  · cases h
theorem am_rcv_s {t : Nat} {as : List am_V} (h : am_rcv (t + 1) as = true) : ∃ o r, as = .inr (.inr (t, o)) :: r := by
  rcases as with _ | ⟨v, r⟩
  · cases h
  · rcases v with v | v | ⟨t', o⟩
    · cases h
    · cases h
    · have h : (t' == t) = true := h
      have e : t' = t := by simpa using h
      exact ⟨o, r, by rw [e]⟩
section C4
variable {X : am_K} {C : am_C} {j cells slots : Nat} {sc : Nat × (Nat → Int)} {Q : State → Prop} {pc : Nat} {lv : am_L} {st : List am_V} {μ : am_M}
set_option maxHeartbeats 1000000 in
theorem am_c_invokestatic (hG : am_G X C j cells slots sc) {x : Nat} {q : Nat × Nat × Nat × Nat} (ho : q.1 < am_nm) {f : am_F} {z : Int} {μ' : am_M} (hd : decode (am_mc j) pc = .ok (.invokestatic x, 3)) (hq : tb_m (am_mo j) x = some q) (hdep : am_md q.1 + 1 ≤ am_md j ∧ 8 + (am_ml q.1 + 11) + am_lr q.1 ≤ am_lr j) (hs0 : am_rcg q.1 = 0) (hn : q.2.1 ≤ st.length) (hcat : ((st.drop q.2.1).map am_cat).sum ≤ 8) (hSd : am_Sd q.1 f) (hf : f (st.take q.2.1).reverse μ = some (z, μ')) (hk : am_W X C j Q cells slots (pc + 3) lv (am_rv q.2.2.1 q.2.2.2 z ++ st.drop q.2.1) μ') : am_W X C j Q cells slots pc lv st μ := by
  obtain ⟨p, l, e, R, s, m, args, below, meth, c⟩ := X
  obtain ⟨hx, hb, hml, hown, hts, hK, hkst, hA, hRf, hRl, hcc, hss, hscr⟩ := hG
  intro o1 o2 o3 H locs ls hP hD hS hl
  obtain ⟨m1, m2, m3, m4, m5, m6⟩ := am_m_ok hq ho
  obtain ⟨y1, y2, y3, y4, y5, y6, y7, y8⟩ := am_yok m1
  have hov : ∀ v ∈ (st.take q.2.1).reverse, am_ok v := fun v hv => o2 v (List.mem_of_mem_take (List.mem_reverse.mp hv))
  have g3 := hSd l C _ μ μ' z hf hov o3
  rw [if_pos hs0] at m5
  have hc2 : (((st.drop q.2.1).map (am_v C)).map fun v => v.category).sum ≤ 8 := by
    rw [List.map_map, show ((fun v : Value => v.category) ∘ am_v C) = am_cat from funext (am_v_cat C)]
    exact hcat
  have hrun := va_runS (p := p) (l := l) (e := e) (R := R) (s := s) (m := m) (args := args) (below := below) (meth := meth) (c := c) (H := H) (locs := locs) (cells := cells) (slots := slots) (Ts := am_TS) (own := am_cn (am_mo j)) (n := q.2.1) (As := ((st.take q.2.1).reverse).map (am_v C)) (rest := (st.drop q.2.1).map (am_v C)) (g := F0 m pc ls (st.map (am_v C))) ⟨hx, hb, hml, hown, hts⟩ g3
    ⟨callB_of q.2.1 hts (am_good _ m1) rfl rfl rfl (hts _ y5) (hts _ m4) ⟨y2, y3, m5⟩ ⟨by show am_md q.1 + 1 ≤ _; omega, by show _ + am_lr q.1 ≤ _; omega⟩, hts _ (y6 hs0)⟩
    ⟨am_blind C μ _, fun U hU hW => ⟨rfl, by rw [hU]; exact hP, hD, va_K.moved hW.alike hK, hkst.next hW (fun a h1 h2 => by rw [hU]; exact hS.2.1 a h1 h2), fun q hq => hA q (Nat.le_trans hS.1 (by rw [hU] at hq; exact hq))⟩⟩ rfl (by rw [List.length_map, List.length_reverse, List.length_take]; omega) hl.1
    (by rw [← List.map_reverse, List.reverse_reverse, ← List.map_append, List.take_append_drop]) (lv_room hc2) hd ⟨by omega, by omega⟩
  refine am_callk hrun hS (fun hM' ho' H1 locs1 hP1 hD1 hS1 => ?_)
  rw [← m2, ← m3] at ho' ⊢
  rw [← List.map_append]
  refine hk o1 (fun v hv => ?_) hM' H1 locs1 ls hP1 hD1 hS1 hl
  rcases List.mem_append.mp hv with h | h
  · exact ho' v h
  · exact o2 v (List.mem_of_mem_drop h)
set_option maxHeartbeats 1000000 in
theorem am_c_invokevirtual (hG : am_G X C j cells slots sc) {x : Nat} {q : Nat × Nat × Nat × Nat} (ho : q.1 < am_nm) {f : am_F} {z : Int} {μ' : am_M} (hd : decode (am_mc j) pc = .ok (.invokevirtual x, 3)) (hq : tb_m (am_mo j) x = some q) (hdep : am_md q.1 + 1 ≤ am_md j ∧ 8 + (am_ml q.1 + 11) + am_lr q.1 ≤ am_lr j) (hs0 : am_rcg q.1 ≠ 0) (hn : q.2.1 ≤ st.length) (hcat : ((st.drop q.2.1).map am_cat).sum ≤ 8) (hrc : am_rcv (am_rcg q.1) (st.take q.2.1).reverse = true) (hSd : am_Sd q.1 f) (hf : f (st.take q.2.1).reverse μ = some (z, μ')) (hk : am_W X C j Q cells slots (pc + 3) lv (am_rv q.2.2.1 q.2.2.2 z ++ st.drop q.2.1) μ') : am_W X C j Q cells slots pc lv st μ := by
  obtain ⟨p, l, e, R, s, m, args, below, meth, c⟩ := X
  obtain ⟨hx, hb, hml, hown, hts, hK, hkst, hA, hRf, hRl, hcc, hss, hscr⟩ := hG
  intro o1 o2 o3 H locs ls hP hD hS hl
  obtain ⟨m1, m2, m3, m4, m5, m6⟩ := am_m_ok hq ho
  obtain ⟨y1, y2, y3, y4, y5, y6, y7, y8⟩ := am_yok m1
  have hov : ∀ v ∈ (st.take q.2.1).reverse, am_ok v := fun v hv => o2 v (List.mem_of_mem_take (List.mem_reverse.mp hv))
  have g3 := hSd l C _ μ μ' z hf hov o3
  rw [if_neg hs0] at m5
  obtain ⟨t, et⟩ : ∃ t, am_rcg q.1 = t + 1 := ⟨am_rcg q.1 - 1, by omega⟩
  rw [et] at hrc
  obtain ⟨o, as, eas⟩ := am_rcv_s hrc
  have hlen : as.length + 1 = q.2.1 := by
    have z := congrArg List.length eas
    rw [List.length_reverse, List.length_take, List.length_cons] at z
    omega
  have hst : st = as.reverse ++ (.inr (.inr (t, o)) :: st.drop q.2.1) := by
    have z := congrArg List.reverse eas
    rw [List.reverse_reverse, List.reverse_cons] at z
    have z2 := List.take_append_drop q.2.1 st
    rw [z, List.append_assoc] at z2
    exact z2.symm
  have hor : am_ok (.inr (.inr (t, o))) := hov _ (by rw [eas]; exact List.mem_cons_self)
  rw [eas] at g3
  have hc2 : (((st.drop q.2.1).map (am_v C)).map fun v => v.category).sum ≤ 8 := by
    rw [List.map_map, show ((fun v : Value => v.category) ∘ am_v C) = am_cat from funext (am_v_cat C)]
    exact hcat
  have hcell : ∃ cellB : Cell, H[am_ra C t o]? = some cellB ∧ cellB.vm.isStatics = false ∧ s.vm.findClass (am_my q.1).cls = some cellB.cls := by
    rcases y8 with y8 | y8 | y8
    · exact absurd y8 hs0
    · have e31 : t = 31 := by omega
      subst e31
      rw [am_ra_k C o (by decide), y8.2]
      have ho24 : o < 24 := by
        have z : am_cok 31 o := hor
        rcases z with z | z | z | z
        · omega
        · exact z.2
        · omega
        · omega
      obtain ⟨cell, a1, a2, a3⟩ := vk_recv hkst.2.1 ho24 hS
      exact ⟨cell, a1, a2, a3⟩
    · have ht : t < 12 := by omega
      obtain ⟨w1, w2⟩ := am_ok_w hor (by omega)
      rw [am_ra_w C o (by omega)]
      obtain ⟨Cn, T, N, ty, c1, -⟩ := am_co t ht
      rw [show am_rcg q.1 - 1 = t from by omega, c1] at y8
      have ecl : Cn = (am_my q.1).cls := Option.some.inj y8.2.2
      have hat := hP o _ (am_ws_at C μ w1)
      rw [am_cell_o C μ w2 (by omega)] at hat
      obtain ⟨r, r1, cell, r2, r3, r4, r5⟩ := hat
      obtain ⟨hSl, hfc, -⟩ := hK.1 t _ c1
      refine ⟨cell, r2, by rw [r4]; rfl, ?_⟩
      rw [← ecl, r3]
      exact hfc
  have hrun := va_runV (p := p) (l := l) (e := e) (R := R) (s := s) (m := m) (args := args) (below := below) (meth := meth) (c := c) (H := H) (locs := locs) (cells := cells) (slots := slots) (Ts := am_TS) (own := am_cn (am_mo j)) (C := (am_my q.1).cls) (n := q.2.1 - 1) (b := am_ra C t o) (As := as.map (am_v C)) (rest := (st.drop q.2.1).map (am_v C)) (g := F0 m pc ls (st.map (am_v C))) ⟨hx, hb, hml, hown, hts⟩ g3
    ⟨callB_of (q.2.1 - 1) hts (am_good _ m1) rfl rfl rfl (hts _ y5) (hts _ m4) ⟨y2, y3, m5⟩ ⟨by show am_md q.1 + 1 ≤ _; omega, by show _ + am_lr q.1 ≤ _; omega⟩, hts _ (y7 hs0).1, hts _ (y7 hs0).2⟩
    ⟨am_blind C μ _, hcell, fun U hU hW => ⟨rfl, by rw [hU]; exact hP, hD, va_K.moved hW.alike hK, hkst.next hW (fun a h1 h2 => by rw [hU]; exact hS.2.1 a h1 h2), fun q hq => hA q (Nat.le_trans hS.1 (by rw [hU] at hq; exact hq))⟩⟩ rfl (by rw [List.length_map]; omega) hl.1
    (by
      show st.map (am_v C) = _
      conv => lhs; rw [hst]
      rw [List.map_append, List.map_cons, List.map_reverse]
      rfl) (lv_room hc2) hd ⟨by omega, by omega⟩
  refine am_callk hrun hS (fun hM' ho' H1 locs1 hP1 hD1 hS1 => ?_)
  rw [← m2, ← m3] at ho' ⊢
  rw [← List.map_append]
  refine hk o1 (fun v hv => ?_) hM' H1 locs1 ls hP1 hD1 hS1 hl
  rcases List.mem_append.mp hv with h | h
  · exact ho' v h
  · exact o2 v (List.mem_of_mem_drop h)
theorem am_c_ireturn (hG : am_G X C j 0 0 sc) (hj : j < 235) (hr : match X with | (_, _, _, _, _, _, _, _, meth, _) => meth.sig.returnType = am_mr j ∧ meth.locks = false) {x : Int} {t : FieldType} (hd : decode (am_mc j) pc = .ok (.ireturn, 1)) (ht : am_mr j = some t) (hn : narrow t (.int (Int32.ofInt x)) = .int (Int32.ofInt x)) (h1 : t = .int ∨ t = .boolean ∨ t = .char ∨ t = .byte) : am_W X C j (am_E X C j x μ) 0 0 pc lv [.inl x] μ := by
  obtain ⟨p, l, e, R, s, m, args, below, meth, c⟩ := X
  obtain ⟨hx, hb, hml, hown, hts, hK, hkst, hA, hRf, hRl, hcc, hss, hscr⟩ := hG
  intro o1 o2 o3 H locs ls hP hD hS hl
  have e1 : am_rk j = 1 := ((am_rk_ok j hj).2.1) (by rw [ht]; rcases h1 with rfl | rfl | rfl | rfl <;> simp)
  have hr2 := hr.1
  rw [ht] at hr2
  refine W.zret (hlocks := hr.2) hx hb hr2 hn (fun t ht hW => ?_) hS.2.2 hd
  rw [e1]
  exact ⟨rfl, by rw [ht]; exact hP, hD, hS.F ht, o3, fun v hv => by rw [List.mem_singleton.mp hv]; exact am_oh o2⟩
theorem am_c_lreturn (hG : am_G X C j 0 0 sc) (hj : j < 235) (hr : match X with | (_, _, _, _, _, _, _, _, meth, _) => meth.sig.returnType = am_mr j ∧ meth.locks = false) {x : Int} (hd : decode (am_mc j) pc = .ok (.lreturn, 1)) (e1 : am_rk j = 2) : am_W X C j (am_E X C j x μ) 0 0 pc lv [.inr (.inl x)] μ := by
  obtain ⟨p, l, e, R, s, m, args, below, meth, c⟩ := X
  obtain ⟨hx, hb, hml, hown, hts, hK, hkst, hA, hRf, hRl, hcc, hss, hscr⟩ := hG
  intro o1 o2 o3 H locs ls hP hD hS hl
  have hr2 := hr.1
  rw [(am_rk_ok j hj).2.2.2.2.2.1 e1] at hr2
  refine W.lret (hlocks := hr.2) hx hb hr2 (fun t ht hW => ?_) hS.2.2 hd
  rw [e1]
  exact ⟨rfl, by rw [ht]; exact hP, hD, hS.F ht, o3, fun v hv => by rw [List.mem_singleton.mp hv]; exact am_oh o2⟩
theorem am_c_vreturn (hG : am_G X C j 0 0 sc) (hj : j < 235) (hr : match X with | (_, _, _, _, _, _, _, _, meth, _) => meth.sig.returnType = am_mr j ∧ meth.locks = false) (hd : decode (am_mc j) pc = .ok (.return_, 1)) (e1 : am_rk j = 0) : am_W X C j (am_E X C j 0 μ) 0 0 pc lv [] μ := by
  obtain ⟨p, l, e, R, s, m, args, below, meth, c⟩ := X
  obtain ⟨hx, hb, hml, hown, hts, hK, hkst, hA, hRf, hRl, hcc, hss, hscr⟩ := hG
  intro o1 o2 o3 H locs ls hP hD hS hl
  have hr2 := hr.1
  rw [(am_rk_ok j hj).2.2.2.2.2.2 e1] at hr2
  refine W.vret (hlocks := hr.2) hx hb hr2 (fun t ht hW => ?_) hS.2.2 hd
  rw [e1]
  exact ⟨rfl, by rw [ht]; exact hP, hD, hS.F ht, o3, fun v hv => by cases hv⟩
theorem am_c_areturn (hG : am_G X C j 0 0 sc) (hj : j < 235) (hr : match X with | (_, _, _, _, _, _, _, _, meth, _) => meth.sig.returnType = am_mr j ∧ meth.locks = false) {o : Nat} (hd : decode (am_mc j) pc = .ok (.areturn, 1)) (e1 : am_rk j = 3) : am_W X C j (am_E X C j (o : Int) μ) 0 0 pc lv [.inr (.inr (am_rtg j, o))] μ := by
  obtain ⟨p, l, e, R, s, m, args, below, meth, c⟩ := X
  obtain ⟨hx, hb, hml, hown, hts, hK, hkst, hA, hRf, hRl, hcc, hss, hscr⟩ := hG
  intro o1 o2 o3 H locs ls hP hD hS hl
  have hr2 := hr.1
  rw [(am_rk_ok j hj).2.2.2.2.1 e1] at hr2
  refine W.aret (hlocks := hr.2) hx hb hr2 (Or.inl ⟨_, rfl⟩) (Or.inr ⟨_, rfl⟩) (fun t ht hW => ?_) hS.2.2 hd
  rw [e1]
  exact ⟨rfl, by rw [ht]; exact hP, hD, hS.F ht, o3, fun v hv => by rw [List.mem_singleton.mp hv]; exact am_oh o2⟩
end C4
