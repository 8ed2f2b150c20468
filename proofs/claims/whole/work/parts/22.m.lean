/-! Methods as functions with their contracts (written by program). -/
/-! ChartPress$Groups.numberOf(I)I -/
theorem D104 (k : Nat) {pc : Nat} {i : Instr} (h : tbi104[k]? = some (pc, i)) (hs : am_isw i = false) {n : Nat} (hn : am_il i = n) : decode (am_mc 104) pc = .ok (i, n) := am_d2 (by decide) (by decide) rfl h hs hn
theorem d104_0 : decode (am_mc 104) 0 = .ok (.iload_n 1, 1) := D104 0 rfl rfl rfl
theorem d104_1 : decode (am_mc 104) 1 = .ok (.ifCond .lt 29, 3) := D104 1 rfl rfl rfl
theorem d104_4 : decode (am_mc 104) 4 = .ok (.iload_n 1, 1) := D104 2 rfl rfl rfl
theorem d104_5 : decode (am_mc 104) 5 = .ok (.aload_n 0, 1) := D104 3 rfl rfl rfl
theorem d104_6 : decode (am_mc 104) 6 = .ok (.getfield 69, 3) := D104 4 rfl rfl rfl
theorem d104_9 : decode (am_mc 104) 9 = .ok (.if_icmp .ge 21, 3) := D104 5 rfl rfl rfl
theorem d104_12 : decode (am_mc 104) 12 = .ok (.iload_n 1, 1) := D104 6 rfl rfl rfl
theorem d104_13 : decode (am_mc 104) 13 = .ok (.aload_n 0, 1) := D104 7 rfl rfl rfl
theorem d104_14 : decode (am_mc 104) 14 = .ok (.getfield 40, 3) := D104 8 rfl rfl rfl
theorem d104_17 : decode (am_mc 104) 17 = .ok (.arraylength, 1) := D104 9 rfl rfl rfl
theorem d104_18 : decode (am_mc 104) 18 = .ok (.if_icmp .ge 12, 3) := D104 10 rfl rfl rfl
theorem d104_21 : decode (am_mc 104) 21 = .ok (.aload_n 0, 1) := D104 11 rfl rfl rfl
theorem d104_22 : decode (am_mc 104) 22 = .ok (.getfield 40, 3) := D104 12 rfl rfl rfl
theorem d104_25 : decode (am_mc 104) 25 = .ok (.iload_n 1, 1) := D104 13 rfl rfl rfl
theorem d104_26 : decode (am_mc 104) 26 = .ok (.iaload, 1) := D104 14 rfl rfl rfl
theorem d104_27 : decode (am_mc 104) 27 = .ok (.goto 4, 3) := D104 15 rfl rfl rfl
theorem d104_30 : decode (am_mc 104) 30 = .ok (.iconst 0, 1) := D104 16 rfl rfl rfl
theorem d104_31 : decode (am_mc 104) 31 = .ok (.ireturn, 1) := D104 17 rfl rfl rfl
theorem ml104 : ∀ n, n < 2 → n < am_ml 104 := fun _ h => h
theorem mo104 : am_mo 104 = 6 := by decide +kernel
theorem mr104 : am_mr 104 = some .int := by decide +kernel
theorem rg104 : am_rcg 104 = 7 := by decide +kernel
def fn104 (o : Nat) (a : Int) (μ : am_M) : Option (Int × am_M) := (if a < 0 then some (0, μ) else (if a < μ o 11 then (if a < ((am_len (am_ref o 7) : Nat) : Int) then (if (0 : Int) ≤ a ∧ a < ((am_len (am_ref o 7) : Nat) : Int) then some (μ (am_ref o 7) (a : Int).toNat, μ) else none) else some (0, μ)) else some (0, μ)))
def sp104 : am_F := fun vs μ => am_aR 6 vs fun o vs => am_aI vs fun a vs => am_a0 vs (fn104 o a μ)
theorem e104 (o : Nat) (a : Int) (μ : am_M) : sp104 [.inr (.inr (6, o)), .inl a] μ = fn104 o a μ := am_aR_c.trans (am_aI_c.trans am_a0_c)
theorem sd104 : am_Sd 104 sp104 := by
  refine am_Sd_of (by decide) (fun vs μ μ' x h hv hM => ?_)
  obtain ⟨o, vs0, rfl, h0⟩ := am_aR_s h
  obtain ⟨a, vs1, rfl, h1⟩ := am_aI_s h0
  obtain ⟨rfl, hz⟩ := am_a0_s h1
  refine ⟨Nat.le_of_ble_eq_true rfl, fun X C hG hr => ?_⟩
  have h := hz
  unfold fn104 at h
  exact (show am_W X C 104 _ 0 0 0 [(0, .inr (.inr (6, o))), (1, .inl a)] [] μ from (am_c_iload_n hG (pc := 0) d104_0 rfl (x_if_lt (tgt := 30) hG (pc := 1) d104_1 rfl h (fun h => (am_c_iconst hG (pc := 30) d104_30 (by decide) (xq_iret hG (by decide) hr (pc := 31) d104_31 mr104 (am_q0 h)))) (fun h => (am_c_iload_n hG (pc := 4) d104_4 rfl (am_c_aload_n hG (pc := 5) d104_5 rfl (x_get_n (v := .inl (μ o 11)) hG (pc := 6) d104_6 mo104 f6_69 rfl (x_icmp_ge (tgt := 30) hG (pc := 9) d104_9 rfl h (fun h => (am_c_iconst hG (pc := 30) d104_30 (by decide) (xq_iret hG (by decide) hr (pc := 31) d104_31 mr104 (am_q0 h)))) (fun h => (am_c_iload_n hG (pc := 12) d104_12 rfl (am_c_aload_n hG (pc := 13) d104_13 rfl (x_get_n (v := .inr (.inr (16, am_ref o 7))) hG (pc := 14) d104_14 mo104 f6_40 rfl (am_c_len hG (pc := 17) d104_17 (by decide) (x_icmp_ge (tgt := 30) hG (pc := 18) d104_18 rfl h (fun h => (am_c_iconst hG (pc := 30) d104_30 (by decide) (xq_iret hG (by decide) hr (pc := 31) d104_31 mr104 (am_q0 h)))) (fun h => (am_c_aload_n hG (pc := 21) d104_21 rfl (x_get_n (v := .inr (.inr (16, am_ref o 7))) hG (pc := 22) d104_22 mo104 f6_40 rfl (am_c_iload_n hG (pc := 25) d104_25 rfl (x_iaload hG (pc := 26) d104_26 h (fun h => (x_goto (tgt := 31) hG (pc := 27) d104_27 rfl (xq_iret hG (by decide) hr (pc := 31) d104_31 mr104 (am_q0 h)))))))))))))))))))))))
/-! ChartPress$Groups.segment(II)J -/
theorem D105 (k : Nat) {pc : Nat} {i : Instr} (h : tbi105[k]? = some (pc, i)) (hs : am_isw i = false) {n : Nat} (hn : am_il i = n) : decode (am_mc 105) pc = .ok (i, n) := am_d2 (by decide) (by decide) rfl h hs hn
theorem d105_0 : decode (am_mc 105) 0 = .ok (.iload_n 2, 1) := D105 0 rfl rfl rfl
theorem d105_1 : decode (am_mc 105) 1 = .ok (.ifCond .lt 27, 3) := D105 1 rfl rfl rfl
theorem d105_4 : decode (am_mc 105) 4 = .ok (.iload_n 2, 1) := D105 2 rfl rfl rfl
theorem d105_5 : decode (am_mc 105) 5 = .ok (.bipush 12, 2) := D105 3 rfl rfl rfl
theorem d105_7 : decode (am_mc 105) 7 = .ok (.if_icmp .ge 21, 3) := D105 4 rfl rfl rfl
theorem d105_10 : decode (am_mc 105) 10 = .ok (.aload_n 0, 1) := D105 5 rfl rfl rfl
theorem d105_11 : decode (am_mc 105) 11 = .ok (.getfield 30, 3) := D105 6 rfl rfl rfl
theorem d105_14 : decode (am_mc 105) 14 = .ok (.aload_n 0, 1) := D105 7 rfl rfl rfl
theorem d105_15 : decode (am_mc 105) 15 = .ok (.iload_n 1, 1) := D105 8 rfl rfl rfl
theorem d105_16 : decode (am_mc 105) 16 = .ok (.invokevirtual 160, 3) := D105 9 rfl rfl rfl
theorem d105_19 : decode (am_mc 105) 19 = .ok (.bipush 12, 2) := D105 10 rfl rfl rfl
theorem d105_21 : decode (am_mc 105) 21 = .ok (.imul, 1) := D105 11 rfl rfl rfl
theorem d105_22 : decode (am_mc 105) 22 = .ok (.iload_n 2, 1) := D105 12 rfl rfl rfl
theorem d105_23 : decode (am_mc 105) 23 = .ok (.iadd, 1) := D105 13 rfl rfl rfl
theorem d105_24 : decode (am_mc 105) 24 = .ok (.laload, 1) := D105 14 rfl rfl rfl
theorem d105_25 : decode (am_mc 105) 25 = .ok (.goto 4, 3) := D105 15 rfl rfl rfl
theorem d105_28 : decode (am_mc 105) 28 = .ok (.lconst 0, 1) := D105 16 rfl rfl rfl
theorem d105_29 : decode (am_mc 105) 29 = .ok (.lreturn, 1) := D105 17 rfl rfl rfl
theorem ml105 : ∀ n, n < 3 → n < am_ml 105 := fun _ h => h
theorem mo105 : am_mo 105 = 6 := by decide +kernel
theorem rk105 : am_rk 105 = 2 := by decide +kernel
theorem rg105 : am_rcg 105 = 7 := by decide +kernel
theorem m6_160 : tb_m 6 160 = some (104, 2, 1, 0) := by decide +kernel
theorem dp105_104 : am_md 104 + 1 ≤ am_md 105 ∧ 8 + (am_ml 104 + 11) + am_lr 104 ≤ am_lr 105 := by decide +kernel
def fn105 (o : Nat) (a : Int) (b : Int) (μ : am_M) : Option (Int × am_M) := (if b < 0 then some (0, μ) else (if b < 12 then (am_op (fn104 o a μ) (fun z1 => (if (0 : Int) ≤ w32 ((w32 (z1.1 * 12)) + b) ∧ w32 ((w32 (z1.1 * 12)) + b) < ((am_len (am_ref o 4) : Nat) : Int) then some (z1.2 (am_ref o 4) (w32 ((w32 (z1.1 * 12)) + b) : Int).toNat, z1.2) else none))) else some (0, μ)))
def sp105 : am_F := fun vs μ => am_aR 6 vs fun o vs => am_aI vs fun a vs => am_aI vs fun b vs => am_a0 vs (fn105 o a b μ)
theorem e105 (o : Nat) (a : Int) (b : Int) (μ : am_M) : sp105 [.inr (.inr (6, o)), .inl a, .inl b] μ = fn105 o a b μ := am_aR_c.trans (am_aI_c.trans (am_aI_c.trans am_a0_c))
theorem sd105 : am_Sd 105 sp105 := by
  refine am_Sd_of (by decide) (fun vs μ μ' x h hv hM => ?_)
  obtain ⟨o, vs0, rfl, h0⟩ := am_aR_s h
  obtain ⟨a, vs1, rfl, h1⟩ := am_aI_s h0
  obtain ⟨b, vs2, rfl, h2⟩ := am_aI_s h1
  obtain ⟨rfl, hz⟩ := am_a0_s h2
  refine ⟨Nat.le_of_ble_eq_true rfl, fun X C hG hr => ?_⟩
  have h := hz
  unfold fn105 at h
  exact (show am_W X C 105 _ 0 0 0 [(0, .inr (.inr (6, o))), (1, .inl a), (2, .inl b)] [] μ from (am_c_iload_n hG (pc := 0) d105_0 rfl (x_if_lt (tgt := 28) hG (pc := 1) d105_1 rfl h (fun h => (am_c_lconst hG (pc := 28) d105_28 (xq_lret hG (by decide) hr (pc := 29) d105_29 rk105 (am_q0 h)))) (fun h => (am_c_iload_n hG (pc := 4) d105_4 rfl (am_c_bipush hG (pc := 5) d105_5 (by decide) (x_icmp_ge (tgt := 28) hG (pc := 7) d105_7 rfl h (fun h => (am_c_lconst hG (pc := 28) d105_28 (xq_lret hG (by decide) hr (pc := 29) d105_29 rk105 (am_q0 h)))) (fun h => (am_c_aload_n hG (pc := 10) d105_10 rfl (x_get_n (v := .inr (.inr (17, am_ref o 4))) hG (pc := 11) d105_11 mo105 f6_30 rfl (am_c_aload_n hG (pc := 14) d105_14 rfl (am_c_iload_n hG (pc := 15) d105_15 rfl (x_virtual_i (t := 6) (o := o) (as2 := [.inl a]) (rest := [.inr (.inr (17, am_ref o 4))]) hG (pc := 16) d105_16 mo105 m6_160 (by decide) dp105_104 rfl rfl (Nat.le_of_ble_eq_true rfl) (Nat.le_of_ble_eq_true rfl) rg104 sd104 (e104 _ _ _) h (fun z1 h => (am_c_bipush hG (pc := 19) d105_19 (by decide) (am_c_imul hG (pc := 21) d105_21 (am_c_iload_n hG (pc := 22) d105_22 rfl (am_c_iadd hG (pc := 23) d105_23 (x_laload hG (pc := 24) d105_24 h (fun h => (x_goto (tgt := 29) hG (pc := 25) d105_25 rfl (xq_lret hG (by decide) hr (pc := 29) d105_29 rk105 (am_q0 h)))))))))))))))))))))))
/-! java/lang/Math.min(JJ)J -/
theorem D106 (k : Nat) {pc : Nat} {i : Instr} (h : tbi106[k]? = some (pc, i)) (hs : am_isw i = false) {n : Nat} (hn : am_il i = n) : decode (am_mc 106) pc = .ok (i, n) := am_d2 (by decide) (by decide) rfl h hs hn
theorem d106_0 : decode (am_mc 106) 0 = .ok (.lload_n 0, 1) := D106 0 rfl rfl rfl
theorem d106_1 : decode (am_mc 106) 1 = .ok (.lload_n 2, 1) := D106 1 rfl rfl rfl
theorem d106_2 : decode (am_mc 106) 2 = .ok (.lcmp, 1) := D106 2 rfl rfl rfl
theorem d106_3 : decode (am_mc 106) 3 = .ok (.ifCond .gt 7, 3) := D106 3 rfl rfl rfl
theorem d106_6 : decode (am_mc 106) 6 = .ok (.lload_n 0, 1) := D106 4 rfl rfl rfl
theorem d106_7 : decode (am_mc 106) 7 = .ok (.goto 4, 3) := D106 5 rfl rfl rfl
theorem d106_10 : decode (am_mc 106) 10 = .ok (.lload_n 2, 1) := D106 6 rfl rfl rfl
theorem d106_11 : decode (am_mc 106) 11 = .ok (.lreturn, 1) := D106 7 rfl rfl rfl
theorem ml106 : ∀ n, n < 4 → n < am_ml 106 := fun _ h => h
theorem mo106 : am_mo 106 = 13 := by decide +kernel
theorem rk106 : am_rk 106 = 2 := by decide +kernel
theorem rg106 : am_rcg 106 = 0 := by decide +kernel
def fn106 (a : Int) (b : Int) (μ : am_M) : Option (Int × am_M) := (if 0 < o_cmp a b then some (b, μ) else some (a, μ))
def sp106 : am_F := fun vs μ => am_aJ vs fun a vs => am_aJ vs fun b vs => am_a0 vs (fn106 a b μ)
theorem e106 (a : Int) (b : Int) (μ : am_M) : sp106 [.inr (.inl a), .inr (.inl b)] μ = fn106 a b μ := am_aJ_c.trans (am_aJ_c.trans am_a0_c)
theorem sd106 : am_Sd 106 sp106 := by
  refine am_Sd_of (by decide) (fun vs μ μ' x h hv hM => ?_)
  obtain ⟨a, vs0, rfl, h0⟩ := am_aJ_s h
  obtain ⟨b, vs1, rfl, h1⟩ := am_aJ_s h0
  obtain ⟨rfl, hz⟩ := am_a0_s h1
  refine ⟨Nat.le_of_ble_eq_true rfl, fun X C hG hr => ?_⟩
  have h := hz
  unfold fn106 at h
  exact (show am_W X C 106 _ 0 0 0 [(0, .inr (.inl a)), (2, .inr (.inl b))] [] μ from (am_c_lload_n hG (pc := 0) d106_0 rfl (am_c_lload_n hG (pc := 1) d106_1 rfl (am_c_lcmp hG (pc := 2) d106_2 (x_if_gt (tgt := 10) hG (pc := 3) d106_3 rfl h (fun h => (am_c_lload_n hG (pc := 10) d106_10 rfl (xq_lret hG (by decide) hr (pc := 11) d106_11 rk106 (am_q0 h)))) (fun h => (am_c_lload_n hG (pc := 6) d106_6 rfl (x_goto (tgt := 11) hG (pc := 7) d106_7 rfl (xq_lret hG (by decide) hr (pc := 11) d106_11 rk106 (am_q0 h))))))))))
/-! java/lang/Math.max(JJ)J -/
theorem D107 (k : Nat) {pc : Nat} {i : Instr} (h : tbi107[k]? = some (pc, i)) (hs : am_isw i = false) {n : Nat} (hn : am_il i = n) : decode (am_mc 107) pc = .ok (i, n) := am_d2 (by decide) (by decide) rfl h hs hn
theorem d107_0 : decode (am_mc 107) 0 = .ok (.lload_n 0, 1) := D107 0 rfl rfl rfl
theorem d107_1 : decode (am_mc 107) 1 = .ok (.lload_n 2, 1) := D107 1 rfl rfl rfl
theorem d107_2 : decode (am_mc 107) 2 = .ok (.lcmp, 1) := D107 2 rfl rfl rfl
theorem d107_3 : decode (am_mc 107) 3 = .ok (.ifCond .lt 7, 3) := D107 3 rfl rfl rfl
theorem d107_6 : decode (am_mc 107) 6 = .ok (.lload_n 0, 1) := D107 4 rfl rfl rfl
theorem d107_7 : decode (am_mc 107) 7 = .ok (.goto 4, 3) := D107 5 rfl rfl rfl
theorem d107_10 : decode (am_mc 107) 10 = .ok (.lload_n 2, 1) := D107 6 rfl rfl rfl
theorem d107_11 : decode (am_mc 107) 11 = .ok (.lreturn, 1) := D107 7 rfl rfl rfl
theorem ml107 : ∀ n, n < 4 → n < am_ml 107 := fun _ h => h
theorem mo107 : am_mo 107 = 13 := by decide +kernel
theorem rk107 : am_rk 107 = 2 := by decide +kernel
theorem rg107 : am_rcg 107 = 0 := by decide +kernel
def fn107 (a : Int) (b : Int) (μ : am_M) : Option (Int × am_M) := (if o_cmp a b < 0 then some (b, μ) else some (a, μ))
def sp107 : am_F := fun vs μ => am_aJ vs fun a vs => am_aJ vs fun b vs => am_a0 vs (fn107 a b μ)
theorem e107 (a : Int) (b : Int) (μ : am_M) : sp107 [.inr (.inl a), .inr (.inl b)] μ = fn107 a b μ := am_aJ_c.trans (am_aJ_c.trans am_a0_c)
theorem sd107 : am_Sd 107 sp107 := by
  refine am_Sd_of (by decide) (fun vs μ μ' x h hv hM => ?_)
  obtain ⟨a, vs0, rfl, h0⟩ := am_aJ_s h
  obtain ⟨b, vs1, rfl, h1⟩ := am_aJ_s h0
  obtain ⟨rfl, hz⟩ := am_a0_s h1
  refine ⟨Nat.le_of_ble_eq_true rfl, fun X C hG hr => ?_⟩
  have h := hz
  unfold fn107 at h
  exact (show am_W X C 107 _ 0 0 0 [(0, .inr (.inl a)), (2, .inr (.inl b))] [] μ from (am_c_lload_n hG (pc := 0) d107_0 rfl (am_c_lload_n hG (pc := 1) d107_1 rfl (am_c_lcmp hG (pc := 2) d107_2 (x_if_lt (tgt := 10) hG (pc := 3) d107_3 rfl h (fun h => (am_c_lload_n hG (pc := 10) d107_10 rfl (xq_lret hG (by decide) hr (pc := 11) d107_11 rk107 (am_q0 h)))) (fun h => (am_c_lload_n hG (pc := 6) d107_6 rfl (x_goto (tgt := 11) hG (pc := 7) d107_7 rfl (xq_lret hG (by decide) hr (pc := 11) d107_11 rk107 (am_q0 h))))))))))
/-! ChartPress$Scale.findEndsOfBars(LChartPress$Groups;)V -/
theorem D108 (k : Nat) {pc : Nat} {i : Instr} (h : tbi108[k]? = some (pc, i)) (hs : am_isw i = false) {n : Nat} (hn : am_il i = n) : decode (am_mc 108) pc = .ok (i, n) := am_d2 (by decide) (by decide) rfl h hs hn
theorem d108_0 : decode (am_mc 108) 0 = .ok (.aload_n 0, 1) := D108 0 rfl rfl rfl
theorem d108_1 : decode (am_mc 108) 1 = .ok (.lconst 0, 1) := D108 1 rfl rfl rfl
theorem d108_2 : decode (am_mc 108) 2 = .ok (.putfield 24, 3) := D108 2 rfl rfl rfl
theorem d108_5 : decode (am_mc 108) 5 = .ok (.aload_n 0, 1) := D108 3 rfl rfl rfl
theorem d108_6 : decode (am_mc 108) 6 = .ok (.lconst 0, 1) := D108 4 rfl rfl rfl
theorem d108_7 : decode (am_mc 108) 7 = .ok (.putfield 28, 3) := D108 5 rfl rfl rfl
theorem d108_10 : decode (am_mc 108) 10 = .ok (.iconst 0, 1) := D108 6 rfl rfl rfl
theorem d108_11 : decode (am_mc 108) 11 = .ok (.istore_n 2, 1) := D108 7 rfl rfl rfl
theorem d108_12 : decode (am_mc 108) 12 = .ok (.iload_n 2, 1) := D108 8 rfl rfl rfl
theorem d108_13 : decode (am_mc 108) 13 = .ok (.aload_n 1, 1) := D108 9 rfl rfl rfl
theorem d108_14 : decode (am_mc 108) 14 = .ok (.invokevirtual 40, 3) := D108 10 rfl rfl rfl
theorem d108_17 : decode (am_mc 108) 17 = .ok (.if_icmp .ge 86, 3) := D108 11 rfl rfl rfl
theorem d108_20 : decode (am_mc 108) 20 = .ok (.lconst 0, 1) := D108 12 rfl rfl rfl
theorem d108_21 : decode (am_mc 108) 21 = .ok (.lstore_n 3, 1) := D108 13 rfl rfl rfl
theorem d108_22 : decode (am_mc 108) 22 = .ok (.lconst 0, 1) := D108 14 rfl rfl rfl
theorem d108_23 : decode (am_mc 108) 23 = .ok (.lstore 5, 2) := D108 15 rfl rfl rfl
theorem d108_25 : decode (am_mc 108) 25 = .ok (.iconst 0, 1) := D108 16 rfl rfl rfl
theorem d108_26 : decode (am_mc 108) 26 = .ok (.istore 7, 2) := D108 17 rfl rfl rfl
theorem d108_28 : decode (am_mc 108) 28 = .ok (.iload 7, 2) := D108 18 rfl rfl rfl
theorem d108_30 : decode (am_mc 108) 30 = .ok (.aload_n 1, 1) := D108 19 rfl rfl rfl
theorem d108_31 : decode (am_mc 108) 31 = .ok (.invokevirtual 45, 3) := D108 20 rfl rfl rfl
theorem d108_34 : decode (am_mc 108) 34 = .ok (.if_icmp .ge 38, 3) := D108 21 rfl rfl rfl
theorem d108_37 : decode (am_mc 108) 37 = .ok (.aload_n 1, 1) := D108 22 rfl rfl rfl
theorem d108_38 : decode (am_mc 108) 38 = .ok (.iload_n 2, 1) := D108 23 rfl rfl rfl
theorem d108_39 : decode (am_mc 108) 39 = .ok (.iload 7, 2) := D108 24 rfl rfl rfl
theorem d108_41 : decode (am_mc 108) 41 = .ok (.invokevirtual 48, 3) := D108 25 rfl rfl rfl
theorem d108_44 : decode (am_mc 108) 44 = .ok (.lstore 8, 2) := D108 26 rfl rfl rfl
theorem d108_46 : decode (am_mc 108) 46 = .ok (.lload_n 3, 1) := D108 27 rfl rfl rfl
theorem d108_47 : decode (am_mc 108) 47 = .ok (.lload 8, 2) := D108 28 rfl rfl rfl
theorem d108_49 : decode (am_mc 108) 49 = .ok (.lconst 0, 1) := D108 29 rfl rfl rfl
theorem d108_50 : decode (am_mc 108) 50 = .ok (.invokestatic 52, 3) := D108 30 rfl rfl rfl
theorem d108_53 : decode (am_mc 108) 53 = .ok (.ladd, 1) := D108 31 rfl rfl rfl
theorem d108_54 : decode (am_mc 108) 54 = .ok (.lstore_n 3, 1) := D108 32 rfl rfl rfl
theorem d108_55 : decode (am_mc 108) 55 = .ok (.lload 5, 2) := D108 33 rfl rfl rfl
theorem d108_57 : decode (am_mc 108) 57 = .ok (.lload 8, 2) := D108 34 rfl rfl rfl
theorem d108_59 : decode (am_mc 108) 59 = .ok (.lconst 0, 1) := D108 35 rfl rfl rfl
theorem d108_60 : decode (am_mc 108) 60 = .ok (.invokestatic 58, 3) := D108 36 rfl rfl rfl
theorem d108_63 : decode (am_mc 108) 63 = .ok (.ladd, 1) := D108 37 rfl rfl rfl
theorem d108_64 : decode (am_mc 108) 64 = .ok (.lstore 5, 2) := D108 38 rfl rfl rfl
theorem d108_66 : decode (am_mc 108) 66 = .ok (.iinc 7 1, 3) := D108 39 rfl rfl rfl
theorem d108_69 : decode (am_mc 108) 69 = .ok (.goto (-41), 3) := D108 40 rfl rfl rfl
theorem d108_72 : decode (am_mc 108) 72 = .ok (.aload_n 0, 1) := D108 41 rfl rfl rfl
theorem d108_73 : decode (am_mc 108) 73 = .ok (.aload_n 0, 1) := D108 42 rfl rfl rfl
theorem d108_74 : decode (am_mc 108) 74 = .ok (.getfield 24, 3) := D108 43 rfl rfl rfl
theorem d108_77 : decode (am_mc 108) 77 = .ok (.lload_n 3, 1) := D108 44 rfl rfl rfl
theorem d108_78 : decode (am_mc 108) 78 = .ok (.invokestatic 52, 3) := D108 45 rfl rfl rfl
theorem d108_81 : decode (am_mc 108) 81 = .ok (.putfield 24, 3) := D108 46 rfl rfl rfl
theorem d108_84 : decode (am_mc 108) 84 = .ok (.aload_n 0, 1) := D108 47 rfl rfl rfl
theorem d108_85 : decode (am_mc 108) 85 = .ok (.aload_n 0, 1) := D108 48 rfl rfl rfl
theorem d108_86 : decode (am_mc 108) 86 = .ok (.getfield 28, 3) := D108 49 rfl rfl rfl
theorem d108_89 : decode (am_mc 108) 89 = .ok (.lload 5, 2) := D108 50 rfl rfl rfl
theorem d108_91 : decode (am_mc 108) 91 = .ok (.invokestatic 58, 3) := D108 51 rfl rfl rfl
theorem d108_94 : decode (am_mc 108) 94 = .ok (.putfield 28, 3) := D108 52 rfl rfl rfl
theorem d108_97 : decode (am_mc 108) 97 = .ok (.iinc 2 1, 3) := D108 53 rfl rfl rfl
theorem d108_100 : decode (am_mc 108) 100 = .ok (.goto (-88), 3) := D108 54 rfl rfl rfl
theorem d108_103 : decode (am_mc 108) 103 = .ok (.return_, 1) := D108 55 rfl rfl rfl
theorem ml108 : ∀ n, n < 10 → n < am_ml 108 := fun _ h => h
theorem mo108 : am_mo 108 = 8 := by decide +kernel
theorem rk108 : am_rk 108 = 0 := by decide +kernel
theorem rg108 : am_rcg 108 = 9 := by decide +kernel
theorem f8_24 : tb_f 8 24 = some (8, 0, 1, 0) := by decide +kernel
theorem f8_28 : tb_f 8 28 = some (8, 1, 1, 0) := by decide +kernel
theorem m8_40 : tb_m 8 40 = some (101, 1, 1, 0) := by decide +kernel
theorem m8_45 : tb_m 8 45 = some (103, 1, 1, 0) := by decide +kernel
theorem m8_48 : tb_m 8 48 = some (105, 3, 2, 0) := by decide +kernel
theorem m8_52 : tb_m 8 52 = some (106, 2, 2, 0) := by decide +kernel
theorem m8_58 : tb_m 8 58 = some (107, 2, 2, 0) := by decide +kernel
theorem dp108_101 : am_md 101 + 1 ≤ am_md 108 ∧ 8 + (am_ml 101 + 11) + am_lr 101 ≤ am_lr 108 := by decide +kernel
theorem dp108_103 : am_md 103 + 1 ≤ am_md 108 ∧ 8 + (am_ml 103 + 11) + am_lr 103 ≤ am_lr 108 := by decide +kernel
theorem dp108_105 : am_md 105 + 1 ≤ am_md 108 ∧ 8 + (am_ml 105 + 11) + am_lr 105 ≤ am_lr 108 := by decide +kernel
theorem dp108_106 : am_md 106 + 1 ≤ am_md 108 ∧ 8 + (am_ml 106 + 11) + am_lr 106 ≤ am_lr 108 := by decide +kernel
theorem dp108_107 : am_md 107 + 1 ≤ am_md 108 ∧ 8 + (am_ml 107 + 11) + am_lr 107 ≤ am_lr 108 := by decide +kernel
def L108_28 (l0 : Nat) (l1 : Nat) (l2 : Int) : Nat → Int → Int → Int → am_M → Option ((Int × am_M) ⊕ (Int × Int × Int × am_M))
  | 0, _, _, _, _ => none
  | n + 1, l3, l5, l7, μ => (am_op (fn103 l1 μ) (fun z2 => (if l7 < z2.1 then (am_op (fn105 l1 l2 l7 z2.2) (fun z3 => (am_op (fn106 z3.1 0 z3.2) (fun z4 => (am_op (fn107 z3.1 0 z4.2) (fun z5 => (L108_28 l0 l1 l2 n (w64 (l3 + z4.1)) (w64 (l5 + z5.1)) (w32 (l7 + 1)) z5.2))))))) else (some (.inr (l3, l5, l7, z2.2))))))
theorem w108_28 {X : am_K} {C : am_C} {Q : State → Prop} (hG : am_G X C 108 0 0 (0, fun _ => 0)) (hr : match X with | (_, _, _, _, _, _, _, _, meth, _) => meth.sig.returnType = am_mr 108 ∧ meth.locks = false) (l0 : Nat) (l1 : Nat) (l2 : Int) : ∀ (n : Nat) (l3 : Int) (l5 : Int) (l7 : Int) (μ : am_M) (r : (Int × am_M) ⊕ (Int × Int × Int × am_M)), L108_28 l0 l1 l2 n l3 l5 l7 μ = some r → (∀ q, r = .inl q → Q = am_E X C 108 q.1 q.2) → (∀ t, r = .inr t → am_W X C 108 Q 0 0 72 [(0, .inr (.inr (8, l0))), (1, .inr (.inr (6, l1))), (2, .inl l2), (3, .inr (.inl t.1)), (5, .inr (.inl t.2.1))] [] t.2.2.2) → am_W X C 108 Q 0 0 28 [(0, .inr (.inr (8, l0))), (1, .inr (.inr (6, l1))), (2, .inl l2), (3, .inr (.inl l3)), (5, .inr (.inl l5)), (7, .inl l7)] [] μ := by
  intro n
  induction n with
  | zero => intro l3 l5 l7 μ r h; cases h
  | succ n ih =>
    intro l3 l5 l7 μ r h hI hX
    unfold L108_28 at h
    exact (am_c_iload hG (pc := 28) d108_28 rfl (am_c_aload_n hG (pc := 30) d108_30 rfl (x_virtual_i (t := 6) (o := l1) (as2 := []) (rest := [.inl l7]) hG (pc := 31) d108_31 mo108 m8_45 (by decide) dp108_103 rfl rfl (Nat.le_of_ble_eq_true rfl) (Nat.le_of_ble_eq_true rfl) rg103 sd103 (e103 _ _) h (fun z2 h => (x_icmp_ge (tgt := 72) hG (pc := 34) d108_34 rfl h (fun h => (am_lvw (lv2 := [(0, .inr (.inr (8, l0))), (1, .inr (.inr (6, l1))), (2, .inl l2), (3, .inr (.inl l3)), (5, .inr (.inl l5))]) [0, 1, 2, 3, 4] rfl (hX (l3, l5, l7, z2.2) (Option.some.inj h).symm))) (fun h => (am_c_aload_n hG (pc := 37) d108_37 rfl (am_c_iload_n hG (pc := 38) d108_38 rfl (am_c_iload hG (pc := 39) d108_39 rfl (x_virtual_l (t := 6) (o := l1) (as2 := [.inl l2, .inl l7]) (rest := []) hG (pc := 41) d108_41 mo108 m8_48 (by decide) dp108_105 rfl rfl (Nat.le_of_ble_eq_true rfl) (Nat.le_of_ble_eq_true rfl) rg105 sd105 (e105 _ _ _ _) h (fun z3 h => (x_lstore (lv' := [(8, .inr (.inl z3.1)), (0, .inr (.inr (8, l0))), (1, .inr (.inr (6, l1))), (2, .inl l2), (3, .inr (.inl l3)), (5, .inr (.inl l5)), (7, .inl l7)]) hG (pc := 44) d108_44 (ml108 _ (by decide)) rfl (am_c_lload_n hG (pc := 46) d108_46 rfl (am_c_lload hG (pc := 47) d108_47 rfl (am_c_lconst hG (pc := 49) d108_49 (x_static_l (as := [.inr (.inl z3.1), .inr (.inl 0)]) (rest := [.inr (.inl l3)]) hG (pc := 50) d108_50 mo108 m8_52 (by decide) dp108_106 rfl rfl (Nat.le_of_ble_eq_true rfl) (Nat.le_of_ble_eq_true rfl) rg106 sd106 (e106 _ _ _) h (fun z4 h => (am_c_ladd hG (pc := 53) d108_53 (x_lstore_n (lv' := [(3, .inr (.inl (w64 (l3 + z4.1)))), (8, .inr (.inl z3.1)), (0, .inr (.inr (8, l0))), (1, .inr (.inr (6, l1))), (2, .inl l2), (5, .inr (.inl l5)), (7, .inl l7)]) hG (pc := 54) d108_54 (ml108 _ (by decide)) rfl (am_c_lload hG (pc := 55) d108_55 rfl (am_c_lload hG (pc := 57) d108_57 rfl (am_c_lconst hG (pc := 59) d108_59 (x_static_l (as := [.inr (.inl z3.1), .inr (.inl 0)]) (rest := [.inr (.inl l5)]) hG (pc := 60) d108_60 mo108 m8_58 (by decide) dp108_107 rfl rfl (Nat.le_of_ble_eq_true rfl) (Nat.le_of_ble_eq_true rfl) rg107 sd107 (e107 _ _ _) h (fun z5 h => (am_c_ladd hG (pc := 63) d108_63 (x_lstore (lv' := [(5, .inr (.inl (w64 (l5 + z5.1)))), (3, .inr (.inl (w64 (l3 + z4.1)))), (8, .inr (.inl z3.1)), (0, .inr (.inr (8, l0))), (1, .inr (.inr (6, l1))), (2, .inl l2), (7, .inl l7)]) hG (pc := 64) d108_64 (ml108 _ (by decide)) rfl (x_iinc (lv' := [(7, .inl (w32 (l7 + 1))), (5, .inr (.inl (w64 (l5 + z5.1)))), (3, .inr (.inl (w64 (l3 + z4.1)))), (8, .inr (.inl z3.1)), (0, .inr (.inr (8, l0))), (1, .inr (.inr (6, l1))), (2, .inl l2)]) hG (pc := 66) d108_66 rfl (ml108 _ (by decide)) rfl (x_goto (tgt := 28) hG (pc := 69) d108_69 rfl (am_lvw (lv2 := [(0, .inr (.inr (8, l0))), (1, .inr (.inr (6, l1))), (2, .inl l2), (3, .inr (.inl (w64 (l3 + z4.1)))), (5, .inr (.inl (w64 (l5 + z5.1)))), (7, .inl (w32 (l7 + 1)))]) [4, 5, 6, 2, 1, 0] rfl (ih _ _ _ _ _ h hI hX))))))))))))))))))))))))))))))
def L108_12 (l0 : Nat) (l1 : Nat) : Nat → Int → am_M → Option ((Int × am_M) ⊕ (Int × am_M))
  | 0, _, _ => none
  | n + 1, l2, μ => (am_op (fn101 l1 μ) (fun z1 => (if l2 < z1.1 then (am_op (L108_28 l0 l1 l2 am_fuel 0 0 0 z1.2) (fun s => am_lp s (fun q1 => some (.inl q1)) (fun t1 => (am_op (fn106 (t1.2.2.2 l0 0) t1.1 t1.2.2.2) (fun z6 => (am_op (fn107 ((am_up z6.2 l0 0 z6.1) l0 1) t1.2.1 (am_up z6.2 l0 0 z6.1)) (fun z7 => (L108_12 l0 l1 n (w32 (l2 + 1)) (am_up z7.2 l0 1 z7.1))))))))) else (some (.inr (l2, z1.2))))))
theorem w108_12 {X : am_K} {C : am_C} {Q : State → Prop} (hG : am_G X C 108 0 0 (0, fun _ => 0)) (hr : match X with | (_, _, _, _, _, _, _, _, meth, _) => meth.sig.returnType = am_mr 108 ∧ meth.locks = false) (l0 : Nat) (l1 : Nat) : ∀ (n : Nat) (l2 : Int) (μ : am_M) (r : (Int × am_M) ⊕ (Int × am_M)), L108_12 l0 l1 n l2 μ = some r → (∀ q, r = .inl q → Q = am_E X C 108 q.1 q.2) → (∀ t, r = .inr t → am_W X C 108 Q 0 0 103 [] [] t.2) → am_W X C 108 Q 0 0 12 [(0, .inr (.inr (8, l0))), (1, .inr (.inr (6, l1))), (2, .inl l2)] [] μ := by
  intro n
  induction n with
  | zero => intro l2 μ r h; cases h
  | succ n ih =>
    intro l2 μ r h hI hX
    unfold L108_12 at h
    exact (am_c_iload_n hG (pc := 12) d108_12 rfl (am_c_aload_n hG (pc := 13) d108_13 rfl (x_virtual_i (t := 6) (o := l1) (as2 := []) (rest := [.inl l2]) hG (pc := 14) d108_14 mo108 m8_40 (by decide) dp108_101 rfl rfl (Nat.le_of_ble_eq_true rfl) (Nat.le_of_ble_eq_true rfl) rg101 sd101 (e101 _ _) h (fun z1 h => (x_icmp_ge (tgt := 103) hG (pc := 17) d108_17 rfl h (fun h => (am_lvw (lv2 := []) [] rfl (hX (l2, z1.2) (Option.some.inj h).symm))) (fun h => (am_c_lconst hG (pc := 20) d108_20 (x_lstore_n (lv' := [(3, .inr (.inl 0)), (0, .inr (.inr (8, l0))), (1, .inr (.inr (6, l1))), (2, .inl l2)]) hG (pc := 21) d108_21 (ml108 _ (by decide)) rfl (am_c_lconst hG (pc := 22) d108_22 (x_lstore (lv' := [(5, .inr (.inl 0)), (3, .inr (.inl 0)), (0, .inr (.inr (8, l0))), (1, .inr (.inr (6, l1))), (2, .inl l2)]) hG (pc := 23) d108_23 (ml108 _ (by decide)) rfl (am_c_iconst hG (pc := 25) d108_25 (by decide) (x_istore (lv' := [(7, .inl 0), (5, .inr (.inl 0)), (3, .inr (.inl 0)), (0, .inr (.inr (8, l0))), (1, .inr (.inr (6, l1))), (2, .inl l2)]) hG (pc := 26) d108_26 (ml108 _ (by decide)) rfl (x_lp h (fun r h1 h2 => (am_lvw (lv2 := [(0, .inr (.inr (8, l0))), (1, .inr (.inr (6, l1))), (2, .inl l2), (3, .inr (.inl 0)), (5, .inr (.inl 0)), (7, .inl 0)]) [3, 4, 5, 2, 1, 0] rfl (w108_28 hG hr _ _ _ _ _ _ _ _ _ h1 (fun q1 e => am_q1 e h2 (fun h => hI _ (Option.some.inj h).symm)) (fun t1 e => am_q2 e h2 (fun h => (am_c_aload_n hG (pc := 72) d108_72 rfl (am_c_aload_n hG (pc := 73) d108_73 rfl (x_get_n (v := .inr (.inl (t1.2.2.2 l0 0))) hG (pc := 74) d108_74 mo108 f8_24 rfl (am_c_lload_n hG (pc := 77) d108_77 rfl (x_static_l (as := [.inr (.inl (t1.2.2.2 l0 0)), .inr (.inl t1.1)]) (rest := [.inr (.inr (8, l0))]) hG (pc := 78) d108_78 mo108 m8_52 (by decide) dp108_106 rfl rfl (Nat.le_of_ble_eq_true rfl) (Nat.le_of_ble_eq_true rfl) rg106 sd106 (e106 _ _ _) h (fun z6 h => (x_put_l hG (pc := 81) d108_81 mo108 f8_24 (by decide) (am_c_aload_n hG (pc := 84) d108_84 rfl (am_c_aload_n hG (pc := 85) d108_85 rfl (x_get_n (v := .inr (.inl ((am_up z6.2 l0 0 z6.1) l0 1))) hG (pc := 86) d108_86 mo108 f8_28 rfl (am_c_lload hG (pc := 89) d108_89 rfl (x_static_l (as := [.inr (.inl ((am_up z6.2 l0 0 z6.1) l0 1)), .inr (.inl t1.2.1)]) (rest := [.inr (.inr (8, l0))]) hG (pc := 91) d108_91 mo108 m8_58 (by decide) dp108_107 rfl rfl (Nat.le_of_ble_eq_true rfl) (Nat.le_of_ble_eq_true rfl) rg107 sd107 (e107 _ _ _) h (fun z7 h => (x_put_l hG (pc := 94) d108_94 mo108 f8_28 (by decide) (x_iinc (lv' := [(2, .inl (w32 (l2 + 1))), (0, .inr (.inr (8, l0))), (1, .inr (.inr (6, l1))), (3, .inr (.inl t1.1)), (5, .inr (.inl t1.2.1))]) hG (pc := 97) d108_97 rfl (ml108 _ (by decide)) rfl (x_goto (tgt := 12) hG (pc := 100) d108_100 rfl (am_lvw (lv2 := [(0, .inr (.inr (8, l0))), (1, .inr (.inr (6, l1))), (2, .inl (w32 (l2 + 1)))]) [1, 2, 0] rfl (ih _ _ _ h hI hX))))))))))))))))))))))))))))))))))))
def fn108 (o : Nat) (a : Nat) (μ : am_M) : Option (Int × am_M) := (am_op (L108_12 o a am_fuel 0 (am_up (am_up μ o 0 0) o 1 0)) (fun s => am_lp s (fun q2 => some q2) (fun t2 => some (0, t2.2))))
def sp108 : am_F := fun vs μ => am_aR 8 vs fun o vs => am_aR 6 vs fun a vs => am_a0 vs (fn108 o a μ)
theorem e108 (o : Nat) (a : Nat) (μ : am_M) : sp108 [.inr (.inr (8, o)), .inr (.inr (6, a))] μ = fn108 o a μ := am_aR_c.trans (am_aR_c.trans am_a0_c)
theorem sd108 : am_Sd 108 sp108 := by
  refine am_Sd_of (by decide) (fun vs μ μ' x h hv hM => ?_)
  obtain ⟨o, vs0, rfl, h0⟩ := am_aR_s h
  obtain ⟨a, vs1, rfl, h1⟩ := am_aR_s h0
  obtain ⟨rfl, hz⟩ := am_a0_s h1
  refine ⟨Nat.le_of_ble_eq_true rfl, fun X C hG hr => ?_⟩
  have h := hz
  unfold fn108 at h
  exact (show am_W X C 108 _ 0 0 0 [(0, .inr (.inr (8, o))), (1, .inr (.inr (6, a)))] [] μ from (am_c_aload_n hG (pc := 0) d108_0 rfl (am_c_lconst hG (pc := 1) d108_1 (x_put_l hG (pc := 2) d108_2 mo108 f8_24 (by decide) (am_c_aload_n hG (pc := 5) d108_5 rfl (am_c_lconst hG (pc := 6) d108_6 (x_put_l hG (pc := 7) d108_7 mo108 f8_28 (by decide) (am_c_iconst hG (pc := 10) d108_10 (by decide) (x_istore_n (lv' := [(2, .inl 0), (0, .inr (.inr (8, o))), (1, .inr (.inr (6, a)))]) hG (pc := 11) d108_11 (ml108 _ (by decide)) rfl (x_lp h (fun r h1 h2 => (am_lvw (lv2 := [(0, .inr (.inr (8, o))), (1, .inr (.inr (6, a))), (2, .inl 0)]) [1, 2, 0] rfl (w108_12 hG hr _ _ _ _ _ _ h1 (fun q2 e => am_q1 e h2 (fun h => am_q0 h)) (fun t2 e => am_q2 e h2 (fun h => (xq_vret hG (by decide) hr (pc := 103) d108_103 rk108 (am_q0 h)))))))))))))))))
/-! ChartPress$Groups.total(I)J -/
theorem D109 (k : Nat) {pc : Nat} {i : Instr} (h : tbi109[k]? = some (pc, i)) (hs : am_isw i = false) {n : Nat} (hn : am_il i = n) : decode (am_mc 109) pc = .ok (i, n) := am_d2 (by decide) (by decide) rfl h hs hn
theorem d109_0 : decode (am_mc 109) 0 = .ok (.aload_n 0, 1) := D109 0 rfl rfl rfl
theorem d109_1 : decode (am_mc 109) 1 = .ok (.getfield 34, 3) := D109 1 rfl rfl rfl
theorem d109_4 : decode (am_mc 109) 4 = .ok (.aload_n 0, 1) := D109 2 rfl rfl rfl
theorem d109_5 : decode (am_mc 109) 5 = .ok (.iload_n 1, 1) := D109 3 rfl rfl rfl
theorem d109_6 : decode (am_mc 109) 6 = .ok (.invokevirtual 160, 3) := D109 4 rfl rfl rfl
theorem d109_9 : decode (am_mc 109) 9 = .ok (.laload, 1) := D109 5 rfl rfl rfl
theorem d109_10 : decode (am_mc 109) 10 = .ok (.lreturn, 1) := D109 6 rfl rfl rfl
theorem ml109 : ∀ n, n < 2 → n < am_ml 109 := fun _ h => h
theorem mo109 : am_mo 109 = 6 := by decide +kernel
theorem rk109 : am_rk 109 = 2 := by decide +kernel
theorem rg109 : am_rcg 109 = 7 := by decide +kernel
theorem dp109_104 : am_md 104 + 1 ≤ am_md 109 ∧ 8 + (am_ml 104 + 11) + am_lr 104 ≤ am_lr 109 := by decide +kernel
def fn109 (o : Nat) (a : Int) (μ : am_M) : Option (Int × am_M) := (am_op (fn104 o a μ) (fun z1 => (if (0 : Int) ≤ z1.1 ∧ z1.1 < ((am_len (am_ref o 5) : Nat) : Int) then some (z1.2 (am_ref o 5) (z1.1 : Int).toNat, z1.2) else none)))
def sp109 : am_F := fun vs μ => am_aR 6 vs fun o vs => am_aI vs fun a vs => am_a0 vs (fn109 o a μ)
theorem e109 (o : Nat) (a : Int) (μ : am_M) : sp109 [.inr (.inr (6, o)), .inl a] μ = fn109 o a μ := am_aR_c.trans (am_aI_c.trans am_a0_c)
theorem sd109 : am_Sd 109 sp109 := by
  refine am_Sd_of (by decide) (fun vs μ μ' x h hv hM => ?_)
  obtain ⟨o, vs0, rfl, h0⟩ := am_aR_s h
  obtain ⟨a, vs1, rfl, h1⟩ := am_aI_s h0
  obtain ⟨rfl, hz⟩ := am_a0_s h1
  refine ⟨Nat.le_of_ble_eq_true rfl, fun X C hG hr => ?_⟩
  have h := hz
  unfold fn109 at h
  exact (show am_W X C 109 _ 0 0 0 [(0, .inr (.inr (6, o))), (1, .inl a)] [] μ from (am_c_aload_n hG (pc := 0) d109_0 rfl (x_get_n (v := .inr (.inr (17, am_ref o 5))) hG (pc := 1) d109_1 mo109 f6_34 rfl (am_c_aload_n hG (pc := 4) d109_4 rfl (am_c_iload_n hG (pc := 5) d109_5 rfl (x_virtual_i (t := 6) (o := o) (as2 := [.inl a]) (rest := [.inr (.inr (17, am_ref o 5))]) hG (pc := 6) d109_6 mo109 m6_160 (by decide) dp109_104 rfl rfl (Nat.le_of_ble_eq_true rfl) (Nat.le_of_ble_eq_true rfl) rg104 sd104 (e104 _ _ _) h (fun z1 h => (x_laload hG (pc := 9) d109_9 h (fun h => (xq_lret hG (by decide) hr (pc := 10) d109_10 rk109 (am_q0 h)))))))))))
/-! ChartPress$Scale.findEndsOfValues(LChartPress$Groups;)V -/
theorem D110 (k : Nat) {pc : Nat} {i : Instr} (h : tbi110[k]? = some (pc, i)) (hs : am_isw i = false) {n : Nat} (hn : am_il i = n) : decode (am_mc 110) pc = .ok (i, n) := am_d2 (by decide) (by decide) rfl h hs hn
theorem d110_0 : decode (am_mc 110) 0 = .ok (.aload_n 0, 1) := D110 0 rfl rfl rfl
theorem d110_1 : decode (am_mc 110) 1 = .ok (.aload_n 1, 1) := D110 1 rfl rfl rfl
theorem d110_2 : decode (am_mc 110) 2 = .ok (.iconst 0, 1) := D110 2 rfl rfl rfl
theorem d110_3 : decode (am_mc 110) 3 = .ok (.invokevirtual 61, 3) := D110 3 rfl rfl rfl
theorem d110_6 : decode (am_mc 110) 6 = .ok (.putfield 24, 3) := D110 4 rfl rfl rfl
theorem d110_9 : decode (am_mc 110) 9 = .ok (.aload_n 0, 1) := D110 5 rfl rfl rfl
theorem d110_10 : decode (am_mc 110) 10 = .ok (.aload_n 0, 1) := D110 6 rfl rfl rfl
theorem d110_11 : decode (am_mc 110) 11 = .ok (.getfield 24, 3) := D110 7 rfl rfl rfl
theorem d110_14 : decode (am_mc 110) 14 = .ok (.putfield 28, 3) := D110 8 rfl rfl rfl
theorem d110_17 : decode (am_mc 110) 17 = .ok (.iconst 1, 1) := D110 9 rfl rfl rfl
theorem d110_18 : decode (am_mc 110) 18 = .ok (.istore_n 2, 1) := D110 10 rfl rfl rfl
theorem d110_19 : decode (am_mc 110) 19 = .ok (.iload_n 2, 1) := D110 11 rfl rfl rfl
theorem d110_20 : decode (am_mc 110) 20 = .ok (.aload_n 1, 1) := D110 12 rfl rfl rfl
theorem d110_21 : decode (am_mc 110) 21 = .ok (.invokevirtual 40, 3) := D110 13 rfl rfl rfl
theorem d110_24 : decode (am_mc 110) 24 = .ok (.if_icmp .ge 41, 3) := D110 14 rfl rfl rfl
theorem d110_27 : decode (am_mc 110) 27 = .ok (.aload_n 0, 1) := D110 15 rfl rfl rfl
theorem d110_28 : decode (am_mc 110) 28 = .ok (.aload_n 0, 1) := D110 16 rfl rfl rfl
theorem d110_29 : decode (am_mc 110) 29 = .ok (.getfield 24, 3) := D110 17 rfl rfl rfl
theorem d110_32 : decode (am_mc 110) 32 = .ok (.aload_n 1, 1) := D110 18 rfl rfl rfl
theorem d110_33 : decode (am_mc 110) 33 = .ok (.iload_n 2, 1) := D110 19 rfl rfl rfl
theorem d110_34 : decode (am_mc 110) 34 = .ok (.invokevirtual 61, 3) := D110 20 rfl rfl rfl
theorem d110_37 : decode (am_mc 110) 37 = .ok (.invokestatic 52, 3) := D110 21 rfl rfl rfl
theorem d110_40 : decode (am_mc 110) 40 = .ok (.putfield 24, 3) := D110 22 rfl rfl rfl
theorem d110_43 : decode (am_mc 110) 43 = .ok (.aload_n 0, 1) := D110 23 rfl rfl rfl
theorem d110_44 : decode (am_mc 110) 44 = .ok (.aload_n 0, 1) := D110 24 rfl rfl rfl
theorem d110_45 : decode (am_mc 110) 45 = .ok (.getfield 28, 3) := D110 25 rfl rfl rfl
theorem d110_48 : decode (am_mc 110) 48 = .ok (.aload_n 1, 1) := D110 26 rfl rfl rfl
theorem d110_49 : decode (am_mc 110) 49 = .ok (.iload_n 2, 1) := D110 27 rfl rfl rfl
theorem d110_50 : decode (am_mc 110) 50 = .ok (.invokevirtual 61, 3) := D110 28 rfl rfl rfl
theorem d110_53 : decode (am_mc 110) 53 = .ok (.invokestatic 58, 3) := D110 29 rfl rfl rfl
theorem d110_56 : decode (am_mc 110) 56 = .ok (.putfield 28, 3) := D110 30 rfl rfl rfl
theorem d110_59 : decode (am_mc 110) 59 = .ok (.iinc 2 1, 3) := D110 31 rfl rfl rfl
theorem d110_62 : decode (am_mc 110) 62 = .ok (.goto (-43), 3) := D110 32 rfl rfl rfl
theorem d110_65 : decode (am_mc 110) 65 = .ok (.return_, 1) := D110 33 rfl rfl rfl
theorem ml110 : ∀ n, n < 3 → n < am_ml 110 := fun _ h => h
theorem mo110 : am_mo 110 = 8 := by decide +kernel
theorem rk110 : am_rk 110 = 0 := by decide +kernel
theorem rg110 : am_rcg 110 = 9 := by decide +kernel
theorem m8_61 : tb_m 8 61 = some (109, 2, 2, 0) := by decide +kernel
theorem dp110_101 : am_md 101 + 1 ≤ am_md 110 ∧ 8 + (am_ml 101 + 11) + am_lr 101 ≤ am_lr 110 := by decide +kernel
theorem dp110_106 : am_md 106 + 1 ≤ am_md 110 ∧ 8 + (am_ml 106 + 11) + am_lr 106 ≤ am_lr 110 := by decide +kernel
theorem dp110_107 : am_md 107 + 1 ≤ am_md 110 ∧ 8 + (am_ml 107 + 11) + am_lr 107 ≤ am_lr 110 := by decide +kernel
theorem dp110_109 : am_md 109 + 1 ≤ am_md 110 ∧ 8 + (am_ml 109 + 11) + am_lr 109 ≤ am_lr 110 := by decide +kernel
def L110_19 (l0 : Nat) (l1 : Nat) : Nat → Int → am_M → Option ((Int × am_M) ⊕ (Int × am_M))
  | 0, _, _ => none
  | n + 1, l2, μ => (am_op (fn101 l1 μ) (fun z2 => (if l2 < z2.1 then (am_op (fn109 l1 l2 z2.2) (fun z3 => (am_op (fn106 (z2.2 l0 0) z3.1 z3.2) (fun z4 => (am_op (fn109 l1 l2 (am_up z4.2 l0 0 z4.1)) (fun z5 => (am_op (fn107 ((am_up z4.2 l0 0 z4.1) l0 1) z5.1 z5.2) (fun z6 => (L110_19 l0 l1 n (w32 (l2 + 1)) (am_up z6.2 l0 1 z6.1)))))))))) else (some (.inr (l2, z2.2))))))
theorem w110_19 {X : am_K} {C : am_C} {Q : State → Prop} (hG : am_G X C 110 0 0 (0, fun _ => 0)) (hr : match X with | (_, _, _, _, _, _, _, _, meth, _) => meth.sig.returnType = am_mr 110 ∧ meth.locks = false) (l0 : Nat) (l1 : Nat) : ∀ (n : Nat) (l2 : Int) (μ : am_M) (r : (Int × am_M) ⊕ (Int × am_M)), L110_19 l0 l1 n l2 μ = some r → (∀ q, r = .inl q → Q = am_E X C 110 q.1 q.2) → (∀ t, r = .inr t → am_W X C 110 Q 0 0 65 [] [] t.2) → am_W X C 110 Q 0 0 19 [(0, .inr (.inr (8, l0))), (1, .inr (.inr (6, l1))), (2, .inl l2)] [] μ := by
  intro n
  induction n with
  | zero => intro l2 μ r h; cases h
  | succ n ih =>
    intro l2 μ r h hI hX
    unfold L110_19 at h
    exact (am_c_iload_n hG (pc := 19) d110_19 rfl (am_c_aload_n hG (pc := 20) d110_20 rfl (x_virtual_i (t := 6) (o := l1) (as2 := []) (rest := [.inl l2]) hG (pc := 21) d110_21 mo110 m8_40 (by decide) dp110_101 rfl rfl (Nat.le_of_ble_eq_true rfl) (Nat.le_of_ble_eq_true rfl) rg101 sd101 (e101 _ _) h (fun z2 h => (x_icmp_ge (tgt := 65) hG (pc := 24) d110_24 rfl h (fun h => (am_lvw (lv2 := []) [] rfl (hX (l2, z2.2) (Option.some.inj h).symm))) (fun h => (am_c_aload_n hG (pc := 27) d110_27 rfl (am_c_aload_n hG (pc := 28) d110_28 rfl (x_get_n (v := .inr (.inl (z2.2 l0 0))) hG (pc := 29) d110_29 mo110 f8_24 rfl (am_c_aload_n hG (pc := 32) d110_32 rfl (am_c_iload_n hG (pc := 33) d110_33 rfl (x_virtual_l (t := 6) (o := l1) (as2 := [.inl l2]) (rest := [.inr (.inl (z2.2 l0 0)), .inr (.inr (8, l0))]) hG (pc := 34) d110_34 mo110 m8_61 (by decide) dp110_109 rfl rfl (Nat.le_of_ble_eq_true rfl) (Nat.le_of_ble_eq_true rfl) rg109 sd109 (e109 _ _ _) h (fun z3 h => (x_static_l (as := [.inr (.inl (z2.2 l0 0)), .inr (.inl z3.1)]) (rest := [.inr (.inr (8, l0))]) hG (pc := 37) d110_37 mo110 m8_52 (by decide) dp110_106 rfl rfl (Nat.le_of_ble_eq_true rfl) (Nat.le_of_ble_eq_true rfl) rg106 sd106 (e106 _ _ _) h (fun z4 h => (x_put_l hG (pc := 40) d110_40 mo110 f8_24 (by decide) (am_c_aload_n hG (pc := 43) d110_43 rfl (am_c_aload_n hG (pc := 44) d110_44 rfl (x_get_n (v := .inr (.inl ((am_up z4.2 l0 0 z4.1) l0 1))) hG (pc := 45) d110_45 mo110 f8_28 rfl (am_c_aload_n hG (pc := 48) d110_48 rfl (am_c_iload_n hG (pc := 49) d110_49 rfl (x_virtual_l (t := 6) (o := l1) (as2 := [.inl l2]) (rest := [.inr (.inl ((am_up z4.2 l0 0 z4.1) l0 1)), .inr (.inr (8, l0))]) hG (pc := 50) d110_50 mo110 m8_61 (by decide) dp110_109 rfl rfl (Nat.le_of_ble_eq_true rfl) (Nat.le_of_ble_eq_true rfl) rg109 sd109 (e109 _ _ _) h (fun z5 h => (x_static_l (as := [.inr (.inl ((am_up z4.2 l0 0 z4.1) l0 1)), .inr (.inl z5.1)]) (rest := [.inr (.inr (8, l0))]) hG (pc := 53) d110_53 mo110 m8_58 (by decide) dp110_107 rfl rfl (Nat.le_of_ble_eq_true rfl) (Nat.le_of_ble_eq_true rfl) rg107 sd107 (e107 _ _ _) h (fun z6 h => (x_put_l hG (pc := 56) d110_56 mo110 f8_28 (by decide) (x_iinc (lv' := [(2, .inl (w32 (l2 + 1))), (0, .inr (.inr (8, l0))), (1, .inr (.inr (6, l1)))]) hG (pc := 59) d110_59 rfl (ml110 _ (by decide)) rfl (x_goto (tgt := 19) hG (pc := 62) d110_62 rfl (am_lvw (lv2 := [(0, .inr (.inr (8, l0))), (1, .inr (.inr (6, l1))), (2, .inl (w32 (l2 + 1)))]) [1, 2, 0] rfl (ih _ _ _ h hI hX))))))))))))))))))))))))))))))
def fn110 (o : Nat) (a : Nat) (μ : am_M) : Option (Int × am_M) := (am_op (fn109 a 0 μ) (fun z1 => (am_op (L110_19 o a am_fuel 1 (am_up (am_up z1.2 o 0 z1.1) o 1 ((am_up z1.2 o 0 z1.1) o 0))) (fun s => am_lp s (fun q1 => some q1) (fun t1 => some (0, t1.2))))))
def sp110 : am_F := fun vs μ => am_aR 8 vs fun o vs => am_aR 6 vs fun a vs => am_a0 vs (fn110 o a μ)
theorem e110 (o : Nat) (a : Nat) (μ : am_M) : sp110 [.inr (.inr (8, o)), .inr (.inr (6, a))] μ = fn110 o a μ := am_aR_c.trans (am_aR_c.trans am_a0_c)
theorem sd110 : am_Sd 110 sp110 := by
  refine am_Sd_of (by decide) (fun vs μ μ' x h hv hM => ?_)
  obtain ⟨o, vs0, rfl, h0⟩ := am_aR_s h
  obtain ⟨a, vs1, rfl, h1⟩ := am_aR_s h0
  obtain ⟨rfl, hz⟩ := am_a0_s h1
  refine ⟨Nat.le_of_ble_eq_true rfl, fun X C hG hr => ?_⟩
  have h := hz
  unfold fn110 at h
  exact (show am_W X C 110 _ 0 0 0 [(0, .inr (.inr (8, o))), (1, .inr (.inr (6, a)))] [] μ from (am_c_aload_n hG (pc := 0) d110_0 rfl (am_c_aload_n hG (pc := 1) d110_1 rfl (am_c_iconst hG (pc := 2) d110_2 (by decide) (x_virtual_l (t := 6) (o := a) (as2 := [.inl 0]) (rest := [.inr (.inr (8, o))]) hG (pc := 3) d110_3 mo110 m8_61 (by decide) dp110_109 rfl rfl (Nat.le_of_ble_eq_true rfl) (Nat.le_of_ble_eq_true rfl) rg109 sd109 (e109 _ _ _) h (fun z1 h => (x_put_l hG (pc := 6) d110_6 mo110 f8_24 (by decide) (am_c_aload_n hG (pc := 9) d110_9 rfl (am_c_aload_n hG (pc := 10) d110_10 rfl (x_get_n (v := .inr (.inl ((am_up z1.2 o 0 z1.1) o 0))) hG (pc := 11) d110_11 mo110 f8_24 rfl (x_put_l hG (pc := 14) d110_14 mo110 f8_28 (by decide) (am_c_iconst hG (pc := 17) d110_17 (by decide) (x_istore_n (lv' := [(2, .inl 1), (0, .inr (.inr (8, o))), (1, .inr (.inr (6, a)))]) hG (pc := 18) d110_18 (ml110 _ (by decide)) rfl (x_lp h (fun r h1 h2 => (am_lvw (lv2 := [(0, .inr (.inr (8, o))), (1, .inr (.inr (6, a))), (2, .inl 1)]) [1, 2, 0] rfl (w110_19 hG hr _ _ _ _ _ _ h1 (fun q1 e => am_q1 e h2 (fun h => am_q0 h)) (fun t1 e => am_q2 e h2 (fun h => (xq_vret hG (by decide) hr (pc := 65) d110_65 rk110 (am_q0 h)))))))))))))))))))))
/-! ChartPress$Request.tickLimit()I -/
theorem D111 (k : Nat) {pc : Nat} {i : Instr} (h : tbi111[k]? = some (pc, i)) (hs : am_isw i = false) {n : Nat} (hn : am_il i = n) : decode (am_mc 111) pc = .ok (i, n) := am_d2 (by decide) (by decide) rfl h hs hn
theorem d111_0 : decode (am_mc 111) 0 = .ok (.aload_n 0, 1) := D111 0 rfl rfl rfl
theorem d111_1 : decode (am_mc 111) 1 = .ok (.getfield 86, 3) := D111 1 rfl rfl rfl
theorem d111_4 : decode (am_mc 111) 4 = .ok (.ifCond .ne 7, 3) := D111 2 rfl rfl rfl
theorem d111_7 : decode (am_mc 111) 7 = .ok (.iconst 5, 1) := D111 3 rfl rfl rfl
theorem d111_8 : decode (am_mc 111) 8 = .ok (.goto 7, 3) := D111 4 rfl rfl rfl
theorem d111_11 : decode (am_mc 111) 11 = .ok (.aload_n 0, 1) := D111 5 rfl rfl rfl
theorem d111_12 : decode (am_mc 111) 12 = .ok (.getfield 86, 3) := D111 6 rfl rfl rfl
theorem d111_15 : decode (am_mc 111) 15 = .ok (.ireturn, 1) := D111 7 rfl rfl rfl
theorem ml111 : ∀ n, n < 1 → n < am_ml 111 := fun _ h => h
theorem mo111 : am_mo 111 = 4 := by decide +kernel
theorem mr111 : am_mr 111 = some .int := by decide +kernel
theorem rg111 : am_rcg 111 = 5 := by decide +kernel
def fn111 (o : Nat) (μ : am_M) : Option (Int × am_M) := (if μ o 12 = 0 then some (5, μ) else some (μ o 12, μ))
def sp111 : am_F := fun vs μ => am_aR 4 vs fun o vs => am_a0 vs (fn111 o μ)
theorem e111 (o : Nat) (μ : am_M) : sp111 [.inr (.inr (4, o))] μ = fn111 o μ := am_aR_c.trans am_a0_c
theorem sd111 : am_Sd 111 sp111 := by
  refine am_Sd_of (by decide) (fun vs μ μ' x h hv hM => ?_)
  obtain ⟨o, vs0, rfl, h0⟩ := am_aR_s h
  obtain ⟨rfl, hz⟩ := am_a0_s h0
  refine ⟨Nat.le_of_ble_eq_true rfl, fun X C hG hr => ?_⟩
  have h := hz
  unfold fn111 at h
  exact (show am_W X C 111 _ 0 0 0 [(0, .inr (.inr (4, o)))] [] μ from (am_c_aload_n hG (pc := 0) d111_0 rfl (x_get_n (v := .inl (μ o 12)) hG (pc := 1) d111_1 mo111 f4_86 rfl (x_if_ne (tgt := 11) hG (pc := 4) d111_4 rfl h (fun h => (am_c_aload_n hG (pc := 11) d111_11 rfl (x_get_n (v := .inl (μ o 12)) hG (pc := 12) d111_12 mo111 f4_86 rfl (xq_iret hG (by decide) hr (pc := 15) d111_15 mr111 (am_q0 h))))) (fun h => (am_c_iconst hG (pc := 7) d111_7 (by decide) (x_goto (tgt := 15) hG (pc := 8) d111_8 rfl (xq_iret hG (by decide) hr (pc := 15) d111_15 mr111 (am_q0 h)))))))))
/-! java/lang/Math.floorDiv(JJ)J -/
theorem D112 (k : Nat) {pc : Nat} {i : Instr} (h : tbi112[k]? = some (pc, i)) (hs : am_isw i = false) {n : Nat} (hn : am_il i = n) : decode (am_mc 112) pc = .ok (i, n) := am_d2 (by decide) (by decide) rfl h hs hn
theorem d112_0 : decode (am_mc 112) 0 = .ok (.lload_n 0, 1) := D112 0 rfl rfl rfl
theorem d112_1 : decode (am_mc 112) 1 = .ok (.lload_n 2, 1) := D112 1 rfl rfl rfl
theorem d112_2 : decode (am_mc 112) 2 = .ok (.ldiv, 1) := D112 2 rfl rfl rfl
theorem d112_3 : decode (am_mc 112) 3 = .ok (.lstore 4, 2) := D112 3 rfl rfl rfl
theorem d112_5 : decode (am_mc 112) 5 = .ok (.lload_n 0, 1) := D112 4 rfl rfl rfl
theorem d112_6 : decode (am_mc 112) 6 = .ok (.lload_n 2, 1) := D112 5 rfl rfl rfl
theorem d112_7 : decode (am_mc 112) 7 = .ok (.lxor, 1) := D112 6 rfl rfl rfl
theorem d112_8 : decode (am_mc 112) 8 = .ok (.lconst 0, 1) := D112 7 rfl rfl rfl
theorem d112_9 : decode (am_mc 112) 9 = .ok (.lcmp, 1) := D112 8 rfl rfl rfl
theorem d112_10 : decode (am_mc 112) 10 = .ok (.ifCond .ge 17, 3) := D112 9 rfl rfl rfl
theorem d112_13 : decode (am_mc 112) 13 = .ok (.lload 4, 2) := D112 10 rfl rfl rfl
theorem d112_15 : decode (am_mc 112) 15 = .ok (.lload_n 2, 1) := D112 11 rfl rfl rfl
theorem d112_16 : decode (am_mc 112) 16 = .ok (.lmul, 1) := D112 12 rfl rfl rfl
theorem d112_17 : decode (am_mc 112) 17 = .ok (.lload_n 0, 1) := D112 13 rfl rfl rfl
theorem d112_18 : decode (am_mc 112) 18 = .ok (.lcmp, 1) := D112 14 rfl rfl rfl
theorem d112_19 : decode (am_mc 112) 19 = .ok (.ifCond .eq 8, 3) := D112 15 rfl rfl rfl
theorem d112_22 : decode (am_mc 112) 22 = .ok (.lload 4, 2) := D112 16 rfl rfl rfl
theorem d112_24 : decode (am_mc 112) 24 = .ok (.lconst 1, 1) := D112 17 rfl rfl rfl
theorem d112_25 : decode (am_mc 112) 25 = .ok (.lsub, 1) := D112 18 rfl rfl rfl
theorem d112_26 : decode (am_mc 112) 26 = .ok (.lreturn, 1) := D112 19 rfl rfl rfl
theorem d112_27 : decode (am_mc 112) 27 = .ok (.lload 4, 2) := D112 20 rfl rfl rfl
theorem d112_29 : decode (am_mc 112) 29 = .ok (.lreturn, 1) := D112 21 rfl rfl rfl
theorem ml112 : ∀ n, n < 6 → n < am_ml 112 := fun _ h => h
theorem mo112 : am_mo 112 = 13 := by decide +kernel
theorem rk112 : am_rk 112 = 2 := by decide +kernel
theorem rg112 : am_rcg 112 = 0 := by decide +kernel
def fn112 (a : Int) (b : Int) (μ : am_M) : Option (Int × am_M) := (if b = 0 then none else (if o_cmp (o_2l (fun x y => x ^^^ y) a b) 0 < 0 then (if o_cmp (w64 ((o_divl a b) * b)) a = 0 then some (o_divl a b, μ) else some (w64 ((o_divl a b) - 1), μ)) else some (o_divl a b, μ)))
def sp112 : am_F := fun vs μ => am_aJ vs fun a vs => am_aJ vs fun b vs => am_a0 vs (fn112 a b μ)
theorem e112 (a : Int) (b : Int) (μ : am_M) : sp112 [.inr (.inl a), .inr (.inl b)] μ = fn112 a b μ := am_aJ_c.trans (am_aJ_c.trans am_a0_c)
theorem sd112 : am_Sd 112 sp112 := by
  refine am_Sd_of (by decide) (fun vs μ μ' x h hv hM => ?_)
  obtain ⟨a, vs0, rfl, h0⟩ := am_aJ_s h
  obtain ⟨b, vs1, rfl, h1⟩ := am_aJ_s h0
  obtain ⟨rfl, hz⟩ := am_a0_s h1
  refine ⟨Nat.le_of_ble_eq_true rfl, fun X C hG hr => ?_⟩
  have h := hz
  unfold fn112 at h
  exact (show am_W X C 112 _ 0 0 0 [(0, .inr (.inl a)), (2, .inr (.inl b))] [] μ from (am_c_lload_n hG (pc := 0) d112_0 rfl (am_c_lload_n hG (pc := 1) d112_1 rfl (x_ldiv hG (pc := 2) d112_2 h (fun h => (x_lstore (lv' := [(4, .inr (.inl (o_divl a b))), (0, .inr (.inl a)), (2, .inr (.inl b))]) hG (pc := 3) d112_3 (ml112 _ (by decide)) rfl (am_c_lload_n hG (pc := 5) d112_5 rfl (am_c_lload_n hG (pc := 6) d112_6 rfl (am_c_lxor hG (pc := 7) d112_7 (am_c_lconst hG (pc := 8) d112_8 (am_c_lcmp hG (pc := 9) d112_9 (x_if_ge (tgt := 27) hG (pc := 10) d112_10 rfl h (fun h => (am_c_lload hG (pc := 27) d112_27 rfl (xq_lret hG (by decide) hr (pc := 29) d112_29 rk112 (am_q0 h)))) (fun h => (am_c_lload hG (pc := 13) d112_13 rfl (am_c_lload_n hG (pc := 15) d112_15 rfl (am_c_lmul hG (pc := 16) d112_16 (am_c_lload_n hG (pc := 17) d112_17 rfl (am_c_lcmp hG (pc := 18) d112_18 (x_if_eq (tgt := 27) hG (pc := 19) d112_19 rfl h (fun h => (am_c_lload hG (pc := 27) d112_27 rfl (xq_lret hG (by decide) hr (pc := 29) d112_29 rk112 (am_q0 h)))) (fun h => (am_c_lload hG (pc := 22) d112_22 rfl (am_c_lconst hG (pc := 24) d112_24 (am_c_lsub hG (pc := 25) d112_25 (xq_lret hG (by decide) hr (pc := 26) d112_26 rk112 (am_q0 h)))))))))))))))))))))))))
/-! ChartPress$Scale.findStep(I)V -/
theorem D113 (k : Nat) {pc : Nat} {i : Instr} (h : tbi113[k]? = some (pc, i)) (hs : am_isw i = false) {n : Nat} (hn : am_il i = n) : decode (am_mc 113) pc = .ok (i, n) := am_d2 (by decide) (by decide) rfl h hs hn
theorem d113_0 : decode (am_mc 113) 0 = .ok (.lconst 1, 1) := D113 0 rfl rfl rfl
theorem d113_1 : decode (am_mc 113) 1 = .ok (.lstore_n 2, 1) := D113 1 rfl rfl rfl
theorem d113_2 : decode (am_mc 113) 2 = .ok (.iconst 0, 1) := D113 2 rfl rfl rfl
theorem d113_3 : decode (am_mc 113) 3 = .ok (.istore 4, 2) := D113 3 rfl rfl rfl
theorem d113_5 : decode (am_mc 113) 5 = .ok (.iconst 0, 1) := D113 4 rfl rfl rfl
theorem d113_6 : decode (am_mc 113) 6 = .ok (.istore 5, 2) := D113 5 rfl rfl rfl
theorem d113_8 : decode (am_mc 113) 8 = .ok (.iload 4, 2) := D113 6 rfl rfl rfl
theorem d113_10 : decode (am_mc 113) 10 = .ok (.ifCond .ne 133, 3) := D113 7 rfl rfl rfl
theorem d113_13 : decode (am_mc 113) 13 = .ok (.iload 5, 2) := D113 8 rfl rfl rfl
theorem d113_15 : decode (am_mc 113) 15 = .ok (.bipush 36, 2) := D113 9 rfl rfl rfl
theorem d113_17 : decode (am_mc 113) 17 = .ok (.if_icmp .ge 126, 3) := D113 10 rfl rfl rfl
theorem d113_20 : decode (am_mc 113) 20 = .ok (.aload_n 0, 1) := D113 11 rfl rfl rfl
theorem d113_21 : decode (am_mc 113) 21 = .ok (.getstatic 65, 3) := D113 12 rfl rfl rfl
theorem d113_24 : decode (am_mc 113) 24 = .ok (.iload 5, 2) := D113 13 rfl rfl rfl
theorem d113_26 : decode (am_mc 113) 26 = .ok (.getstatic 65, 3) := D113 14 rfl rfl rfl
theorem d113_29 : decode (am_mc 113) 29 = .ok (.arraylength, 1) := D113 15 rfl rfl rfl
theorem d113_30 : decode (am_mc 113) 30 = .ok (.irem, 1) := D113 16 rfl rfl rfl
theorem d113_31 : decode (am_mc 113) 31 = .ok (.iaload, 1) := D113 17 rfl rfl rfl
theorem d113_32 : decode (am_mc 113) 32 = .ok (.i2l, 1) := D113 18 rfl rfl rfl
theorem d113_33 : decode (am_mc 113) 33 = .ok (.lload_n 2, 1) := D113 19 rfl rfl rfl
theorem d113_34 : decode (am_mc 113) 34 = .ok (.lmul, 1) := D113 20 rfl rfl rfl
theorem d113_35 : decode (am_mc 113) 35 = .ok (.putfield 69, 3) := D113 21 rfl rfl rfl
theorem d113_38 : decode (am_mc 113) 38 = .ok (.aload_n 0, 1) := D113 22 rfl rfl rfl
theorem d113_39 : decode (am_mc 113) 39 = .ok (.getfield 69, 3) := D113 23 rfl rfl rfl
theorem d113_42 : decode (am_mc 113) 42 = .ok (.ldc2_w 72, 3) := D113 24 rfl rfl rfl
theorem d113_45 : decode (am_mc 113) 45 = .ok (.lmul, 1) := D113 25 rfl rfl rfl
theorem d113_46 : decode (am_mc 113) 46 = .ok (.lstore 6, 2) := D113 26 rfl rfl rfl
theorem d113_48 : decode (am_mc 113) 48 = .ok (.aload_n 0, 1) := D113 27 rfl rfl rfl
theorem d113_49 : decode (am_mc 113) 49 = .ok (.aload_n 0, 1) := D113 28 rfl rfl rfl
theorem d113_50 : decode (am_mc 113) 50 = .ok (.getfield 24, 3) := D113 29 rfl rfl rfl
theorem d113_53 : decode (am_mc 113) 53 = .ok (.lload 6, 2) := D113 30 rfl rfl rfl
theorem d113_55 : decode (am_mc 113) 55 = .ok (.invokestatic 74, 3) := D113 31 rfl rfl rfl
theorem d113_58 : decode (am_mc 113) 58 = .ok (.aload_n 0, 1) := D113 32 rfl rfl rfl
theorem d113_59 : decode (am_mc 113) 59 = .ok (.getfield 69, 3) := D113 33 rfl rfl rfl
theorem d113_62 : decode (am_mc 113) 62 = .ok (.lmul, 1) := D113 34 rfl rfl rfl
theorem d113_63 : decode (am_mc 113) 63 = .ok (.putfield 77, 3) := D113 35 rfl rfl rfl
theorem d113_66 : decode (am_mc 113) 66 = .ok (.aload_n 0, 1) := D113 36 rfl rfl rfl
theorem d113_67 : decode (am_mc 113) 67 = .ok (.aload_n 0, 1) := D113 37 rfl rfl rfl
theorem d113_68 : decode (am_mc 113) 68 = .ok (.getfield 28, 3) := D113 38 rfl rfl rfl
theorem d113_71 : decode (am_mc 113) 71 = .ok (.lneg, 1) := D113 39 rfl rfl rfl
theorem d113_72 : decode (am_mc 113) 72 = .ok (.lload 6, 2) := D113 40 rfl rfl rfl
theorem d113_74 : decode (am_mc 113) 74 = .ok (.invokestatic 74, 3) := D113 41 rfl rfl rfl
theorem d113_77 : decode (am_mc 113) 77 = .ok (.lneg, 1) := D113 42 rfl rfl rfl
theorem d113_78 : decode (am_mc 113) 78 = .ok (.aload_n 0, 1) := D113 43 rfl rfl rfl
theorem d113_79 : decode (am_mc 113) 79 = .ok (.getfield 69, 3) := D113 44 rfl rfl rfl
theorem d113_82 : decode (am_mc 113) 82 = .ok (.lmul, 1) := D113 45 rfl rfl rfl
theorem d113_83 : decode (am_mc 113) 83 = .ok (.putfield 80, 3) := D113 46 rfl rfl rfl
theorem d113_86 : decode (am_mc 113) 86 = .ok (.aload_n 0, 1) := D113 47 rfl rfl rfl
theorem d113_87 : decode (am_mc 113) 87 = .ok (.getfield 80, 3) := D113 48 rfl rfl rfl
theorem d113_90 : decode (am_mc 113) 90 = .ok (.aload_n 0, 1) := D113 49 rfl rfl rfl
theorem d113_91 : decode (am_mc 113) 91 = .ok (.getfield 77, 3) := D113 50 rfl rfl rfl
theorem d113_94 : decode (am_mc 113) 94 = .ok (.lsub, 1) := D113 51 rfl rfl rfl
theorem d113_95 : decode (am_mc 113) 95 = .ok (.aload_n 0, 1) := D113 52 rfl rfl rfl
theorem d113_96 : decode (am_mc 113) 96 = .ok (.getfield 69, 3) := D113 53 rfl rfl rfl
theorem d113_99 : decode (am_mc 113) 99 = .ok (.ldiv, 1) := D113 54 rfl rfl rfl
theorem d113_100 : decode (am_mc 113) 100 = .ok (.lconst 1, 1) := D113 55 rfl rfl rfl
theorem d113_101 : decode (am_mc 113) 101 = .ok (.ladd, 1) := D113 56 rfl rfl rfl
theorem d113_102 : decode (am_mc 113) 102 = .ok (.iload_n 1, 1) := D113 57 rfl rfl rfl
theorem d113_103 : decode (am_mc 113) 103 = .ok (.i2l, 1) := D113 58 rfl rfl rfl
theorem d113_104 : decode (am_mc 113) 104 = .ok (.lcmp, 1) := D113 59 rfl rfl rfl
theorem d113_105 : decode (am_mc 113) 105 = .ok (.ifCond .gt 7, 3) := D113 60 rfl rfl rfl
theorem d113_108 : decode (am_mc 113) 108 = .ok (.iconst 1, 1) := D113 61 rfl rfl rfl
theorem d113_109 : decode (am_mc 113) 109 = .ok (.goto 4, 3) := D113 62 rfl rfl rfl
theorem d113_112 : decode (am_mc 113) 112 = .ok (.iconst 0, 1) := D113 63 rfl rfl rfl
theorem d113_113 : decode (am_mc 113) 113 = .ok (.istore 4, 2) := D113 64 rfl rfl rfl
theorem d113_115 : decode (am_mc 113) 115 = .ok (.iload 5, 2) := D113 65 rfl rfl rfl
theorem d113_117 : decode (am_mc 113) 117 = .ok (.getstatic 65, 3) := D113 66 rfl rfl rfl
theorem d113_120 : decode (am_mc 113) 120 = .ok (.arraylength, 1) := D113 67 rfl rfl rfl
theorem d113_121 : decode (am_mc 113) 121 = .ok (.irem, 1) := D113 68 rfl rfl rfl
theorem d113_122 : decode (am_mc 113) 122 = .ok (.getstatic 65, 3) := D113 69 rfl rfl rfl
theorem d113_125 : decode (am_mc 113) 125 = .ok (.arraylength, 1) := D113 70 rfl rfl rfl
theorem d113_126 : decode (am_mc 113) 126 = .ok (.iconst 1, 1) := D113 71 rfl rfl rfl
theorem d113_127 : decode (am_mc 113) 127 = .ok (.isub, 1) := D113 72 rfl rfl rfl
theorem d113_128 : decode (am_mc 113) 128 = .ok (.if_icmp .ne 9, 3) := D113 73 rfl rfl rfl
theorem d113_131 : decode (am_mc 113) 131 = .ok (.lload_n 2, 1) := D113 74 rfl rfl rfl
theorem d113_132 : decode (am_mc 113) 132 = .ok (.ldc2_w 83, 3) := D113 75 rfl rfl rfl
theorem d113_135 : decode (am_mc 113) 135 = .ok (.lmul, 1) := D113 76 rfl rfl rfl
theorem d113_136 : decode (am_mc 113) 136 = .ok (.lstore_n 2, 1) := D113 77 rfl rfl rfl
theorem d113_137 : decode (am_mc 113) 137 = .ok (.iinc 5 1, 3) := D113 78 rfl rfl rfl
theorem d113_140 : decode (am_mc 113) 140 = .ok (.goto (-132), 3) := D113 79 rfl rfl rfl
theorem d113_143 : decode (am_mc 113) 143 = .ok (.return_, 1) := D113 80 rfl rfl rfl
theorem ml113 : ∀ n, n < 8 → n < am_ml 113 := fun _ h => h
theorem mo113 : am_mo 113 = 8 := by decide +kernel
theorem rk113 : am_rk 113 = 0 := by decide +kernel
theorem rg113 : am_rcg 113 = 9 := by decide +kernel
theorem f8_69 : tb_f 8 69 = some (8, 2, 1, 0) := by decide +kernel
theorem f8_77 : tb_f 8 77 = some (8, 3, 1, 0) := by decide +kernel
theorem f8_80 : tb_f 8 80 = some (8, 4, 1, 0) := by decide +kernel
theorem m8_74 : tb_m 8 74 = some (112, 2, 2, 0) := by decide +kernel
theorem dp113_112 : am_md 112 + 1 ≤ am_md 113 ∧ 8 + (am_ml 112 + 11) + am_lr 112 ≤ am_lr 113 := by decide +kernel
def L113_8 (l0 : Nat) (l1 : Int) : Nat → Int → Int → Int → am_M → Option ((Int × am_M) ⊕ (Int × Int × Int × am_M))
  | 0, _, _, _, _ => none
  | n + 1, l2, l4, l5, μ => (if l4 = 0 then (if l5 < 36 then (if ((am_clen 1 : Nat) : Int) = 0 then none else (if (0 : Int) ≤ o_rem l5 (((am_clen 1 : Nat) : Int)) ∧ o_rem l5 (((am_clen 1 : Nat) : Int)) < ((am_clen 1 : Nat) : Int) then (am_op (fn112 ((am_up μ l0 2 (w64 ((am_cst 1 (o_rem l5 (((am_clen 1 : Nat) : Int)) : Int).toNat) * l2))) l0 0) (w64 (((am_up μ l0 2 (w64 ((am_cst 1 (o_rem l5 (((am_clen 1 : Nat) : Int)) : Int).toNat) * l2))) l0 2) * 27720)) (am_up μ l0 2 (w64 ((am_cst 1 (o_rem l5 (((am_clen 1 : Nat) : Int)) : Int).toNat) * l2)))) (fun z1 => (am_op (fn112 (w64 (-((am_up z1.2 l0 3 (w64 (z1.1 * (z1.2 l0 2)))) l0 1))) (w64 (((am_up μ l0 2 (w64 ((am_cst 1 (o_rem l5 (((am_clen 1 : Nat) : Int)) : Int).toNat) * l2))) l0 2) * 27720)) (am_up z1.2 l0 3 (w64 (z1.1 * (z1.2 l0 2))))) (fun z2 => (if (am_up z2.2 l0 4 (w64 ((w64 (-z2.1)) * (z2.2 l0 2)))) l0 2 = 0 then none else (if 0 < o_cmp (w64 ((o_divl (w64 (((am_up z2.2 l0 4 (w64 ((w64 (-z2.1)) * (z2.2 l0 2)))) l0 4) - ((am_up z2.2 l0 4 (w64 ((w64 (-z2.1)) * (z2.2 l0 2)))) l0 3))) ((am_up z2.2 l0 4 (w64 ((w64 (-z2.1)) * (z2.2 l0 2)))) l0 2)) + 1)) l1 then (if ((am_clen 1 : Nat) : Int) = 0 then none else (if o_rem l5 (((am_clen 1 : Nat) : Int)) = w32 ((((am_clen 1 : Nat) : Int)) - 1) then (L113_8 l0 l1 n (w64 (l2 * 10)) 0 (w32 (l5 + 1)) (am_up z2.2 l0 4 (w64 ((w64 (-z2.1)) * (z2.2 l0 2))))) else (L113_8 l0 l1 n l2 0 (w32 (l5 + 1)) (am_up z2.2 l0 4 (w64 ((w64 (-z2.1)) * (z2.2 l0 2))))))) else (if ((am_clen 1 : Nat) : Int) = 0 then none else (if o_rem l5 (((am_clen 1 : Nat) : Int)) = w32 ((((am_clen 1 : Nat) : Int)) - 1) then (L113_8 l0 l1 n (w64 (l2 * 10)) 1 (w32 (l5 + 1)) (am_up z2.2 l0 4 (w64 ((w64 (-z2.1)) * (z2.2 l0 2))))) else (L113_8 l0 l1 n l2 1 (w32 (l5 + 1)) (am_up z2.2 l0 4 (w64 ((w64 (-z2.1)) * (z2.2 l0 2))))))))))))) else none)) else (some (.inr (l2, l4, l5, μ)))) else (some (.inr (l2, l4, l5, μ))))
theorem w113_8 {X : am_K} {C : am_C} {Q : State → Prop} (hG : am_G X C 113 0 0 (0, fun _ => 0)) (hr : match X with | (_, _, _, _, _, _, _, _, meth, _) => meth.sig.returnType = am_mr 113 ∧ meth.locks = false) (l0 : Nat) (l1 : Int) : ∀ (n : Nat) (l2 : Int) (l4 : Int) (l5 : Int) (μ : am_M) (r : (Int × am_M) ⊕ (Int × Int × Int × am_M)), L113_8 l0 l1 n l2 l4 l5 μ = some r → (∀ q, r = .inl q → Q = am_E X C 113 q.1 q.2) → (∀ t, r = .inr t → am_W X C 113 Q 0 0 143 [] [] t.2.2.2) → am_W X C 113 Q 0 0 8 [(0, .inr (.inr (8, l0))), (1, .inl l1), (2, .inr (.inl l2)), (4, .inl l4), (5, .inl l5)] [] μ := by
  intro n
  induction n with
  | zero => intro l2 l4 l5 μ r h; cases h
  | succ n ih =>
    intro l2 l4 l5 μ r h hI hX
    unfold L113_8 at h
    exact (am_c_iload hG (pc := 8) d113_8 rfl (x_if_ne (tgt := 143) hG (pc := 10) d113_10 rfl h (fun h => (am_lvw (lv2 := []) [] rfl (hX (l2, l4, l5, μ) (Option.some.inj h).symm))) (fun h => (am_c_iload hG (pc := 13) d113_13 rfl (am_c_bipush hG (pc := 15) d113_15 (by decide) (x_icmp_ge (tgt := 143) hG (pc := 17) d113_17 rfl h (fun h => (am_lvw (lv2 := []) [] rfl (hX (l2, l4, l5, μ) (Option.some.inj h).symm))) (fun h => (am_c_aload_n hG (pc := 20) d113_20 rfl (am_c_getstatic hG (pc := 21) d113_21 (v := .inr (.inr (30, 1))) (by decide +kernel) (am_c_iload hG (pc := 24) d113_24 rfl (am_c_getstatic hG (pc := 26) d113_26 (v := .inr (.inr (30, 1))) (by decide +kernel) (am_c_klen hG (pc := 29) d113_29 (x_irem hG (pc := 30) d113_30 h (fun h => (x_kaload hG (pc := 31) d113_31 h (fun h => (am_c_i2l hG (pc := 32) d113_32 (am_c_lload_n hG (pc := 33) d113_33 rfl (am_c_lmul hG (pc := 34) d113_34 (x_put_l hG (pc := 35) d113_35 mo113 f8_69 (by decide) (am_c_aload_n hG (pc := 38) d113_38 rfl (x_get_n (v := .inr (.inl ((am_up μ l0 2 (w64 ((am_cst 1 (o_rem l5 (((am_clen 1 : Nat) : Int)) : Int).toNat) * l2))) l0 2))) hG (pc := 39) d113_39 mo113 f8_69 rfl (am_c_ldc2 hG (pc := 42) d113_42 (v := 27720) (by decide +kernel) (am_c_lmul hG (pc := 45) d113_45 (x_lstore (lv' := [(6, .inr (.inl (w64 (((am_up μ l0 2 (w64 ((am_cst 1 (o_rem l5 (((am_clen 1 : Nat) : Int)) : Int).toNat) * l2))) l0 2) * 27720)))), (0, .inr (.inr (8, l0))), (1, .inl l1), (2, .inr (.inl l2)), (4, .inl l4), (5, .inl l5)]) hG (pc := 46) d113_46 (ml113 _ (by decide)) rfl (am_c_aload_n hG (pc := 48) d113_48 rfl (am_c_aload_n hG (pc := 49) d113_49 rfl (x_get_n (v := .inr (.inl ((am_up μ l0 2 (w64 ((am_cst 1 (o_rem l5 (((am_clen 1 : Nat) : Int)) : Int).toNat) * l2))) l0 0))) hG (pc := 50) d113_50 mo113 f8_24 rfl (am_c_lload hG (pc := 53) d113_53 rfl (x_static_l (as := [.inr (.inl ((am_up μ l0 2 (w64 ((am_cst 1 (o_rem l5 (((am_clen 1 : Nat) : Int)) : Int).toNat) * l2))) l0 0)), .inr (.inl (w64 (((am_up μ l0 2 (w64 ((am_cst 1 (o_rem l5 (((am_clen 1 : Nat) : Int)) : Int).toNat) * l2))) l0 2) * 27720)))]) (rest := [.inr (.inr (8, l0))]) hG (pc := 55) d113_55 mo113 m8_74 (by decide) dp113_112 rfl rfl (Nat.le_of_ble_eq_true rfl) (Nat.le_of_ble_eq_true rfl) rg112 sd112 (e112 _ _ _) h (fun z1 h => (am_c_aload_n hG (pc := 58) d113_58 rfl (x_get_n (v := .inr (.inl (z1.2 l0 2))) hG (pc := 59) d113_59 mo113 f8_69 rfl (am_c_lmul hG (pc := 62) d113_62 (x_put_l hG (pc := 63) d113_63 mo113 f8_77 (by decide) (am_c_aload_n hG (pc := 66) d113_66 rfl (am_c_aload_n hG (pc := 67) d113_67 rfl (x_get_n (v := .inr (.inl ((am_up z1.2 l0 3 (w64 (z1.1 * (z1.2 l0 2)))) l0 1))) hG (pc := 68) d113_68 mo113 f8_28 rfl (am_c_lneg hG (pc := 71) d113_71 (am_c_lload hG (pc := 72) d113_72 rfl (x_static_l (as := [.inr (.inl (w64 (-((am_up z1.2 l0 3 (w64 (z1.1 * (z1.2 l0 2)))) l0 1)))), .inr (.inl (w64 (((am_up μ l0 2 (w64 ((am_cst 1 (o_rem l5 (((am_clen 1 : Nat) : Int)) : Int).toNat) * l2))) l0 2) * 27720)))]) (rest := [.inr (.inr (8, l0))]) hG (pc := 74) d113_74 mo113 m8_74 (by decide) dp113_112 rfl rfl (Nat.le_of_ble_eq_true rfl) (Nat.le_of_ble_eq_true rfl) rg112 sd112 (e112 _ _ _) h (fun z2 h => (am_c_lneg hG (pc := 77) d113_77 (am_c_aload_n hG (pc := 78) d113_78 rfl (x_get_n (v := .inr (.inl (z2.2 l0 2))) hG (pc := 79) d113_79 mo113 f8_69 rfl (am_c_lmul hG (pc := 82) d113_82 (x_put_l hG (pc := 83) d113_83 mo113 f8_80 (by decide) (am_c_aload_n hG (pc := 86) d113_86 rfl (x_get_n (v := .inr (.inl ((am_up z2.2 l0 4 (w64 ((w64 (-z2.1)) * (z2.2 l0 2)))) l0 4))) hG (pc := 87) d113_87 mo113 f8_80 rfl (am_c_aload_n hG (pc := 90) d113_90 rfl (x_get_n (v := .inr (.inl ((am_up z2.2 l0 4 (w64 ((w64 (-z2.1)) * (z2.2 l0 2)))) l0 3))) hG (pc := 91) d113_91 mo113 f8_77 rfl (am_c_lsub hG (pc := 94) d113_94 (am_c_aload_n hG (pc := 95) d113_95 rfl (x_get_n (v := .inr (.inl ((am_up z2.2 l0 4 (w64 ((w64 (-z2.1)) * (z2.2 l0 2)))) l0 2))) hG (pc := 96) d113_96 mo113 f8_69 rfl (x_ldiv hG (pc := 99) d113_99 h (fun h => (am_c_lconst hG (pc := 100) d113_100 (am_c_ladd hG (pc := 101) d113_101 (am_c_iload_n hG (pc := 102) d113_102 rfl (am_c_i2l hG (pc := 103) d113_103 (am_c_lcmp hG (pc := 104) d113_104 (x_if_gt (tgt := 112) hG (pc := 105) d113_105 rfl h (fun h => (am_c_iconst hG (pc := 112) d113_112 (by decide) (x_istore (lv' := [(4, .inl 0), (6, .inr (.inl (w64 (((am_up μ l0 2 (w64 ((am_cst 1 (o_rem l5 (((am_clen 1 : Nat) : Int)) : Int).toNat) * l2))) l0 2) * 27720)))), (0, .inr (.inr (8, l0))), (1, .inl l1), (2, .inr (.inl l2)), (5, .inl l5)]) hG (pc := 113) d113_113 (ml113 _ (by decide)) rfl (am_c_iload hG (pc := 115) d113_115 rfl (am_c_getstatic hG (pc := 117) d113_117 (v := .inr (.inr (30, 1))) (by decide +kernel) (am_c_klen hG (pc := 120) d113_120 (x_irem hG (pc := 121) d113_121 h (fun h => (am_c_getstatic hG (pc := 122) d113_122 (v := .inr (.inr (30, 1))) (by decide +kernel) (am_c_klen hG (pc := 125) d113_125 (am_c_iconst hG (pc := 126) d113_126 (by decide) (am_c_isub hG (pc := 127) d113_127 (x_icmp_ne (tgt := 137) hG (pc := 128) d113_128 rfl h (fun h => (x_iinc (lv' := [(5, .inl (w32 (l5 + 1))), (4, .inl 0), (6, .inr (.inl (w64 (((am_up μ l0 2 (w64 ((am_cst 1 (o_rem l5 (((am_clen 1 : Nat) : Int)) : Int).toNat) * l2))) l0 2) * 27720)))), (0, .inr (.inr (8, l0))), (1, .inl l1), (2, .inr (.inl l2))]) hG (pc := 137) d113_137 rfl (ml113 _ (by decide)) rfl (x_goto (tgt := 8) hG (pc := 140) d113_140 rfl (am_lvw (lv2 := [(0, .inr (.inr (8, l0))), (1, .inl l1), (2, .inr (.inl l2)), (4, .inl 0), (5, .inl (w32 (l5 + 1)))]) [3, 4, 5, 1, 0] rfl (ih _ _ _ _ _ h hI hX))))) (fun h => (am_c_lload_n hG (pc := 131) d113_131 rfl (am_c_ldc2 hG (pc := 132) d113_132 (v := 10) (by decide +kernel) (am_c_lmul hG (pc := 135) d113_135 (x_lstore_n (lv' := [(2, .inr (.inl (w64 (l2 * 10)))), (4, .inl 0), (6, .inr (.inl (w64 (((am_up μ l0 2 (w64 ((am_cst 1 (o_rem l5 (((am_clen 1 : Nat) : Int)) : Int).toNat) * l2))) l0 2) * 27720)))), (0, .inr (.inr (8, l0))), (1, .inl l1), (5, .inl l5)]) hG (pc := 136) d113_136 (ml113 _ (by decide)) rfl (x_iinc (lv' := [(5, .inl (w32 (l5 + 1))), (2, .inr (.inl (w64 (l2 * 10)))), (4, .inl 0), (6, .inr (.inl (w64 (((am_up μ l0 2 (w64 ((am_cst 1 (o_rem l5 (((am_clen 1 : Nat) : Int)) : Int).toNat) * l2))) l0 2) * 27720)))), (0, .inr (.inr (8, l0))), (1, .inl l1)]) hG (pc := 137) d113_137 rfl (ml113 _ (by decide)) rfl (x_goto (tgt := 8) hG (pc := 140) d113_140 rfl (am_lvw (lv2 := [(0, .inr (.inr (8, l0))), (1, .inl l1), (2, .inr (.inl (w64 (l2 * 10)))), (4, .inl 0), (5, .inl (w32 (l5 + 1)))]) [4, 5, 1, 2, 0] rfl (ih _ _ _ _ _ h hI hX)))))))))))))))))))))) (fun h => (am_c_iconst hG (pc := 108) d113_108 (by decide) (x_goto (tgt := 113) hG (pc := 109) d113_109 rfl (x_istore (lv' := [(4, .inl 1), (6, .inr (.inl (w64 (((am_up μ l0 2 (w64 ((am_cst 1 (o_rem l5 (((am_clen 1 : Nat) : Int)) : Int).toNat) * l2))) l0 2) * 27720)))), (0, .inr (.inr (8, l0))), (1, .inl l1), (2, .inr (.inl l2)), (5, .inl l5)]) hG (pc := 113) d113_113 (ml113 _ (by decide)) rfl (am_c_iload hG (pc := 115) d113_115 rfl (am_c_getstatic hG (pc := 117) d113_117 (v := .inr (.inr (30, 1))) (by decide +kernel) (am_c_klen hG (pc := 120) d113_120 (x_irem hG (pc := 121) d113_121 h (fun h => (am_c_getstatic hG (pc := 122) d113_122 (v := .inr (.inr (30, 1))) (by decide +kernel) (am_c_klen hG (pc := 125) d113_125 (am_c_iconst hG (pc := 126) d113_126 (by decide) (am_c_isub hG (pc := 127) d113_127 (x_icmp_ne (tgt := 137) hG (pc := 128) d113_128 rfl h (fun h => (x_iinc (lv' := [(5, .inl (w32 (l5 + 1))), (4, .inl 1), (6, .inr (.inl (w64 (((am_up μ l0 2 (w64 ((am_cst 1 (o_rem l5 (((am_clen 1 : Nat) : Int)) : Int).toNat) * l2))) l0 2) * 27720)))), (0, .inr (.inr (8, l0))), (1, .inl l1), (2, .inr (.inl l2))]) hG (pc := 137) d113_137 rfl (ml113 _ (by decide)) rfl (x_goto (tgt := 8) hG (pc := 140) d113_140 rfl (am_lvw (lv2 := [(0, .inr (.inr (8, l0))), (1, .inl l1), (2, .inr (.inl l2)), (4, .inl 1), (5, .inl (w32 (l5 + 1)))]) [3, 4, 5, 1, 0] rfl (ih _ _ _ _ _ h hI hX))))) (fun h => (am_c_lload_n hG (pc := 131) d113_131 rfl (am_c_ldc2 hG (pc := 132) d113_132 (v := 10) (by decide +kernel) (am_c_lmul hG (pc := 135) d113_135 (x_lstore_n (lv' := [(2, .inr (.inl (w64 (l2 * 10)))), (4, .inl 1), (6, .inr (.inl (w64 (((am_up μ l0 2 (w64 ((am_cst 1 (o_rem l5 (((am_clen 1 : Nat) : Int)) : Int).toNat) * l2))) l0 2) * 27720)))), (0, .inr (.inr (8, l0))), (1, .inl l1), (5, .inl l5)]) hG (pc := 136) d113_136 (ml113 _ (by decide)) rfl (x_iinc (lv' := [(5, .inl (w32 (l5 + 1))), (2, .inr (.inl (w64 (l2 * 10)))), (4, .inl 1), (6, .inr (.inl (w64 (((am_up μ l0 2 (w64 ((am_cst 1 (o_rem l5 (((am_clen 1 : Nat) : Int)) : Int).toNat) * l2))) l0 2) * 27720)))), (0, .inr (.inr (8, l0))), (1, .inl l1)]) hG (pc := 137) d113_137 rfl (ml113 _ (by decide)) rfl (x_goto (tgt := 8) hG (pc := 140) d113_140 rfl (am_lvw (lv2 := [(0, .inr (.inr (8, l0))), (1, .inl l1), (2, .inr (.inl (w64 (l2 * 10)))), (4, .inl 1), (5, .inl (w32 (l5 + 1)))]) [4, 5, 1, 2, 0] rfl (ih _ _ _ _ _ h hI hX)))))))))))))))))))))))))))))))))))))))))))))))))))))))))))))))))))))))))))))))))))))
def fn113 (o : Nat) (a : Int) (μ : am_M) : Option (Int × am_M) := (am_op (L113_8 o a am_fuel 1 0 0 μ) (fun s => am_lp s (fun q1 => some q1) (fun t1 => some (0, t1.2.2.2))))
def sp113 : am_F := fun vs μ => am_aR 8 vs fun o vs => am_aI vs fun a vs => am_a0 vs (fn113 o a μ)
theorem e113 (o : Nat) (a : Int) (μ : am_M) : sp113 [.inr (.inr (8, o)), .inl a] μ = fn113 o a μ := am_aR_c.trans (am_aI_c.trans am_a0_c)
theorem sd113 : am_Sd 113 sp113 := by
  refine am_Sd_of (by decide) (fun vs μ μ' x h hv hM => ?_)
  obtain ⟨o, vs0, rfl, h0⟩ := am_aR_s h
  obtain ⟨a, vs1, rfl, h1⟩ := am_aI_s h0
  obtain ⟨rfl, hz⟩ := am_a0_s h1
  refine ⟨Nat.le_of_ble_eq_true rfl, fun X C hG hr => ?_⟩
  have h := hz
  unfold fn113 at h
  exact (show am_W X C 113 _ 0 0 0 [(0, .inr (.inr (8, o))), (1, .inl a)] [] μ from (am_c_lconst hG (pc := 0) d113_0 (x_lstore_n (lv' := [(2, .inr (.inl 1)), (0, .inr (.inr (8, o))), (1, .inl a)]) hG (pc := 1) d113_1 (ml113 _ (by decide)) rfl (am_c_iconst hG (pc := 2) d113_2 (by decide) (x_istore (lv' := [(4, .inl 0), (2, .inr (.inl 1)), (0, .inr (.inr (8, o))), (1, .inl a)]) hG (pc := 3) d113_3 (ml113 _ (by decide)) rfl (am_c_iconst hG (pc := 5) d113_5 (by decide) (x_istore (lv' := [(5, .inl 0), (4, .inl 0), (2, .inr (.inl 1)), (0, .inr (.inr (8, o))), (1, .inl a)]) hG (pc := 6) d113_6 (ml113 _ (by decide)) rfl (x_lp h (fun r h1 h2 => (am_lvw (lv2 := [(0, .inr (.inr (8, o))), (1, .inl a), (2, .inr (.inl 1)), (4, .inl 0), (5, .inl 0)]) [3, 4, 2, 1, 0] rfl (w113_8 hG hr _ _ _ _ _ _ _ _ h1 (fun q1 e => am_q1 e h2 (fun h => am_q0 h)) (fun t1 e => am_q2 e h2 (fun h => (xq_vret hG (by decide) hr (pc := 143) d113_143 rk113 (am_q0 h)))))))))))))))
/-! ChartPress$Scale.fit(LChartPress$Groups;LChartPress$Request;)V -/
theorem D114 (k : Nat) {pc : Nat} {i : Instr} (h : tbi114[k]? = some (pc, i)) (hs : am_isw i = false) {n : Nat} (hn : am_il i = n) : decode (am_mc 114) pc = .ok (i, n) := am_d2 (by decide) (by decide) rfl h hs hn
theorem d114_0 : decode (am_mc 114) 0 = .ok (.aload_n 2, 1) := D114 0 rfl rfl rfl
theorem d114_1 : decode (am_mc 114) 1 = .ok (.invokevirtual 9, 3) := D114 1 rfl rfl rfl
theorem d114_4 : decode (am_mc 114) 4 = .ok (.ifCond .ne 11, 3) := D114 2 rfl rfl rfl
theorem d114_7 : decode (am_mc 114) 7 = .ok (.aload_n 0, 1) := D114 3 rfl rfl rfl
theorem d114_8 : decode (am_mc 114) 8 = .ok (.aload_n 1, 1) := D114 4 rfl rfl rfl
theorem d114_9 : decode (am_mc 114) 9 = .ok (.invokevirtual 15, 3) := D114 5 rfl rfl rfl
theorem d114_12 : decode (am_mc 114) 12 = .ok (.goto 8, 3) := D114 6 rfl rfl rfl
theorem d114_15 : decode (am_mc 114) 15 = .ok (.aload_n 0, 1) := D114 7 rfl rfl rfl
theorem d114_16 : decode (am_mc 114) 16 = .ok (.aload_n 1, 1) := D114 8 rfl rfl rfl
theorem d114_17 : decode (am_mc 114) 17 = .ok (.invokevirtual 21, 3) := D114 9 rfl rfl rfl
theorem d114_20 : decode (am_mc 114) 20 = .ok (.aload_n 0, 1) := D114 10 rfl rfl rfl
theorem d114_21 : decode (am_mc 114) 21 = .ok (.getfield 24, 3) := D114 11 rfl rfl rfl
theorem d114_24 : decode (am_mc 114) 24 = .ok (.aload_n 0, 1) := D114 12 rfl rfl rfl
theorem d114_25 : decode (am_mc 114) 25 = .ok (.getfield 28, 3) := D114 13 rfl rfl rfl
theorem d114_28 : decode (am_mc 114) 28 = .ok (.lcmp, 1) := D114 14 rfl rfl rfl
theorem d114_29 : decode (am_mc 114) 29 = .ok (.ifCond .ne 27, 3) := D114 15 rfl rfl rfl
theorem d114_32 : decode (am_mc 114) 32 = .ok (.aload_n 0, 1) := D114 16 rfl rfl rfl
theorem d114_33 : decode (am_mc 114) 33 = .ok (.dup, 1) := D114 17 rfl rfl rfl
theorem d114_34 : decode (am_mc 114) 34 = .ok (.getfield 24, 3) := D114 18 rfl rfl rfl
theorem d114_37 : decode (am_mc 114) 37 = .ok (.ldc2_w 31, 3) := D114 19 rfl rfl rfl
theorem d114_40 : decode (am_mc 114) 40 = .ok (.lsub, 1) := D114 20 rfl rfl rfl
theorem d114_41 : decode (am_mc 114) 41 = .ok (.putfield 24, 3) := D114 21 rfl rfl rfl
theorem d114_44 : decode (am_mc 114) 44 = .ok (.aload_n 0, 1) := D114 22 rfl rfl rfl
theorem d114_45 : decode (am_mc 114) 45 = .ok (.dup, 1) := D114 23 rfl rfl rfl
theorem d114_46 : decode (am_mc 114) 46 = .ok (.getfield 28, 3) := D114 24 rfl rfl rfl
theorem d114_49 : decode (am_mc 114) 49 = .ok (.ldc2_w 31, 3) := D114 25 rfl rfl rfl
theorem d114_52 : decode (am_mc 114) 52 = .ok (.ladd, 1) := D114 26 rfl rfl rfl
theorem d114_53 : decode (am_mc 114) 53 = .ok (.putfield 28, 3) := D114 27 rfl rfl rfl
theorem d114_56 : decode (am_mc 114) 56 = .ok (.aload_n 0, 1) := D114 28 rfl rfl rfl
theorem d114_57 : decode (am_mc 114) 57 = .ok (.aload_n 2, 1) := D114 29 rfl rfl rfl
theorem d114_58 : decode (am_mc 114) 58 = .ok (.invokevirtual 33, 3) := D114 30 rfl rfl rfl
theorem d114_61 : decode (am_mc 114) 61 = .ok (.invokevirtual 36, 3) := D114 31 rfl rfl rfl
theorem d114_64 : decode (am_mc 114) 64 = .ok (.return_, 1) := D114 32 rfl rfl rfl
theorem ml114 : ∀ n, n < 3 → n < am_ml 114 := fun _ h => h
theorem mo114 : am_mo 114 = 8 := by decide +kernel
theorem rk114 : am_rk 114 = 0 := by decide +kernel
theorem rg114 : am_rcg 114 = 9 := by decide +kernel
theorem m8_9 : tb_m 8 9 = some (102, 1, 1, 0) := by decide +kernel
theorem m8_15 : tb_m 8 15 = some (108, 2, 0, 0) := by decide +kernel
theorem m8_21 : tb_m 8 21 = some (110, 2, 0, 0) := by decide +kernel
theorem m8_33 : tb_m 8 33 = some (111, 1, 1, 0) := by decide +kernel
theorem m8_36 : tb_m 8 36 = some (113, 2, 0, 0) := by decide +kernel
theorem dp114_102 : am_md 102 + 1 ≤ am_md 114 ∧ 8 + (am_ml 102 + 11) + am_lr 102 ≤ am_lr 114 := by decide +kernel
theorem dp114_108 : am_md 108 + 1 ≤ am_md 114 ∧ 8 + (am_ml 108 + 11) + am_lr 108 ≤ am_lr 114 := by decide +kernel
theorem dp114_110 : am_md 110 + 1 ≤ am_md 114 ∧ 8 + (am_ml 110 + 11) + am_lr 110 ≤ am_lr 114 := by decide +kernel
theorem dp114_111 : am_md 111 + 1 ≤ am_md 114 ∧ 8 + (am_ml 111 + 11) + am_lr 111 ≤ am_lr 114 := by decide +kernel
theorem dp114_113 : am_md 113 + 1 ≤ am_md 114 ∧ 8 + (am_ml 113 + 11) + am_lr 113 ≤ am_lr 114 := by decide +kernel
def fn114 (o : Nat) (a : Nat) (b : Nat) (μ : am_M) : Option (Int × am_M) := (am_op (fn102 b μ) (fun z1 => (if z1.1 = 0 then (am_op (fn108 o a z1.2) (fun z7 => (if o_cmp (z7.2 o 0) (z7.2 o 1) = 0 then (am_op (fn111 b (am_up (am_up z7.2 o 0 (w64 ((z7.2 o 0) - 27720000))) o 1 (w64 (((am_up z7.2 o 0 (w64 ((z7.2 o 0) - 27720000))) o 1) + 27720000)))) (fun z10 => (am_op (fn113 o z10.1 z10.2) (fun z11 => some (0, z11.2))))) else (am_op (fn111 b z7.2) (fun z8 => (am_op (fn113 o z8.1 z8.2) (fun z9 => some (0, z9.2)))))))) else (am_op (fn110 o a z1.2) (fun z2 => (if o_cmp (z2.2 o 0) (z2.2 o 1) = 0 then (am_op (fn111 b (am_up (am_up z2.2 o 0 (w64 ((z2.2 o 0) - 27720000))) o 1 (w64 (((am_up z2.2 o 0 (w64 ((z2.2 o 0) - 27720000))) o 1) + 27720000)))) (fun z5 => (am_op (fn113 o z5.1 z5.2) (fun z6 => some (0, z6.2))))) else (am_op (fn111 b z2.2) (fun z3 => (am_op (fn113 o z3.1 z3.2) (fun z4 => some (0, z4.2)))))))))))
def sp114 : am_F := fun vs μ => am_aR 8 vs fun o vs => am_aR 6 vs fun a vs => am_aR 4 vs fun b vs => am_a0 vs (fn114 o a b μ)
theorem e114 (o : Nat) (a : Nat) (b : Nat) (μ : am_M) : sp114 [.inr (.inr (8, o)), .inr (.inr (6, a)), .inr (.inr (4, b))] μ = fn114 o a b μ := am_aR_c.trans (am_aR_c.trans (am_aR_c.trans am_a0_c))
theorem sd114 : am_Sd 114 sp114 := by
  refine am_Sd_of (by decide) (fun vs μ μ' x h hv hM => ?_)
  obtain ⟨o, vs0, rfl, h0⟩ := am_aR_s h
  obtain ⟨a, vs1, rfl, h1⟩ := am_aR_s h0
  obtain ⟨b, vs2, rfl, h2⟩ := am_aR_s h1
  obtain ⟨rfl, hz⟩ := am_a0_s h2
  refine ⟨Nat.le_of_ble_eq_true rfl, fun X C hG hr => ?_⟩
  have h := hz
  unfold fn114 at h
  exact (show am_W X C 114 _ 0 0 0 [(0, .inr (.inr (8, o))), (1, .inr (.inr (6, a))), (2, .inr (.inr (4, b)))] [] μ from (am_c_aload_n hG (pc := 0) d114_0 rfl (x_virtual_i (t := 4) (o := b) (as2 := []) (rest := []) hG (pc := 1) d114_1 mo114 m8_9 (by decide) dp114_102 rfl rfl (Nat.le_of_ble_eq_true rfl) (Nat.le_of_ble_eq_true rfl) rg102 sd102 (e102 _ _) h (fun z1 h => (x_if_ne (tgt := 15) hG (pc := 4) d114_4 rfl h (fun h => (am_c_aload_n hG (pc := 15) d114_15 rfl (am_c_aload_n hG (pc := 16) d114_16 rfl (x_virtual_v (t := 8) (o := o) (as2 := [.inr (.inr (6, a))]) (rest := []) hG (pc := 17) d114_17 mo114 m8_21 (by decide) dp114_110 rfl rfl (Nat.le_of_ble_eq_true rfl) (Nat.le_of_ble_eq_true rfl) rg110 sd110 (e110 _ _ _) h (fun z2 h => (am_c_aload_n hG (pc := 20) d114_20 rfl (x_get_n (v := .inr (.inl (z2.2 o 0))) hG (pc := 21) d114_21 mo114 f8_24 rfl (am_c_aload_n hG (pc := 24) d114_24 rfl (x_get_n (v := .inr (.inl (z2.2 o 1))) hG (pc := 25) d114_25 mo114 f8_28 rfl (am_c_lcmp hG (pc := 28) d114_28 (x_if_ne (tgt := 56) hG (pc := 29) d114_29 rfl h (fun h => (am_c_aload_n hG (pc := 56) d114_56 rfl (am_c_aload_n hG (pc := 57) d114_57 rfl (x_virtual_i (t := 4) (o := b) (as2 := []) (rest := [.inr (.inr (8, o))]) hG (pc := 58) d114_58 mo114 m8_33 (by decide) dp114_111 rfl rfl (Nat.le_of_ble_eq_true rfl) (Nat.le_of_ble_eq_true rfl) rg111 sd111 (e111 _ _) h (fun z3 h => (x_virtual_v (t := 8) (o := o) (as2 := [.inl z3.1]) (rest := []) hG (pc := 61) d114_61 mo114 m8_36 (by decide) dp114_113 rfl rfl (Nat.le_of_ble_eq_true rfl) (Nat.le_of_ble_eq_true rfl) rg113 sd113 (e113 _ _ _) h (fun z4 h => (xq_vret hG (by decide) hr (pc := 64) d114_64 rk114 (am_q0 h))))))))) (fun h => (am_c_aload_n hG (pc := 32) d114_32 rfl (am_c_dup hG (pc := 33) d114_33 rfl (x_get_n (v := .inr (.inl (z2.2 o 0))) hG (pc := 34) d114_34 mo114 f8_24 rfl (am_c_ldc2 hG (pc := 37) d114_37 (v := 27720000) (by decide +kernel) (am_c_lsub hG (pc := 40) d114_40 (x_put_l hG (pc := 41) d114_41 mo114 f8_24 (by decide) (am_c_aload_n hG (pc := 44) d114_44 rfl (am_c_dup hG (pc := 45) d114_45 rfl (x_get_n (v := .inr (.inl ((am_up z2.2 o 0 (w64 ((z2.2 o 0) - 27720000))) o 1))) hG (pc := 46) d114_46 mo114 f8_28 rfl (am_c_ldc2 hG (pc := 49) d114_49 (v := 27720000) (by decide +kernel) (am_c_ladd hG (pc := 52) d114_52 (x_put_l hG (pc := 53) d114_53 mo114 f8_28 (by decide) (am_c_aload_n hG (pc := 56) d114_56 rfl (am_c_aload_n hG (pc := 57) d114_57 rfl (x_virtual_i (t := 4) (o := b) (as2 := []) (rest := [.inr (.inr (8, o))]) hG (pc := 58) d114_58 mo114 m8_33 (by decide) dp114_111 rfl rfl (Nat.le_of_ble_eq_true rfl) (Nat.le_of_ble_eq_true rfl) rg111 sd111 (e111 _ _) h (fun z5 h => (x_virtual_v (t := 8) (o := o) (as2 := [.inl z5.1]) (rest := []) hG (pc := 61) d114_61 mo114 m8_36 (by decide) dp114_113 rfl rfl (Nat.le_of_ble_eq_true rfl) (Nat.le_of_ble_eq_true rfl) rg113 sd113 (e113 _ _ _) h (fun z6 h => (xq_vret hG (by decide) hr (pc := 64) d114_64 rk114 (am_q0 h)))))))))))))))))))))))))))))))) (fun h => (am_c_aload_n hG (pc := 7) d114_7 rfl (am_c_aload_n hG (pc := 8) d114_8 rfl (x_virtual_v (t := 8) (o := o) (as2 := [.inr (.inr (6, a))]) (rest := []) hG (pc := 9) d114_9 mo114 m8_15 (by decide) dp114_108 rfl rfl (Nat.le_of_ble_eq_true rfl) (Nat.le_of_ble_eq_true rfl) rg108 sd108 (e108 _ _ _) h (fun z7 h => (x_goto (tgt := 20) hG (pc := 12) d114_12 rfl (am_c_aload_n hG (pc := 20) d114_20 rfl (x_get_n (v := .inr (.inl (z7.2 o 0))) hG (pc := 21) d114_21 mo114 f8_24 rfl (am_c_aload_n hG (pc := 24) d114_24 rfl (x_get_n (v := .inr (.inl (z7.2 o 1))) hG (pc := 25) d114_25 mo114 f8_28 rfl (am_c_lcmp hG (pc := 28) d114_28 (x_if_ne (tgt := 56) hG (pc := 29) d114_29 rfl h (fun h => (am_c_aload_n hG (pc := 56) d114_56 rfl (am_c_aload_n hG (pc := 57) d114_57 rfl (x_virtual_i (t := 4) (o := b) (as2 := []) (rest := [.inr (.inr (8, o))]) hG (pc := 58) d114_58 mo114 m8_33 (by decide) dp114_111 rfl rfl (Nat.le_of_ble_eq_true rfl) (Nat.le_of_ble_eq_true rfl) rg111 sd111 (e111 _ _) h (fun z8 h => (x_virtual_v (t := 8) (o := o) (as2 := [.inl z8.1]) (rest := []) hG (pc := 61) d114_61 mo114 m8_36 (by decide) dp114_113 rfl rfl (Nat.le_of_ble_eq_true rfl) (Nat.le_of_ble_eq_true rfl) rg113 sd113 (e113 _ _ _) h (fun z9 h => (xq_vret hG (by decide) hr (pc := 64) d114_64 rk114 (am_q0 h))))))))) (fun h => (am_c_aload_n hG (pc := 32) d114_32 rfl (am_c_dup hG (pc := 33) d114_33 rfl (x_get_n (v := .inr (.inl (z7.2 o 0))) hG (pc := 34) d114_34 mo114 f8_24 rfl (am_c_ldc2 hG (pc := 37) d114_37 (v := 27720000) (by decide +kernel) (am_c_lsub hG (pc := 40) d114_40 (x_put_l hG (pc := 41) d114_41 mo114 f8_24 (by decide) (am_c_aload_n hG (pc := 44) d114_44 rfl (am_c_dup hG (pc := 45) d114_45 rfl (x_get_n (v := .inr (.inl ((am_up z7.2 o 0 (w64 ((z7.2 o 0) - 27720000))) o 1))) hG (pc := 46) d114_46 mo114 f8_28 rfl (am_c_ldc2 hG (pc := 49) d114_49 (v := 27720000) (by decide +kernel) (am_c_ladd hG (pc := 52) d114_52 (x_put_l hG (pc := 53) d114_53 mo114 f8_28 (by decide) (am_c_aload_n hG (pc := 56) d114_56 rfl (am_c_aload_n hG (pc := 57) d114_57 rfl (x_virtual_i (t := 4) (o := b) (as2 := []) (rest := [.inr (.inr (8, o))]) hG (pc := 58) d114_58 mo114 m8_33 (by decide) dp114_111 rfl rfl (Nat.le_of_ble_eq_true rfl) (Nat.le_of_ble_eq_true rfl) rg111 sd111 (e111 _ _) h (fun z10 h => (x_virtual_v (t := 8) (o := o) (as2 := [.inl z10.1]) (rest := []) hG (pc := 61) d114_61 mo114 m8_36 (by decide) dp114_113 rfl rfl (Nat.le_of_ble_eq_true rfl) (Nat.le_of_ble_eq_true rfl) rg113 sd113 (e113 _ _ _) h (fun z11 h => (xq_vret hG (by decide) hr (pc := 64) d114_64 rk114 (am_q0 h))))))))))))))))))))))))))))))))))))))
/-! ChartPress$Scale.ticks()I -/
theorem D115 (k : Nat) {pc : Nat} {i : Instr} (h : tbi115[k]? = some (pc, i)) (hs : am_isw i = false) {n : Nat} (hn : am_il i = n) : decode (am_mc 115) pc = .ok (i, n) := am_d2 (by decide) (by decide) rfl h hs hn
theorem d115_0 : decode (am_mc 115) 0 = .ok (.aload_n 0, 1) := D115 0 rfl rfl rfl
theorem d115_1 : decode (am_mc 115) 1 = .ok (.getfield 69, 3) := D115 1 rfl rfl rfl
theorem d115_4 : decode (am_mc 115) 4 = .ok (.lconst 0, 1) := D115 2 rfl rfl rfl
theorem d115_5 : decode (am_mc 115) 5 = .ok (.lcmp, 1) := D115 3 rfl rfl rfl
theorem d115_6 : decode (am_mc 115) 6 = .ok (.ifCond .le 23, 3) := D115 4 rfl rfl rfl
theorem d115_9 : decode (am_mc 115) 9 = .ok (.aload_n 0, 1) := D115 5 rfl rfl rfl
theorem d115_10 : decode (am_mc 115) 10 = .ok (.getfield 80, 3) := D115 6 rfl rfl rfl
theorem d115_13 : decode (am_mc 115) 13 = .ok (.aload_n 0, 1) := D115 7 rfl rfl rfl
theorem d115_14 : decode (am_mc 115) 14 = .ok (.getfield 77, 3) := D115 8 rfl rfl rfl
theorem d115_17 : decode (am_mc 115) 17 = .ok (.lsub, 1) := D115 9 rfl rfl rfl
theorem d115_18 : decode (am_mc 115) 18 = .ok (.aload_n 0, 1) := D115 10 rfl rfl rfl
theorem d115_19 : decode (am_mc 115) 19 = .ok (.getfield 69, 3) := D115 11 rfl rfl rfl
theorem d115_22 : decode (am_mc 115) 22 = .ok (.ldiv, 1) := D115 12 rfl rfl rfl
theorem d115_23 : decode (am_mc 115) 23 = .ok (.l2i, 1) := D115 13 rfl rfl rfl
theorem d115_24 : decode (am_mc 115) 24 = .ok (.iconst 1, 1) := D115 14 rfl rfl rfl
theorem d115_25 : decode (am_mc 115) 25 = .ok (.iadd, 1) := D115 15 rfl rfl rfl
theorem d115_26 : decode (am_mc 115) 26 = .ok (.goto 4, 3) := D115 16 rfl rfl rfl
theorem d115_29 : decode (am_mc 115) 29 = .ok (.iconst 0, 1) := D115 17 rfl rfl rfl
theorem d115_30 : decode (am_mc 115) 30 = .ok (.ireturn, 1) := D115 18 rfl rfl rfl
theorem ml115 : ∀ n, n < 1 → n < am_ml 115 := fun _ h => h
theorem mo115 : am_mo 115 = 8 := by decide +kernel
theorem mr115 : am_mr 115 = some .int := by decide +kernel
theorem rg115 : am_rcg 115 = 9 := by decide +kernel
def fn115 (o : Nat) (μ : am_M) : Option (Int × am_M) := (if 0 < o_cmp (μ o 2) 0 then (if μ o 2 = 0 then none else some (w32 ((o_l2i (o_divl (w64 ((μ o 4) - (μ o 3))) (μ o 2))) + 1), μ)) else some (0, μ))
def sp115 : am_F := fun vs μ => am_aR 8 vs fun o vs => am_a0 vs (fn115 o μ)
theorem e115 (o : Nat) (μ : am_M) : sp115 [.inr (.inr (8, o))] μ = fn115 o μ := am_aR_c.trans am_a0_c
theorem sd115 : am_Sd 115 sp115 := by
  refine am_Sd_of (by decide) (fun vs μ μ' x h hv hM => ?_)
  obtain ⟨o, vs0, rfl, h0⟩ := am_aR_s h
  obtain ⟨rfl, hz⟩ := am_a0_s h0
  refine ⟨Nat.le_of_ble_eq_true rfl, fun X C hG hr => ?_⟩
  have h := hz
  unfold fn115 at h
  exact (show am_W X C 115 _ 0 0 0 [(0, .inr (.inr (8, o)))] [] μ from (am_c_aload_n hG (pc := 0) d115_0 rfl (x_get_n (v := .inr (.inl (μ o 2))) hG (pc := 1) d115_1 mo115 f8_69 rfl (am_c_lconst hG (pc := 4) d115_4 (am_c_lcmp hG (pc := 5) d115_5 (x_if_le (tgt := 29) hG (pc := 6) d115_6 rfl h (fun h => (am_c_iconst hG (pc := 29) d115_29 (by decide) (xq_iret hG (by decide) hr (pc := 30) d115_30 mr115 (am_q0 h)))) (fun h => (am_c_aload_n hG (pc := 9) d115_9 rfl (x_get_n (v := .inr (.inl (μ o 4))) hG (pc := 10) d115_10 mo115 f8_80 rfl (am_c_aload_n hG (pc := 13) d115_13 rfl (x_get_n (v := .inr (.inl (μ o 3))) hG (pc := 14) d115_14 mo115 f8_77 rfl (am_c_lsub hG (pc := 17) d115_17 (am_c_aload_n hG (pc := 18) d115_18 rfl (x_get_n (v := .inr (.inl (μ o 2))) hG (pc := 19) d115_19 mo115 f8_69 rfl (x_ldiv hG (pc := 22) d115_22 h (fun h => (am_c_l2i hG (pc := 23) d115_23 (am_c_iconst hG (pc := 24) d115_24 (by decide) (am_c_iadd hG (pc := 25) d115_25 (x_goto (tgt := 30) hG (pc := 26) d115_26 rfl (xq_iret hG (by decide) hr (pc := 30) d115_30 mr115 (am_q0 h))))))))))))))))))))))
/-! ChartPress$Scale.tick(I)J -/
theorem D116 (k : Nat) {pc : Nat} {i : Instr} (h : tbi116[k]? = some (pc, i)) (hs : am_isw i = false) {n : Nat} (hn : am_il i = n) : decode (am_mc 116) pc = .ok (i, n) := am_d2 (by decide) (by decide) rfl h hs hn
theorem d116_0 : decode (am_mc 116) 0 = .ok (.aload_n 0, 1) := D116 0 rfl rfl rfl
theorem d116_1 : decode (am_mc 116) 1 = .ok (.getfield 77, 3) := D116 1 rfl rfl rfl
theorem d116_4 : decode (am_mc 116) 4 = .ok (.iload_n 1, 1) := D116 2 rfl rfl rfl
theorem d116_5 : decode (am_mc 116) 5 = .ok (.i2l, 1) := D116 3 rfl rfl rfl
theorem d116_6 : decode (am_mc 116) 6 = .ok (.aload_n 0, 1) := D116 4 rfl rfl rfl
theorem d116_7 : decode (am_mc 116) 7 = .ok (.getfield 69, 3) := D116 5 rfl rfl rfl
theorem d116_10 : decode (am_mc 116) 10 = .ok (.lmul, 1) := D116 6 rfl rfl rfl
theorem d116_11 : decode (am_mc 116) 11 = .ok (.ladd, 1) := D116 7 rfl rfl rfl
theorem d116_12 : decode (am_mc 116) 12 = .ok (.lreturn, 1) := D116 8 rfl rfl rfl
theorem ml116 : ∀ n, n < 2 → n < am_ml 116 := fun _ h => h
theorem mo116 : am_mo 116 = 8 := by decide +kernel
theorem rk116 : am_rk 116 = 2 := by decide +kernel
theorem rg116 : am_rcg 116 = 9 := by decide +kernel
def fn116 (o : Nat) (a : Int) (μ : am_M) : Option (Int × am_M) := some (w64 ((μ o 3) + (w64 (a * (μ o 2)))), μ)
def sp116 : am_F := fun vs μ => am_aR 8 vs fun o vs => am_aI vs fun a vs => am_a0 vs (fn116 o a μ)
theorem e116 (o : Nat) (a : Int) (μ : am_M) : sp116 [.inr (.inr (8, o)), .inl a] μ = fn116 o a μ := am_aR_c.trans (am_aI_c.trans am_a0_c)
theorem sd116 : am_Sd 116 sp116 := by
  refine am_Sd_of (by decide) (fun vs μ μ' x h hv hM => ?_)
  obtain ⟨o, vs0, rfl, h0⟩ := am_aR_s h
  obtain ⟨a, vs1, rfl, h1⟩ := am_aI_s h0
  obtain ⟨rfl, hz⟩ := am_a0_s h1
  refine ⟨Nat.le_of_ble_eq_true rfl, fun X C hG hr => ?_⟩
  have h := hz
  unfold fn116 at h
  exact (show am_W X C 116 _ 0 0 0 [(0, .inr (.inr (8, o))), (1, .inl a)] [] μ from (am_c_aload_n hG (pc := 0) d116_0 rfl (x_get_n (v := .inr (.inl (μ o 3))) hG (pc := 1) d116_1 mo116 f8_77 rfl (am_c_iload_n hG (pc := 4) d116_4 rfl (am_c_i2l hG (pc := 5) d116_5 (am_c_aload_n hG (pc := 6) d116_6 rfl (x_get_n (v := .inr (.inl (μ o 2))) hG (pc := 7) d116_7 mo116 f8_69 rfl (am_c_lmul hG (pc := 10) d116_10 (am_c_ladd hG (pc := 11) d116_11 (xq_lret hG (by decide) hr (pc := 12) d116_12 rk116 (am_q0 h)))))))))))
/-! java/lang/Math.abs(J)J -/
theorem D117 (k : Nat) {pc : Nat} {i : Instr} (h : tbi117[k]? = some (pc, i)) (hs : am_isw i = false) {n : Nat} (hn : am_il i = n) : decode (am_mc 117) pc = .ok (i, n) := am_d2 (by decide) (by decide) rfl h hs hn
theorem d117_0 : decode (am_mc 117) 0 = .ok (.lload_n 0, 1) := D117 0 rfl rfl rfl
theorem d117_1 : decode (am_mc 117) 1 = .ok (.lconst 0, 1) := D117 1 rfl rfl rfl
theorem d117_2 : decode (am_mc 117) 2 = .ok (.lcmp, 1) := D117 2 rfl rfl rfl
theorem d117_3 : decode (am_mc 117) 3 = .ok (.ifCond .ge 8, 3) := D117 3 rfl rfl rfl
theorem d117_6 : decode (am_mc 117) 6 = .ok (.lload_n 0, 1) := D117 4 rfl rfl rfl
theorem d117_7 : decode (am_mc 117) 7 = .ok (.lneg, 1) := D117 5 rfl rfl rfl
theorem d117_8 : decode (am_mc 117) 8 = .ok (.goto 4, 3) := D117 6 rfl rfl rfl
theorem d117_11 : decode (am_mc 117) 11 = .ok (.lload_n 0, 1) := D117 7 rfl rfl rfl
theorem d117_12 : decode (am_mc 117) 12 = .ok (.lreturn, 1) := D117 8 rfl rfl rfl
theorem ml117 : ∀ n, n < 2 → n < am_ml 117 := fun _ h => h
theorem mo117 : am_mo 117 = 13 := by decide +kernel
theorem rk117 : am_rk 117 = 2 := by decide +kernel
theorem rg117 : am_rcg 117 = 0 := by decide +kernel
def fn117 (a : Int) (μ : am_M) : Option (Int × am_M) := (if o_cmp a 0 < 0 then some (w64 (-a), μ) else some (a, μ))
def sp117 : am_F := fun vs μ => am_aJ vs fun a vs => am_a0 vs (fn117 a μ)
theorem e117 (a : Int) (μ : am_M) : sp117 [.inr (.inl a)] μ = fn117 a μ := am_aJ_c.trans am_a0_c
theorem sd117 : am_Sd 117 sp117 := by
  refine am_Sd_of (by decide) (fun vs μ μ' x h hv hM => ?_)
  obtain ⟨a, vs0, rfl, h0⟩ := am_aJ_s h
  obtain ⟨rfl, hz⟩ := am_a0_s h0
  refine ⟨Nat.le_of_ble_eq_true rfl, fun X C hG hr => ?_⟩
  have h := hz
  unfold fn117 at h
  exact (show am_W X C 117 _ 0 0 0 [(0, .inr (.inl a))] [] μ from (am_c_lload_n hG (pc := 0) d117_0 rfl (am_c_lconst hG (pc := 1) d117_1 (am_c_lcmp hG (pc := 2) d117_2 (x_if_ge (tgt := 11) hG (pc := 3) d117_3 rfl h (fun h => (am_c_lload_n hG (pc := 11) d117_11 rfl (xq_lret hG (by decide) hr (pc := 12) d117_12 rk117 (am_q0 h)))) (fun h => (am_c_lload_n hG (pc := 6) d117_6 rfl (am_c_lneg hG (pc := 7) d117_7 (x_goto (tgt := 12) hG (pc := 8) d117_8 rfl (xq_lret hG (by decide) hr (pc := 12) d117_12 rk117 (am_q0 h)))))))))))
/-! ChartPress$Letters.writeWhole(J)V -/
theorem D118 (k : Nat) {pc : Nat} {i : Instr} (h : tbi118[k]? = some (pc, i)) (hs : am_isw i = false) {n : Nat} (hn : am_il i = n) : decode (am_mc 118) pc = .ok (i, n) := am_d2 (by decide) (by decide) rfl h hs hn
theorem d118_0 : decode (am_mc 118) 0 = .ok (.lconst 1, 1) := D118 0 rfl rfl rfl
theorem d118_1 : decode (am_mc 118) 1 = .ok (.lstore_n 3, 1) := D118 1 rfl rfl rfl
theorem d118_2 : decode (am_mc 118) 2 = .ok (.iconst 0, 1) := D118 2 rfl rfl rfl
theorem d118_3 : decode (am_mc 118) 3 = .ok (.istore 5, 2) := D118 3 rfl rfl rfl
theorem d118_5 : decode (am_mc 118) 5 = .ok (.iload 5, 2) := D118 4 rfl rfl rfl
theorem d118_7 : decode (am_mc 118) 7 = .ok (.bipush 17, 2) := D118 5 rfl rfl rfl
theorem d118_9 : decode (am_mc 118) 9 = .ok (.if_icmp .ge 25, 3) := D118 6 rfl rfl rfl
theorem d118_12 : decode (am_mc 118) 12 = .ok (.lload_n 1, 1) := D118 7 rfl rfl rfl
theorem d118_13 : decode (am_mc 118) 13 = .ok (.lload_n 3, 1) := D118 8 rfl rfl rfl
theorem d118_14 : decode (am_mc 118) 14 = .ok (.ldiv, 1) := D118 9 rfl rfl rfl
theorem d118_15 : decode (am_mc 118) 15 = .ok (.ldc2_w 47, 3) := D118 10 rfl rfl rfl
theorem d118_18 : decode (am_mc 118) 18 = .ok (.lcmp, 1) := D118 11 rfl rfl rfl
theorem d118_19 : decode (am_mc 118) 19 = .ok (.ifCond .lt 15, 3) := D118 12 rfl rfl rfl
theorem d118_22 : decode (am_mc 118) 22 = .ok (.lload_n 3, 1) := D118 13 rfl rfl rfl
theorem d118_23 : decode (am_mc 118) 23 = .ok (.ldc2_w 47, 3) := D118 14 rfl rfl rfl
theorem d118_26 : decode (am_mc 118) 26 = .ok (.lmul, 1) := D118 15 rfl rfl rfl
theorem d118_27 : decode (am_mc 118) 27 = .ok (.lstore_n 3, 1) := D118 16 rfl rfl rfl
theorem d118_28 : decode (am_mc 118) 28 = .ok (.iinc 5 1, 3) := D118 17 rfl rfl rfl
theorem d118_31 : decode (am_mc 118) 31 = .ok (.goto (-26), 3) := D118 18 rfl rfl rfl
theorem d118_34 : decode (am_mc 118) 34 = .ok (.lload_n 3, 1) := D118 19 rfl rfl rfl
theorem d118_35 : decode (am_mc 118) 35 = .ok (.lstore 5, 2) := D118 20 rfl rfl rfl
theorem d118_37 : decode (am_mc 118) 37 = .ok (.lload 5, 2) := D118 21 rfl rfl rfl
theorem d118_39 : decode (am_mc 118) 39 = .ok (.lconst 0, 1) := D118 22 rfl rfl rfl
theorem d118_40 : decode (am_mc 118) 40 = .ok (.lcmp, 1) := D118 23 rfl rfl rfl
theorem d118_41 : decode (am_mc 118) 41 = .ok (.ifCond .le 32, 3) := D118 24 rfl rfl rfl
theorem d118_44 : decode (am_mc 118) 44 = .ok (.aload_n 0, 1) := D118 25 rfl rfl rfl
theorem d118_45 : decode (am_mc 118) 45 = .ok (.ldc2_w 76, 3) := D118 26 rfl rfl rfl
theorem d118_48 : decode (am_mc 118) 48 = .ok (.lload_n 1, 1) := D118 27 rfl rfl rfl
theorem d118_49 : decode (am_mc 118) 49 = .ok (.lload 5, 2) := D118 28 rfl rfl rfl
theorem d118_51 : decode (am_mc 118) 51 = .ok (.ldiv, 1) := D118 29 rfl rfl rfl
theorem d118_52 : decode (am_mc 118) 52 = .ok (.ldc2_w 47, 3) := D118 30 rfl rfl rfl
theorem d118_55 : decode (am_mc 118) 55 = .ok (.lrem, 1) := D118 31 rfl rfl rfl
theorem d118_56 : decode (am_mc 118) 56 = .ok (.ladd, 1) := D118 32 rfl rfl rfl
theorem d118_57 : decode (am_mc 118) 57 = .ok (.l2i, 1) := D118 33 rfl rfl rfl
theorem d118_58 : decode (am_mc 118) 58 = .ok (.i2c, 1) := D118 34 rfl rfl rfl
theorem d118_59 : decode (am_mc 118) 59 = .ok (.invokevirtual 24, 3) := D118 35 rfl rfl rfl
theorem d118_62 : decode (am_mc 118) 62 = .ok (.lload 5, 2) := D118 36 rfl rfl rfl
theorem d118_64 : decode (am_mc 118) 64 = .ok (.ldc2_w 47, 3) := D118 37 rfl rfl rfl
theorem d118_67 : decode (am_mc 118) 67 = .ok (.ldiv, 1) := D118 38 rfl rfl rfl
theorem d118_68 : decode (am_mc 118) 68 = .ok (.lstore 5, 2) := D118 39 rfl rfl rfl
theorem d118_70 : decode (am_mc 118) 70 = .ok (.goto (-33), 3) := D118 40 rfl rfl rfl
theorem d118_73 : decode (am_mc 118) 73 = .ok (.return_, 1) := D118 41 rfl rfl rfl
theorem ml118 : ∀ n, n < 7 → n < am_ml 118 := fun _ h => h
theorem mo118 : am_mo 118 = 3 := by decide +kernel
theorem rk118 : am_rk 118 = 0 := by decide +kernel
theorem rg118 : am_rcg 118 = 4 := by decide +kernel
theorem dp118_17 : am_md 17 + 1 ≤ am_md 118 ∧ 8 + (am_ml 17 + 11) + am_lr 17 ≤ am_lr 118 := by decide +kernel
def L118_5 (l0 : Nat) (l1 : Int) : Nat → Int → Int → am_M → Option ((Int × am_M) ⊕ (Int × Int × am_M))
  | 0, _, _, _ => none
  | n + 1, l3, l5, μ => (if l5 < 17 then (if l3 = 0 then none else (if o_cmp (o_divl l1 l3) 10 < 0 then (some (.inr (l3, l5, μ))) else (L118_5 l0 l1 n (w64 (l3 * 10)) (w32 (l5 + 1)) μ))) else (some (.inr (l3, l5, μ))))
theorem w118_5 {X : am_K} {C : am_C} {Q : State → Prop} (hG : am_G X C 118 0 0 (0, fun _ => 0)) (hr : match X with | (_, _, _, _, _, _, _, _, meth, _) => meth.sig.returnType = am_mr 118 ∧ meth.locks = false) (l0 : Nat) (l1 : Int) : ∀ (n : Nat) (l3 : Int) (l5 : Int) (μ : am_M) (r : (Int × am_M) ⊕ (Int × Int × am_M)), L118_5 l0 l1 n l3 l5 μ = some r → (∀ q, r = .inl q → Q = am_E X C 118 q.1 q.2) → (∀ t, r = .inr t → am_W X C 118 Q 0 0 34 [(0, .inr (.inr (3, l0))), (1, .inr (.inl l1)), (3, .inr (.inl t.1))] [] t.2.2) → am_W X C 118 Q 0 0 5 [(0, .inr (.inr (3, l0))), (1, .inr (.inl l1)), (3, .inr (.inl l3)), (5, .inl l5)] [] μ := by
  intro n
  induction n with
  | zero => intro l3 l5 μ r h; cases h
  | succ n ih =>
    intro l3 l5 μ r h hI hX
    unfold L118_5 at h
    exact (am_c_iload hG (pc := 5) d118_5 rfl (am_c_bipush hG (pc := 7) d118_7 (by decide) (x_icmp_ge (tgt := 34) hG (pc := 9) d118_9 rfl h (fun h => (am_lvw (lv2 := [(0, .inr (.inr (3, l0))), (1, .inr (.inl l1)), (3, .inr (.inl l3))]) [0, 1, 2] rfl (hX (l3, l5, μ) (Option.some.inj h).symm))) (fun h => (am_c_lload_n hG (pc := 12) d118_12 rfl (am_c_lload_n hG (pc := 13) d118_13 rfl (x_ldiv hG (pc := 14) d118_14 h (fun h => (am_c_ldc2 hG (pc := 15) d118_15 (v := 10) (by decide +kernel) (am_c_lcmp hG (pc := 18) d118_18 (x_if_lt (tgt := 34) hG (pc := 19) d118_19 rfl h (fun h => (am_lvw (lv2 := [(0, .inr (.inr (3, l0))), (1, .inr (.inl l1)), (3, .inr (.inl l3))]) [0, 1, 2] rfl (hX (l3, l5, μ) (Option.some.inj h).symm))) (fun h => (am_c_lload_n hG (pc := 22) d118_22 rfl (am_c_ldc2 hG (pc := 23) d118_23 (v := 10) (by decide +kernel) (am_c_lmul hG (pc := 26) d118_26 (x_lstore_n (lv' := [(3, .inr (.inl (w64 (l3 * 10)))), (0, .inr (.inr (3, l0))), (1, .inr (.inl l1)), (5, .inl l5)]) hG (pc := 27) d118_27 (ml118 _ (by decide)) rfl (x_iinc (lv' := [(5, .inl (w32 (l5 + 1))), (3, .inr (.inl (w64 (l3 * 10)))), (0, .inr (.inr (3, l0))), (1, .inr (.inl l1))]) hG (pc := 28) d118_28 rfl (ml118 _ (by decide)) rfl (x_goto (tgt := 5) hG (pc := 31) d118_31 rfl (am_lvw (lv2 := [(0, .inr (.inr (3, l0))), (1, .inr (.inl l1)), (3, .inr (.inl (w64 (l3 * 10)))), (5, .inl (w32 (l5 + 1)))]) [2, 3, 1, 0] rfl (ih _ _ _ _ h hI hX))))))))))))))))))))
def L118_37 (l0 : Nat) (l1 : Int) : Nat → Int → am_M → Option ((Int × am_M) ⊕ (Int × am_M))
  | 0, _, _ => none
  | n + 1, l5, μ => (if 0 < o_cmp l5 0 then (if l5 = 0 then none else (am_op (fn17 l0 (o_i2c (o_l2i (w64 (48 + (o_reml (o_divl l1 l5) 10))))) μ) (fun z1 => (L118_37 l0 l1 n (o_divl l5 10) z1.2)))) else (some (.inr (l5, μ))))
theorem w118_37 {X : am_K} {C : am_C} {Q : State → Prop} (hG : am_G X C 118 0 0 (0, fun _ => 0)) (hr : match X with | (_, _, _, _, _, _, _, _, meth, _) => meth.sig.returnType = am_mr 118 ∧ meth.locks = false) (l0 : Nat) (l1 : Int) : ∀ (n : Nat) (l5 : Int) (μ : am_M) (r : (Int × am_M) ⊕ (Int × am_M)), L118_37 l0 l1 n l5 μ = some r → (∀ q, r = .inl q → Q = am_E X C 118 q.1 q.2) → (∀ t, r = .inr t → am_W X C 118 Q 0 0 73 [] [] t.2) → am_W X C 118 Q 0 0 37 [(0, .inr (.inr (3, l0))), (1, .inr (.inl l1)), (5, .inr (.inl l5))] [] μ := by
  intro n
  induction n with
  | zero => intro l5 μ r h; cases h
  | succ n ih =>
    intro l5 μ r h hI hX
    unfold L118_37 at h
    exact (am_c_lload hG (pc := 37) d118_37 rfl (am_c_lconst hG (pc := 39) d118_39 (am_c_lcmp hG (pc := 40) d118_40 (x_if_le (tgt := 73) hG (pc := 41) d118_41 rfl h (fun h => (am_lvw (lv2 := []) [] rfl (hX (l5, μ) (Option.some.inj h).symm))) (fun h => (am_c_aload_n hG (pc := 44) d118_44 rfl (am_c_ldc2 hG (pc := 45) d118_45 (v := 48) (by decide +kernel) (am_c_lload_n hG (pc := 48) d118_48 rfl (am_c_lload hG (pc := 49) d118_49 rfl (x_ldiv hG (pc := 51) d118_51 h (fun h => (am_c_ldc2 hG (pc := 52) d118_52 (v := 10) (by decide +kernel) (am_c_lrem hG (pc := 55) d118_55 (by decide) (am_c_ladd hG (pc := 56) d118_56 (am_c_l2i hG (pc := 57) d118_57 (am_c_i2c hG (pc := 58) d118_58 (x_virtual_v (t := 3) (o := l0) (as2 := [.inl (o_i2c (o_l2i (w64 (48 + (o_reml (o_divl l1 l5) 10)))))]) (rest := []) hG (pc := 59) d118_59 mo118 m3_24 (by decide) dp118_17 rfl rfl (Nat.le_of_ble_eq_true rfl) (Nat.le_of_ble_eq_true rfl) rg17 sd17 (e17 _ _ _) h (fun z1 h => (am_c_lload hG (pc := 62) d118_62 rfl (am_c_ldc2 hG (pc := 64) d118_64 (v := 10) (by decide +kernel) (am_c_ldiv hG (pc := 67) d118_67 (by decide) (x_lstore (lv' := [(5, .inr (.inl (o_divl l5 10))), (0, .inr (.inr (3, l0))), (1, .inr (.inl l1))]) hG (pc := 68) d118_68 (ml118 _ (by decide)) rfl (x_goto (tgt := 37) hG (pc := 70) d118_70 rfl (am_lvw (lv2 := [(0, .inr (.inr (3, l0))), (1, .inr (.inl l1)), (5, .inr (.inl (o_divl l5 10)))]) [1, 2, 0] rfl (ih _ _ _ h hI hX)))))))))))))))))))))))))
def fn118 (o : Nat) (a : Int) (μ : am_M) : Option (Int × am_M) := (am_op (L118_5 o a am_fuel 1 0 μ) (fun s => am_lp s (fun q1 => some q1) (fun t1 => (am_op (L118_37 o a am_fuel t1.1 t1.2.2) (fun s => am_lp s (fun q2 => some q2) (fun t2 => some (0, t2.2)))))))
def sp118 : am_F := fun vs μ => am_aR 3 vs fun o vs => am_aJ vs fun a vs => am_a0 vs (fn118 o a μ)
theorem e118 (o : Nat) (a : Int) (μ : am_M) : sp118 [.inr (.inr (3, o)), .inr (.inl a)] μ = fn118 o a μ := am_aR_c.trans (am_aJ_c.trans am_a0_c)
theorem sd118 : am_Sd 118 sp118 := by
  refine am_Sd_of (by decide) (fun vs μ μ' x h hv hM => ?_)
  obtain ⟨o, vs0, rfl, h0⟩ := am_aR_s h
  obtain ⟨a, vs1, rfl, h1⟩ := am_aJ_s h0
  obtain ⟨rfl, hz⟩ := am_a0_s h1
  refine ⟨Nat.le_of_ble_eq_true rfl, fun X C hG hr => ?_⟩
  have h := hz
  unfold fn118 at h
  exact (show am_W X C 118 _ 0 0 0 [(0, .inr (.inr (3, o))), (1, .inr (.inl a))] [] μ from (am_c_lconst hG (pc := 0) d118_0 (x_lstore_n (lv' := [(3, .inr (.inl 1)), (0, .inr (.inr (3, o))), (1, .inr (.inl a))]) hG (pc := 1) d118_1 (ml118 _ (by decide)) rfl (am_c_iconst hG (pc := 2) d118_2 (by decide) (x_istore (lv' := [(5, .inl 0), (3, .inr (.inl 1)), (0, .inr (.inr (3, o))), (1, .inr (.inl a))]) hG (pc := 3) d118_3 (ml118 _ (by decide)) rfl (x_lp h (fun r h1 h2 => (am_lvw (lv2 := [(0, .inr (.inr (3, o))), (1, .inr (.inl a)), (3, .inr (.inl 1)), (5, .inl 0)]) [2, 3, 1, 0] rfl (w118_5 hG hr _ _ _ _ _ _ _ h1 (fun q1 e => am_q1 e h2 (fun h => am_q0 h)) (fun t1 e => am_q2 e h2 (fun h => (am_c_lload_n hG (pc := 34) d118_34 rfl (x_lstore (lv' := [(5, .inr (.inl t1.1)), (0, .inr (.inr (3, o))), (1, .inr (.inl a)), (3, .inr (.inl t1.1))]) hG (pc := 35) d118_35 (ml118 _ (by decide)) rfl (x_lp h (fun r h1 h2 => (am_lvw (lv2 := [(0, .inr (.inr (3, o))), (1, .inr (.inl a)), (5, .inr (.inl t1.1))]) [1, 2, 0] rfl (w118_37 hG hr _ _ _ _ _ _ h1 (fun q2 e => am_q1 e h2 (fun h => am_q0 h)) (fun t2 e => am_q2 e h2 (fun h => (xq_vret hG (by decide) hr (pc := 73) d118_73 rk118 (am_q0 h)))))))))))))))))))))
/-! ChartPress$Letters.writeThousandths(J)V -/
theorem D119 (k : Nat) {pc : Nat} {i : Instr} (h : tbi119[k]? = some (pc, i)) (hs : am_isw i = false) {n : Nat} (hn : am_il i = n) : decode (am_mc 119) pc = .ok (i, n) := am_d2 (by decide) (by decide) rfl h hs hn
theorem d119_0 : decode (am_mc 119) 0 = .ok (.aload_n 0, 1) := D119 0 rfl rfl rfl
theorem d119_1 : decode (am_mc 119) 1 = .ok (.invokevirtual 17, 3) := D119 1 rfl rfl rfl
theorem d119_4 : decode (am_mc 119) 4 = .ok (.lload_n 1, 1) := D119 2 rfl rfl rfl
theorem d119_5 : decode (am_mc 119) 5 = .ok (.lconst 0, 1) := D119 3 rfl rfl rfl
theorem d119_6 : decode (am_mc 119) 6 = .ok (.lcmp, 1) := D119 4 rfl rfl rfl
theorem d119_7 : decode (am_mc 119) 7 = .ok (.ifCond .ge 9, 3) := D119 5 rfl rfl rfl
theorem d119_10 : decode (am_mc 119) 10 = .ok (.aload_n 0, 1) := D119 6 rfl rfl rfl
theorem d119_11 : decode (am_mc 119) 11 = .ok (.bipush 45, 2) := D119 7 rfl rfl rfl
theorem d119_13 : decode (am_mc 119) 13 = .ok (.invokevirtual 24, 3) := D119 8 rfl rfl rfl
theorem d119_16 : decode (am_mc 119) 16 = .ok (.lload_n 1, 1) := D119 9 rfl rfl rfl
theorem d119_17 : decode (am_mc 119) 17 = .ok (.invokestatic 64, 3) := D119 10 rfl rfl rfl
theorem d119_20 : decode (am_mc 119) 20 = .ok (.lstore_n 3, 1) := D119 11 rfl rfl rfl
theorem d119_21 : decode (am_mc 119) 21 = .ok (.aload_n 0, 1) := D119 12 rfl rfl rfl
theorem d119_22 : decode (am_mc 119) 22 = .ok (.lload_n 3, 1) := D119 13 rfl rfl rfl
theorem d119_23 : decode (am_mc 119) 23 = .ok (.ldc2_w 70, 3) := D119 14 rfl rfl rfl
theorem d119_26 : decode (am_mc 119) 26 = .ok (.ldiv, 1) := D119 15 rfl rfl rfl
theorem d119_27 : decode (am_mc 119) 27 = .ok (.invokevirtual 72, 3) := D119 16 rfl rfl rfl
theorem d119_30 : decode (am_mc 119) 30 = .ok (.lload_n 3, 1) := D119 17 rfl rfl rfl
theorem d119_31 : decode (am_mc 119) 31 = .ok (.ldc2_w 70, 3) := D119 18 rfl rfl rfl
theorem d119_34 : decode (am_mc 119) 34 = .ok (.lrem, 1) := D119 19 rfl rfl rfl
theorem d119_35 : decode (am_mc 119) 35 = .ok (.l2i, 1) := D119 20 rfl rfl rfl
theorem d119_36 : decode (am_mc 119) 36 = .ok (.istore 5, 2) := D119 21 rfl rfl rfl
theorem d119_38 : decode (am_mc 119) 38 = .ok (.iload 5, 2) := D119 22 rfl rfl rfl
theorem d119_40 : decode (am_mc 119) 40 = .ok (.ifCond .eq 9, 3) := D119 23 rfl rfl rfl
theorem d119_43 : decode (am_mc 119) 43 = .ok (.aload_n 0, 1) := D119 24 rfl rfl rfl
theorem d119_44 : decode (am_mc 119) 44 = .ok (.bipush 46, 2) := D119 25 rfl rfl rfl
theorem d119_46 : decode (am_mc 119) 46 = .ok (.invokevirtual 24, 3) := D119 26 rfl rfl rfl
theorem d119_49 : decode (am_mc 119) 49 = .ok (.bipush 100, 2) := D119 27 rfl rfl rfl
theorem d119_51 : decode (am_mc 119) 51 = .ok (.istore 6, 2) := D119 28 rfl rfl rfl
theorem d119_53 : decode (am_mc 119) 53 = .ok (.iload 5, 2) := D119 29 rfl rfl rfl
theorem d119_55 : decode (am_mc 119) 55 = .ok (.ifCond .eq 38, 3) := D119 30 rfl rfl rfl
theorem d119_58 : decode (am_mc 119) 58 = .ok (.iload 6, 2) := D119 31 rfl rfl rfl
theorem d119_60 : decode (am_mc 119) 60 = .ok (.ifCond .le 33, 3) := D119 32 rfl rfl rfl
theorem d119_63 : decode (am_mc 119) 63 = .ok (.aload_n 0, 1) := D119 33 rfl rfl rfl
theorem d119_64 : decode (am_mc 119) 64 = .ok (.bipush 48, 2) := D119 34 rfl rfl rfl
theorem d119_66 : decode (am_mc 119) 66 = .ok (.iload 5, 2) := D119 35 rfl rfl rfl
theorem d119_68 : decode (am_mc 119) 68 = .ok (.iload 6, 2) := D119 36 rfl rfl rfl
theorem d119_70 : decode (am_mc 119) 70 = .ok (.idiv, 1) := D119 37 rfl rfl rfl
theorem d119_71 : decode (am_mc 119) 71 = .ok (.iadd, 1) := D119 38 rfl rfl rfl
theorem d119_72 : decode (am_mc 119) 72 = .ok (.i2c, 1) := D119 39 rfl rfl rfl
theorem d119_73 : decode (am_mc 119) 73 = .ok (.invokevirtual 24, 3) := D119 40 rfl rfl rfl
theorem d119_76 : decode (am_mc 119) 76 = .ok (.iload 5, 2) := D119 41 rfl rfl rfl
theorem d119_78 : decode (am_mc 119) 78 = .ok (.iload 6, 2) := D119 42 rfl rfl rfl
theorem d119_80 : decode (am_mc 119) 80 = .ok (.irem, 1) := D119 43 rfl rfl rfl
theorem d119_81 : decode (am_mc 119) 81 = .ok (.istore 5, 2) := D119 44 rfl rfl rfl
theorem d119_83 : decode (am_mc 119) 83 = .ok (.iload 6, 2) := D119 45 rfl rfl rfl
theorem d119_85 : decode (am_mc 119) 85 = .ok (.bipush 10, 2) := D119 46 rfl rfl rfl
theorem d119_87 : decode (am_mc 119) 87 = .ok (.idiv, 1) := D119 47 rfl rfl rfl
theorem d119_88 : decode (am_mc 119) 88 = .ok (.istore 6, 2) := D119 48 rfl rfl rfl
theorem d119_90 : decode (am_mc 119) 90 = .ok (.goto (-37), 3) := D119 49 rfl rfl rfl
theorem d119_93 : decode (am_mc 119) 93 = .ok (.return_, 1) := D119 50 rfl rfl rfl
theorem ml119 : ∀ n, n < 7 → n < am_ml 119 := fun _ h => h
theorem mo119 : am_mo 119 = 3 := by decide +kernel
theorem rk119 : am_rk 119 = 0 := by decide +kernel
theorem rg119 : am_rcg 119 = 4 := by decide +kernel
theorem m3_64 : tb_m 3 64 = some (117, 1, 2, 0) := by decide +kernel
theorem m3_72 : tb_m 3 72 = some (118, 2, 0, 0) := by decide +kernel
theorem dp119_14 : am_md 14 + 1 ≤ am_md 119 ∧ 8 + (am_ml 14 + 11) + am_lr 14 ≤ am_lr 119 := by decide +kernel
theorem dp119_17 : am_md 17 + 1 ≤ am_md 119 ∧ 8 + (am_ml 17 + 11) + am_lr 17 ≤ am_lr 119 := by decide +kernel
theorem dp119_117 : am_md 117 + 1 ≤ am_md 119 ∧ 8 + (am_ml 117 + 11) + am_lr 117 ≤ am_lr 119 := by decide +kernel
theorem dp119_118 : am_md 118 + 1 ≤ am_md 119 ∧ 8 + (am_ml 118 + 11) + am_lr 118 ≤ am_lr 119 := by decide +kernel
def L119_53 (l0 : Nat) : Nat → Int → Int → am_M → Option ((Int × am_M) ⊕ (Int × Int × am_M))
  | 0, _, _, _ => none
  | n + 1, l5, l6, μ => (if l5 = 0 then (some (.inr (l5, l6, μ))) else (if 0 < l6 then (if l6 = 0 then none else (am_op (fn17 l0 (o_i2c (w32 (48 + (o_div l5 l6)))) μ) (fun z4 => (if l6 = 0 then none else (L119_53 l0 n (o_rem l5 l6) (o_div l6 10) z4.2))))) else (some (.inr (l5, l6, μ)))))
theorem w119_53 {X : am_K} {C : am_C} {Q : State → Prop} (hG : am_G X C 119 0 0 (0, fun _ => 0)) (hr : match X with | (_, _, _, _, _, _, _, _, meth, _) => meth.sig.returnType = am_mr 119 ∧ meth.locks = false) (l0 : Nat) : ∀ (n : Nat) (l5 : Int) (l6 : Int) (μ : am_M) (r : (Int × am_M) ⊕ (Int × Int × am_M)), L119_53 l0 n l5 l6 μ = some r → (∀ q, r = .inl q → Q = am_E X C 119 q.1 q.2) → (∀ t, r = .inr t → am_W X C 119 Q 0 0 93 [] [] t.2.2) → am_W X C 119 Q 0 0 53 [(0, .inr (.inr (3, l0))), (5, .inl l5), (6, .inl l6)] [] μ := by
  intro n
  induction n with
  | zero => intro l5 l6 μ r h; cases h
  | succ n ih =>
    intro l5 l6 μ r h hI hX
    unfold L119_53 at h
    exact (am_c_iload hG (pc := 53) d119_53 rfl (x_if_eq (tgt := 93) hG (pc := 55) d119_55 rfl h (fun h => (am_lvw (lv2 := []) [] rfl (hX (l5, l6, μ) (Option.some.inj h).symm))) (fun h => (am_c_iload hG (pc := 58) d119_58 rfl (x_if_le (tgt := 93) hG (pc := 60) d119_60 rfl h (fun h => (am_lvw (lv2 := []) [] rfl (hX (l5, l6, μ) (Option.some.inj h).symm))) (fun h => (am_c_aload_n hG (pc := 63) d119_63 rfl (am_c_bipush hG (pc := 64) d119_64 (by decide) (am_c_iload hG (pc := 66) d119_66 rfl (am_c_iload hG (pc := 68) d119_68 rfl (x_idiv hG (pc := 70) d119_70 h (fun h => (am_c_iadd hG (pc := 71) d119_71 (am_c_i2c hG (pc := 72) d119_72 (x_virtual_v (t := 3) (o := l0) (as2 := [.inl (o_i2c (w32 (48 + (o_div l5 l6))))]) (rest := []) hG (pc := 73) d119_73 mo119 m3_24 (by decide) dp119_17 rfl rfl (Nat.le_of_ble_eq_true rfl) (Nat.le_of_ble_eq_true rfl) rg17 sd17 (e17 _ _ _) h (fun z4 h => (am_c_iload hG (pc := 76) d119_76 rfl (am_c_iload hG (pc := 78) d119_78 rfl (x_irem hG (pc := 80) d119_80 h (fun h => (x_istore (lv' := [(5, .inl (o_rem l5 l6)), (0, .inr (.inr (3, l0))), (6, .inl l6)]) hG (pc := 81) d119_81 (ml119 _ (by decide)) rfl (am_c_iload hG (pc := 83) d119_83 rfl (am_c_bipush hG (pc := 85) d119_85 (by decide) (am_c_idiv hG (pc := 87) d119_87 (by decide) (x_istore (lv' := [(6, .inl (o_div l6 10)), (5, .inl (o_rem l5 l6)), (0, .inr (.inr (3, l0)))]) hG (pc := 88) d119_88 (ml119 _ (by decide)) rfl (x_goto (tgt := 53) hG (pc := 90) d119_90 rfl (am_lvw (lv2 := [(0, .inr (.inr (3, l0))), (5, .inl (o_rem l5 l6)), (6, .inl (o_div l6 10))]) [2, 1, 0] rfl (ih _ _ _ _ h hI hX))))))))))))))))))))))))))))
def fn119 (o : Nat) (a : Int) (μ : am_M) : Option (Int × am_M) := (am_op (fn14 o μ) (fun z1 => (if o_cmp a 0 < 0 then (am_op (fn17 o 45 z1.2) (fun z6 => (am_op (fn117 a z6.2) (fun z7 => (am_op (fn118 o (o_divl z7.1 1000) z7.2) (fun z8 => (if o_l2i (o_reml z7.1 1000) = 0 then (am_op (L119_53 o am_fuel (o_l2i (o_reml z7.1 1000)) 100 z8.2) (fun s => am_lp s (fun q3 => some q3) (fun t3 => some (0, t3.2.2)))) else (am_op (fn17 o 46 z8.2) (fun z9 => (am_op (L119_53 o am_fuel (o_l2i (o_reml z7.1 1000)) 100 z9.2) (fun s => am_lp s (fun q4 => some q4) (fun t4 => some (0, t4.2.2))))))))))))) else (am_op (fn117 a z1.2) (fun z2 => (am_op (fn118 o (o_divl z2.1 1000) z2.2) (fun z3 => (if o_l2i (o_reml z2.1 1000) = 0 then (am_op (L119_53 o am_fuel (o_l2i (o_reml z2.1 1000)) 100 z3.2) (fun s => am_lp s (fun q1 => some q1) (fun t1 => some (0, t1.2.2)))) else (am_op (fn17 o 46 z3.2) (fun z5 => (am_op (L119_53 o am_fuel (o_l2i (o_reml z2.1 1000)) 100 z5.2) (fun s => am_lp s (fun q2 => some q2) (fun t2 => some (0, t2.2.2))))))))))))))
def sp119 : am_F := fun vs μ => am_aR 3 vs fun o vs => am_aJ vs fun a vs => am_a0 vs (fn119 o a μ)
theorem e119 (o : Nat) (a : Int) (μ : am_M) : sp119 [.inr (.inr (3, o)), .inr (.inl a)] μ = fn119 o a μ := am_aR_c.trans (am_aJ_c.trans am_a0_c)
theorem sd119 : am_Sd 119 sp119 := by
  refine am_Sd_of (by decide) (fun vs μ μ' x h hv hM => ?_)
  obtain ⟨o, vs0, rfl, h0⟩ := am_aR_s h
  obtain ⟨a, vs1, rfl, h1⟩ := am_aJ_s h0
  obtain ⟨rfl, hz⟩ := am_a0_s h1
  refine ⟨Nat.le_of_ble_eq_true rfl, fun X C hG hr => ?_⟩
  have h := hz
  unfold fn119 at h
  exact (show am_W X C 119 _ 0 0 0 [(0, .inr (.inr (3, o))), (1, .inr (.inl a))] [] μ from (am_c_aload_n hG (pc := 0) d119_0 rfl (x_virtual_v (t := 3) (o := o) (as2 := []) (rest := []) hG (pc := 1) d119_1 mo119 m3_17 (by decide) dp119_14 rfl rfl (Nat.le_of_ble_eq_true rfl) (Nat.le_of_ble_eq_true rfl) rg14 sd14 (e14 _ _) h (fun z1 h => (am_c_lload_n hG (pc := 4) d119_4 rfl (am_c_lconst hG (pc := 5) d119_5 (am_c_lcmp hG (pc := 6) d119_6 (x_if_ge (tgt := 16) hG (pc := 7) d119_7 rfl h (fun h => (am_c_lload_n hG (pc := 16) d119_16 rfl (x_static_l (as := [.inr (.inl a)]) (rest := []) hG (pc := 17) d119_17 mo119 m3_64 (by decide) dp119_117 rfl rfl (Nat.le_of_ble_eq_true rfl) (Nat.le_of_ble_eq_true rfl) rg117 sd117 (e117 _ _) h (fun z2 h => (x_lstore_n (lv' := [(3, .inr (.inl z2.1)), (0, .inr (.inr (3, o))), (1, .inr (.inl a))]) hG (pc := 20) d119_20 (ml119 _ (by decide)) rfl (am_c_aload_n hG (pc := 21) d119_21 rfl (am_c_lload_n hG (pc := 22) d119_22 rfl (am_c_ldc2 hG (pc := 23) d119_23 (v := 1000) (by decide +kernel) (am_c_ldiv hG (pc := 26) d119_26 (by decide) (x_virtual_v (t := 3) (o := o) (as2 := [.inr (.inl (o_divl z2.1 1000))]) (rest := []) hG (pc := 27) d119_27 mo119 m3_72 (by decide) dp119_118 rfl rfl (Nat.le_of_ble_eq_true rfl) (Nat.le_of_ble_eq_true rfl) rg118 sd118 (e118 _ _ _) h (fun z3 h => (am_c_lload_n hG (pc := 30) d119_30 rfl (am_c_ldc2 hG (pc := 31) d119_31 (v := 1000) (by decide +kernel) (am_c_lrem hG (pc := 34) d119_34 (by decide) (am_c_l2i hG (pc := 35) d119_35 (x_istore (lv' := [(5, .inl (o_l2i (o_reml z2.1 1000))), (3, .inr (.inl z2.1)), (0, .inr (.inr (3, o))), (1, .inr (.inl a))]) hG (pc := 36) d119_36 (ml119 _ (by decide)) rfl (am_c_iload hG (pc := 38) d119_38 rfl (x_if_eq (tgt := 49) hG (pc := 40) d119_40 rfl h (fun h => (am_c_bipush hG (pc := 49) d119_49 (by decide) (x_istore (lv' := [(6, .inl 100), (5, .inl (o_l2i (o_reml z2.1 1000))), (3, .inr (.inl z2.1)), (0, .inr (.inr (3, o))), (1, .inr (.inl a))]) hG (pc := 51) d119_51 (ml119 _ (by decide)) rfl (x_lp h (fun r h1 h2 => (am_lvw (lv2 := [(0, .inr (.inr (3, o))), (5, .inl (o_l2i (o_reml z2.1 1000))), (6, .inl 100)]) [3, 1, 0] rfl (w119_53 hG hr _ _ _ _ _ _ h1 (fun q1 e => am_q1 e h2 (fun h => am_q0 h)) (fun t1 e => am_q2 e h2 (fun h => (xq_vret hG (by decide) hr (pc := 93) d119_93 rk119 (am_q0 h))))))))))) (fun h => (am_c_aload_n hG (pc := 43) d119_43 rfl (am_c_bipush hG (pc := 44) d119_44 (by decide) (x_virtual_v (t := 3) (o := o) (as2 := [.inl 46]) (rest := []) hG (pc := 46) d119_46 mo119 m3_24 (by decide) dp119_17 rfl rfl (Nat.le_of_ble_eq_true rfl) (Nat.le_of_ble_eq_true rfl) rg17 sd17 (e17 _ _ _) h (fun z5 h => (am_c_bipush hG (pc := 49) d119_49 (by decide) (x_istore (lv' := [(6, .inl 100), (5, .inl (o_l2i (o_reml z2.1 1000))), (3, .inr (.inl z2.1)), (0, .inr (.inr (3, o))), (1, .inr (.inl a))]) hG (pc := 51) d119_51 (ml119 _ (by decide)) rfl (x_lp h (fun r h1 h2 => (am_lvw (lv2 := [(0, .inr (.inr (3, o))), (5, .inl (o_l2i (o_reml z2.1 1000))), (6, .inl 100)]) [3, 1, 0] rfl (w119_53 hG hr _ _ _ _ _ _ h1 (fun q2 e => am_q1 e h2 (fun h => am_q0 h)) (fun t2 e => am_q2 e h2 (fun h => (xq_vret hG (by decide) hr (pc := 93) d119_93 rk119 (am_q0 h))))))))))))))))))))))))))))))))) (fun h => (am_c_aload_n hG (pc := 10) d119_10 rfl (am_c_bipush hG (pc := 11) d119_11 (by decide) (x_virtual_v (t := 3) (o := o) (as2 := [.inl 45]) (rest := []) hG (pc := 13) d119_13 mo119 m3_24 (by decide) dp119_17 rfl rfl (Nat.le_of_ble_eq_true rfl) (Nat.le_of_ble_eq_true rfl) rg17 sd17 (e17 _ _ _) h (fun z6 h => (am_c_lload_n hG (pc := 16) d119_16 rfl (x_static_l (as := [.inr (.inl a)]) (rest := []) hG (pc := 17) d119_17 mo119 m3_64 (by decide) dp119_117 rfl rfl (Nat.le_of_ble_eq_true rfl) (Nat.le_of_ble_eq_true rfl) rg117 sd117 (e117 _ _) h (fun z7 h => (x_lstore_n (lv' := [(3, .inr (.inl z7.1)), (0, .inr (.inr (3, o))), (1, .inr (.inl a))]) hG (pc := 20) d119_20 (ml119 _ (by decide)) rfl (am_c_aload_n hG (pc := 21) d119_21 rfl (am_c_lload_n hG (pc := 22) d119_22 rfl (am_c_ldc2 hG (pc := 23) d119_23 (v := 1000) (by decide +kernel) (am_c_ldiv hG (pc := 26) d119_26 (by decide) (x_virtual_v (t := 3) (o := o) (as2 := [.inr (.inl (o_divl z7.1 1000))]) (rest := []) hG (pc := 27) d119_27 mo119 m3_72 (by decide) dp119_118 rfl rfl (Nat.le_of_ble_eq_true rfl) (Nat.le_of_ble_eq_true rfl) rg118 sd118 (e118 _ _ _) h (fun z8 h => (am_c_lload_n hG (pc := 30) d119_30 rfl (am_c_ldc2 hG (pc := 31) d119_31 (v := 1000) (by decide +kernel) (am_c_lrem hG (pc := 34) d119_34 (by decide) (am_c_l2i hG (pc := 35) d119_35 (x_istore (lv' := [(5, .inl (o_l2i (o_reml z7.1 1000))), (3, .inr (.inl z7.1)), (0, .inr (.inr (3, o))), (1, .inr (.inl a))]) hG (pc := 36) d119_36 (ml119 _ (by decide)) rfl (am_c_iload hG (pc := 38) d119_38 rfl (x_if_eq (tgt := 49) hG (pc := 40) d119_40 rfl h (fun h => (am_c_bipush hG (pc := 49) d119_49 (by decide) (x_istore (lv' := [(6, .inl 100), (5, .inl (o_l2i (o_reml z7.1 1000))), (3, .inr (.inl z7.1)), (0, .inr (.inr (3, o))), (1, .inr (.inl a))]) hG (pc := 51) d119_51 (ml119 _ (by decide)) rfl (x_lp h (fun r h1 h2 => (am_lvw (lv2 := [(0, .inr (.inr (3, o))), (5, .inl (o_l2i (o_reml z7.1 1000))), (6, .inl 100)]) [3, 1, 0] rfl (w119_53 hG hr _ _ _ _ _ _ h1 (fun q3 e => am_q1 e h2 (fun h => am_q0 h)) (fun t3 e => am_q2 e h2 (fun h => (xq_vret hG (by decide) hr (pc := 93) d119_93 rk119 (am_q0 h))))))))))) (fun h => (am_c_aload_n hG (pc := 43) d119_43 rfl (am_c_bipush hG (pc := 44) d119_44 (by decide) (x_virtual_v (t := 3) (o := o) (as2 := [.inl 46]) (rest := []) hG (pc := 46) d119_46 mo119 m3_24 (by decide) dp119_17 rfl rfl (Nat.le_of_ble_eq_true rfl) (Nat.le_of_ble_eq_true rfl) rg17 sd17 (e17 _ _ _) h (fun z9 h => (am_c_bipush hG (pc := 49) d119_49 (by decide) (x_istore (lv' := [(6, .inl 100), (5, .inl (o_l2i (o_reml z7.1 1000))), (3, .inr (.inl z7.1)), (0, .inr (.inr (3, o))), (1, .inr (.inl a))]) hG (pc := 51) d119_51 (ml119 _ (by decide)) rfl (x_lp h (fun r h1 h2 => (am_lvw (lv2 := [(0, .inr (.inr (3, o))), (5, .inl (o_l2i (o_reml z7.1 1000))), (6, .inl 100)]) [3, 1, 0] rfl (w119_53 hG hr _ _ _ _ _ _ h1 (fun q4 e => am_q1 e h2 (fun h => am_q0 h)) (fun t4 e => am_q2 e h2 (fun h => (xq_vret hG (by decide) hr (pc := 93) d119_93 rk119 (am_q0 h)))))))))))))))))))))))))))))))))))))))))))))
/-! ChartPress$Letters.width()I -/
theorem D120 (k : Nat) {pc : Nat} {i : Instr} (h : tbi120[k]? = some (pc, i)) (hs : am_isw i = false) {n : Nat} (hn : am_il i = n) : decode (am_mc 120) pc = .ok (i, n) := am_d2 (by decide) (by decide) rfl h hs hn
theorem d120_0 : decode (am_mc 120) 0 = .ok (.iconst 4, 1) := D120 0 rfl rfl rfl
theorem d120_1 : decode (am_mc 120) 1 = .ok (.aload_n 0, 1) := D120 1 rfl rfl rfl
theorem d120_2 : decode (am_mc 120) 2 = .ok (.getfield 13, 3) := D120 2 rfl rfl rfl
theorem d120_5 : decode (am_mc 120) 5 = .ok (.imul, 1) := D120 3 rfl rfl rfl
theorem d120_6 : decode (am_mc 120) 6 = .ok (.iconst 1, 1) := D120 4 rfl rfl rfl
theorem d120_7 : decode (am_mc 120) 7 = .ok (.isub, 1) := D120 5 rfl rfl rfl
theorem d120_8 : decode (am_mc 120) 8 = .ok (.ireturn, 1) := D120 6 rfl rfl rfl
theorem ml120 : ∀ n, n < 1 → n < am_ml 120 := fun _ h => h
theorem mo120 : am_mo 120 = 3 := by decide +kernel
theorem mr120 : am_mr 120 = some .int := by decide +kernel
theorem rg120 : am_rcg 120 = 4 := by decide +kernel
def fn120 (o : Nat) (μ : am_M) : Option (Int × am_M) := some (w32 ((w32 (4 * (μ o 1))) - 1), μ)
def sp120 : am_F := fun vs μ => am_aR 3 vs fun o vs => am_a0 vs (fn120 o μ)
theorem e120 (o : Nat) (μ : am_M) : sp120 [.inr (.inr (3, o))] μ = fn120 o μ := am_aR_c.trans am_a0_c
theorem sd120 : am_Sd 120 sp120 := by
  refine am_Sd_of (by decide) (fun vs μ μ' x h hv hM => ?_)
  obtain ⟨o, vs0, rfl, h0⟩ := am_aR_s h
  obtain ⟨rfl, hz⟩ := am_a0_s h0
  refine ⟨Nat.le_of_ble_eq_true rfl, fun X C hG hr => ?_⟩
  have h := hz
  unfold fn120 at h
  exact (show am_W X C 120 _ 0 0 0 [(0, .inr (.inr (3, o)))] [] μ from (am_c_iconst hG (pc := 0) d120_0 (by decide) (am_c_aload_n hG (pc := 1) d120_1 rfl (x_get_n (v := .inl (μ o 1)) hG (pc := 2) d120_2 mo120 f3_13 rfl (am_c_imul hG (pc := 5) d120_5 (am_c_iconst hG (pc := 6) d120_6 (by decide) (am_c_isub hG (pc := 7) d120_7 (xq_iret hG (by decide) hr (pc := 8) d120_8 mr120 (am_q0 h)))))))))
/-! java/lang/Math.max(II)I -/
theorem D121 (k : Nat) {pc : Nat} {i : Instr} (h : tbi121[k]? = some (pc, i)) (hs : am_isw i = false) {n : Nat} (hn : am_il i = n) : decode (am_mc 121) pc = .ok (i, n) := am_d2 (by decide) (by decide) rfl h hs hn
theorem d121_0 : decode (am_mc 121) 0 = .ok (.iload_n 0, 1) := D121 0 rfl rfl rfl
theorem d121_1 : decode (am_mc 121) 1 = .ok (.iload_n 1, 1) := D121 1 rfl rfl rfl
theorem d121_2 : decode (am_mc 121) 2 = .ok (.if_icmp .lt 7, 3) := D121 2 rfl rfl rfl
theorem d121_5 : decode (am_mc 121) 5 = .ok (.iload_n 0, 1) := D121 3 rfl rfl rfl
theorem d121_6 : decode (am_mc 121) 6 = .ok (.goto 4, 3) := D121 4 rfl rfl rfl
theorem d121_9 : decode (am_mc 121) 9 = .ok (.iload_n 1, 1) := D121 5 rfl rfl rfl
theorem d121_10 : decode (am_mc 121) 10 = .ok (.ireturn, 1) := D121 6 rfl rfl rfl
theorem ml121 : ∀ n, n < 2 → n < am_ml 121 := fun _ h => h
theorem mo121 : am_mo 121 = 13 := by decide +kernel
theorem mr121 : am_mr 121 = some .int := by decide +kernel
theorem rg121 : am_rcg 121 = 0 := by decide +kernel
def fn121 (a : Int) (b : Int) (μ : am_M) : Option (Int × am_M) := (if a < b then some (b, μ) else some (a, μ))
def sp121 : am_F := fun vs μ => am_aI vs fun a vs => am_aI vs fun b vs => am_a0 vs (fn121 a b μ)
theorem e121 (a : Int) (b : Int) (μ : am_M) : sp121 [.inl a, .inl b] μ = fn121 a b μ := am_aI_c.trans (am_aI_c.trans am_a0_c)
theorem sd121 : am_Sd 121 sp121 := by
  refine am_Sd_of (by decide) (fun vs μ μ' x h hv hM => ?_)
  obtain ⟨a, vs0, rfl, h0⟩ := am_aI_s h
  obtain ⟨b, vs1, rfl, h1⟩ := am_aI_s h0
  obtain ⟨rfl, hz⟩ := am_a0_s h1
  refine ⟨Nat.le_of_ble_eq_true rfl, fun X C hG hr => ?_⟩
  have h := hz
  unfold fn121 at h
  exact (show am_W X C 121 _ 0 0 0 [(0, .inl a), (1, .inl b)] [] μ from (am_c_iload_n hG (pc := 0) d121_0 rfl (am_c_iload_n hG (pc := 1) d121_1 rfl (x_icmp_lt (tgt := 9) hG (pc := 2) d121_2 rfl h (fun h => (am_c_iload_n hG (pc := 9) d121_9 rfl (xq_iret hG (by decide) hr (pc := 10) d121_10 mr121 (am_q0 h)))) (fun h => (am_c_iload_n hG (pc := 5) d121_5 rfl (x_goto (tgt := 10) hG (pc := 6) d121_6 rfl (xq_iret hG (by decide) hr (pc := 10) d121_10 mr121 (am_q0 h)))))))))
/-! ChartPress$Layout.widestTick(LChartPress$Scale;LChartPress$Letters;)I -/
theorem D122 (k : Nat) {pc : Nat} {i : Instr} (h : tbi122[k]? = some (pc, i)) (hs : am_isw i = false) {n : Nat} (hn : am_il i = n) : decode (am_mc 122) pc = .ok (i, n) := am_d2 (by decide) (by decide) rfl h hs hn
theorem d122_0 : decode (am_mc 122) 0 = .ok (.iconst 0, 1) := D122 0 rfl rfl rfl
theorem d122_1 : decode (am_mc 122) 1 = .ok (.istore_n 2, 1) := D122 1 rfl rfl rfl
theorem d122_2 : decode (am_mc 122) 2 = .ok (.iconst 0, 1) := D122 2 rfl rfl rfl
theorem d122_3 : decode (am_mc 122) 3 = .ok (.istore_n 3, 1) := D122 3 rfl rfl rfl
theorem d122_4 : decode (am_mc 122) 4 = .ok (.iload_n 3, 1) := D122 4 rfl rfl rfl
theorem d122_5 : decode (am_mc 122) 5 = .ok (.aload_n 0, 1) := D122 5 rfl rfl rfl
theorem d122_6 : decode (am_mc 122) 6 = .ok (.invokevirtual 59, 3) := D122 6 rfl rfl rfl
theorem d122_9 : decode (am_mc 122) 9 = .ok (.if_icmp .ge 27, 3) := D122 7 rfl rfl rfl
theorem d122_12 : decode (am_mc 122) 12 = .ok (.aload_n 1, 1) := D122 8 rfl rfl rfl
theorem d122_13 : decode (am_mc 122) 13 = .ok (.aload_n 0, 1) := D122 9 rfl rfl rfl
theorem d122_14 : decode (am_mc 122) 14 = .ok (.iload_n 3, 1) := D122 10 rfl rfl rfl
theorem d122_15 : decode (am_mc 122) 15 = .ok (.invokevirtual 64, 3) := D122 11 rfl rfl rfl
theorem d122_18 : decode (am_mc 122) 18 = .ok (.invokevirtual 68, 3) := D122 12 rfl rfl rfl
theorem d122_21 : decode (am_mc 122) 21 = .ok (.iload_n 2, 1) := D122 13 rfl rfl rfl
theorem d122_22 : decode (am_mc 122) 22 = .ok (.aload_n 1, 1) := D122 14 rfl rfl rfl
theorem d122_23 : decode (am_mc 122) 23 = .ok (.invokevirtual 46, 3) := D122 15 rfl rfl rfl
theorem d122_26 : decode (am_mc 122) 26 = .ok (.invokestatic 72, 3) := D122 16 rfl rfl rfl
theorem d122_29 : decode (am_mc 122) 29 = .ok (.istore_n 2, 1) := D122 17 rfl rfl rfl
theorem d122_30 : decode (am_mc 122) 30 = .ok (.iinc 3 1, 3) := D122 18 rfl rfl rfl
theorem d122_33 : decode (am_mc 122) 33 = .ok (.goto (-29), 3) := D122 19 rfl rfl rfl
theorem d122_36 : decode (am_mc 122) 36 = .ok (.iload_n 2, 1) := D122 20 rfl rfl rfl
theorem d122_37 : decode (am_mc 122) 37 = .ok (.ireturn, 1) := D122 21 rfl rfl rfl
theorem ml122 : ∀ n, n < 4 → n < am_ml 122 := fun _ h => h
theorem mo122 : am_mo 122 = 9 := by decide +kernel
theorem mr122 : am_mr 122 = some .int := by decide +kernel
theorem rg122 : am_rcg 122 = 0 := by decide +kernel
theorem m9_46 : tb_m 9 46 = some (120, 1, 1, 0) := by decide +kernel
theorem m9_59 : tb_m 9 59 = some (115, 1, 1, 0) := by decide +kernel
theorem m9_64 : tb_m 9 64 = some (116, 2, 2, 0) := by decide +kernel
theorem m9_68 : tb_m 9 68 = some (119, 2, 0, 0) := by decide +kernel
theorem m9_72 : tb_m 9 72 = some (121, 2, 1, 0) := by decide +kernel
theorem dp122_115 : am_md 115 + 1 ≤ am_md 122 ∧ 8 + (am_ml 115 + 11) + am_lr 115 ≤ am_lr 122 := by decide +kernel
theorem dp122_116 : am_md 116 + 1 ≤ am_md 122 ∧ 8 + (am_ml 116 + 11) + am_lr 116 ≤ am_lr 122 := by decide +kernel
theorem dp122_119 : am_md 119 + 1 ≤ am_md 122 ∧ 8 + (am_ml 119 + 11) + am_lr 119 ≤ am_lr 122 := by decide +kernel
theorem dp122_120 : am_md 120 + 1 ≤ am_md 122 ∧ 8 + (am_ml 120 + 11) + am_lr 120 ≤ am_lr 122 := by decide +kernel
theorem dp122_121 : am_md 121 + 1 ≤ am_md 122 ∧ 8 + (am_ml 121 + 11) + am_lr 121 ≤ am_lr 122 := by decide +kernel
def L122_4 (l0 : Nat) (l1 : Nat) : Nat → Int → Int → am_M → Option ((Int × am_M) ⊕ (Int × Int × am_M))
  | 0, _, _, _ => none
  | n + 1, l2, l3, μ => (am_op (fn115 l0 μ) (fun z1 => (if l3 < z1.1 then (am_op (fn116 l0 l3 z1.2) (fun z2 => (am_op (fn119 l1 z2.1 z2.2) (fun z3 => (am_op (fn120 l1 z3.2) (fun z4 => (am_op (fn121 l2 z4.1 z4.2) (fun z5 => (L122_4 l0 l1 n z5.1 (w32 (l3 + 1)) z5.2))))))))) else (some (.inr (l2, l3, z1.2))))))
theorem w122_4 {X : am_K} {C : am_C} {Q : State → Prop} (hG : am_G X C 122 0 0 (0, fun _ => 0)) (hr : match X with | (_, _, _, _, _, _, _, _, meth, _) => meth.sig.returnType = am_mr 122 ∧ meth.locks = false) (l0 : Nat) (l1 : Nat) : ∀ (n : Nat) (l2 : Int) (l3 : Int) (μ : am_M) (r : (Int × am_M) ⊕ (Int × Int × am_M)), L122_4 l0 l1 n l2 l3 μ = some r → (∀ q, r = .inl q → Q = am_E X C 122 q.1 q.2) → (∀ t, r = .inr t → am_W X C 122 Q 0 0 36 [(2, .inl t.1)] [] t.2.2) → am_W X C 122 Q 0 0 4 [(0, .inr (.inr (8, l0))), (1, .inr (.inr (3, l1))), (2, .inl l2), (3, .inl l3)] [] μ := by
  intro n
  induction n with
  | zero => intro l2 l3 μ r h; cases h
  | succ n ih =>
    intro l2 l3 μ r h hI hX
    unfold L122_4 at h
    exact (am_c_iload_n hG (pc := 4) d122_4 rfl (am_c_aload_n hG (pc := 5) d122_5 rfl (x_virtual_i (t := 8) (o := l0) (as2 := []) (rest := [.inl l3]) hG (pc := 6) d122_6 mo122 m9_59 (by decide) dp122_115 rfl rfl (Nat.le_of_ble_eq_true rfl) (Nat.le_of_ble_eq_true rfl) rg115 sd115 (e115 _ _) h (fun z1 h => (x_icmp_ge (tgt := 36) hG (pc := 9) d122_9 rfl h (fun h => (am_lvw (lv2 := [(2, .inl l2)]) [2] rfl (hX (l2, l3, z1.2) (Option.some.inj h).symm))) (fun h => (am_c_aload_n hG (pc := 12) d122_12 rfl (am_c_aload_n hG (pc := 13) d122_13 rfl (am_c_iload_n hG (pc := 14) d122_14 rfl (x_virtual_l (t := 8) (o := l0) (as2 := [.inl l3]) (rest := [.inr (.inr (3, l1))]) hG (pc := 15) d122_15 mo122 m9_64 (by decide) dp122_116 rfl rfl (Nat.le_of_ble_eq_true rfl) (Nat.le_of_ble_eq_true rfl) rg116 sd116 (e116 _ _ _) h (fun z2 h => (x_virtual_v (t := 3) (o := l1) (as2 := [.inr (.inl z2.1)]) (rest := []) hG (pc := 18) d122_18 mo122 m9_68 (by decide) dp122_119 rfl rfl (Nat.le_of_ble_eq_true rfl) (Nat.le_of_ble_eq_true rfl) rg119 sd119 (e119 _ _ _) h (fun z3 h => (am_c_iload_n hG (pc := 21) d122_21 rfl (am_c_aload_n hG (pc := 22) d122_22 rfl (x_virtual_i (t := 3) (o := l1) (as2 := []) (rest := [.inl l2]) hG (pc := 23) d122_23 mo122 m9_46 (by decide) dp122_120 rfl rfl (Nat.le_of_ble_eq_true rfl) (Nat.le_of_ble_eq_true rfl) rg120 sd120 (e120 _ _) h (fun z4 h => (x_static_i (as := [.inl l2, .inl z4.1]) (rest := []) hG (pc := 26) d122_26 mo122 m9_72 (by decide) dp122_121 rfl rfl (Nat.le_of_ble_eq_true rfl) (Nat.le_of_ble_eq_true rfl) rg121 sd121 (e121 _ _ _) h (fun z5 h => (x_istore_n (lv' := [(2, .inl z5.1), (0, .inr (.inr (8, l0))), (1, .inr (.inr (3, l1))), (3, .inl l3)]) hG (pc := 29) d122_29 (ml122 _ (by decide)) rfl (x_iinc (lv' := [(3, .inl (w32 (l3 + 1))), (2, .inl z5.1), (0, .inr (.inr (8, l0))), (1, .inr (.inr (3, l1)))]) hG (pc := 30) d122_30 rfl (ml122 _ (by decide)) rfl (x_goto (tgt := 4) hG (pc := 33) d122_33 rfl (am_lvw (lv2 := [(0, .inr (.inr (8, l0))), (1, .inr (.inr (3, l1))), (2, .inl z5.1), (3, .inl (w32 (l3 + 1)))]) [2, 3, 1, 0] rfl (ih _ _ _ _ h hI hX))))))))))))))))))))))))
def fn122 (a : Nat) (b : Nat) (μ : am_M) : Option (Int × am_M) := (am_op (L122_4 a b am_fuel 0 0 μ) (fun s => am_lp s (fun q1 => some q1) (fun t1 => some (t1.1, t1.2.2))))
def sp122 : am_F := fun vs μ => am_aR 8 vs fun a vs => am_aR 3 vs fun b vs => am_a0 vs (fn122 a b μ)
theorem e122 (a : Nat) (b : Nat) (μ : am_M) : sp122 [.inr (.inr (8, a)), .inr (.inr (3, b))] μ = fn122 a b μ := am_aR_c.trans (am_aR_c.trans am_a0_c)
theorem sd122 : am_Sd 122 sp122 := by
  refine am_Sd_of (by decide) (fun vs μ μ' x h hv hM => ?_)
  obtain ⟨a, vs0, rfl, h0⟩ := am_aR_s h
  obtain ⟨b, vs1, rfl, h1⟩ := am_aR_s h0
  obtain ⟨rfl, hz⟩ := am_a0_s h1
  refine ⟨Nat.le_of_ble_eq_true rfl, fun X C hG hr => ?_⟩
  have h := hz
  unfold fn122 at h
  exact (show am_W X C 122 _ 0 0 0 [(0, .inr (.inr (8, a))), (1, .inr (.inr (3, b)))] [] μ from (am_c_iconst hG (pc := 0) d122_0 (by decide) (x_istore_n (lv' := [(2, .inl 0), (0, .inr (.inr (8, a))), (1, .inr (.inr (3, b)))]) hG (pc := 1) d122_1 (ml122 _ (by decide)) rfl (am_c_iconst hG (pc := 2) d122_2 (by decide) (x_istore_n (lv' := [(3, .inl 0), (2, .inl 0), (0, .inr (.inr (8, a))), (1, .inr (.inr (3, b)))]) hG (pc := 3) d122_3 (ml122 _ (by decide)) rfl (x_lp h (fun r h1 h2 => (am_lvw (lv2 := [(0, .inr (.inr (8, a))), (1, .inr (.inr (3, b))), (2, .inl 0), (3, .inl 0)]) [2, 3, 1, 0] rfl (w122_4 hG hr _ _ _ _ _ _ _ h1 (fun q1 e => am_q1 e h2 (fun h => am_q0 h)) (fun t1 e => am_q2 e h2 (fun h => (am_c_iload_n hG (pc := 36) d122_36 rfl (xq_iret hG (by decide) hr (pc := 37) d122_37 mr122 (am_q0 h))))))))))))))
/-! ChartPress$Sheet.right()I -/
theorem D123 (k : Nat) {pc : Nat} {i : Instr} (h : tbi123[k]? = some (pc, i)) (hs : am_isw i = false) {n : Nat} (hn : am_il i = n) : decode (am_mc 123) pc = .ok (i, n) := am_d2 (by decide) (by decide) rfl h hs hn
theorem d123_0 : decode (am_mc 123) 0 = .ok (.aload_n 0, 1) := D123 0 rfl rfl rfl
theorem d123_1 : decode (am_mc 123) 1 = .ok (.getfield 15, 3) := D123 1 rfl rfl rfl
theorem d123_4 : decode (am_mc 123) 4 = .ok (.iconst 2, 1) := D123 2 rfl rfl rfl
theorem d123_5 : decode (am_mc 123) 5 = .ok (.isub, 1) := D123 3 rfl rfl rfl
theorem d123_6 : decode (am_mc 123) 6 = .ok (.ireturn, 1) := D123 4 rfl rfl rfl
theorem ml123 : ∀ n, n < 1 → n < am_ml 123 := fun _ h => h
theorem mo123 : am_mo 123 = 10 := by decide +kernel
theorem mr123 : am_mr 123 = some .int := by decide +kernel
theorem rg123 : am_rcg 123 = 11 := by decide +kernel
def fn123 (o : Nat) (μ : am_M) : Option (Int × am_M) := some (w32 ((μ o 1) - 2), μ)
def sp123 : am_F := fun vs μ => am_aR 10 vs fun o vs => am_a0 vs (fn123 o μ)
theorem e123 (o : Nat) (μ : am_M) : sp123 [.inr (.inr (10, o))] μ = fn123 o μ := am_aR_c.trans am_a0_c
theorem sd123 : am_Sd 123 sp123 := by
  refine am_Sd_of (by decide) (fun vs μ μ' x h hv hM => ?_)
  obtain ⟨o, vs0, rfl, h0⟩ := am_aR_s h
  obtain ⟨rfl, hz⟩ := am_a0_s h0
  refine ⟨Nat.le_of_ble_eq_true rfl, fun X C hG hr => ?_⟩
  have h := hz
  unfold fn123 at h
  exact (show am_W X C 123 _ 0 0 0 [(0, .inr (.inr (10, o)))] [] μ from (am_c_aload_n hG (pc := 0) d123_0 rfl (x_get_n (v := .inl (μ o 1)) hG (pc := 1) d123_1 mo123 f10_15 rfl (am_c_iconst hG (pc := 4) d123_4 (by decide) (am_c_isub hG (pc := 5) d123_5 (xq_iret hG (by decide) hr (pc := 6) d123_6 mr123 (am_q0 h)))))))
/-! ChartPress$Groups.label(I)LChartPress$Letters; -/
theorem D124 (k : Nat) {pc : Nat} {i : Instr} (h : tbi124[k]? = some (pc, i)) (hs : am_isw i = false) {n : Nat} (hn : am_il i = n) : decode (am_mc 124) pc = .ok (i, n) := am_d2 (by decide) (by decide) rfl h hs hn
theorem d124_0 : decode (am_mc 124) 0 = .ok (.aload_n 0, 1) := D124 0 rfl rfl rfl
theorem d124_1 : decode (am_mc 124) 1 = .ok (.getfield 23, 3) := D124 1 rfl rfl rfl
theorem d124_4 : decode (am_mc 124) 4 = .ok (.aload_n 0, 1) := D124 2 rfl rfl rfl
theorem d124_5 : decode (am_mc 124) 5 = .ok (.iload_n 1, 1) := D124 3 rfl rfl rfl
theorem d124_6 : decode (am_mc 124) 6 = .ok (.invokevirtual 160, 3) := D124 4 rfl rfl rfl
theorem d124_9 : decode (am_mc 124) 9 = .ok (.aaload, 1) := D124 5 rfl rfl rfl
theorem d124_10 : decode (am_mc 124) 10 = .ok (.areturn, 1) := D124 6 rfl rfl rfl
theorem ml124 : ∀ n, n < 2 → n < am_ml 124 := fun _ h => h
theorem mo124 : am_mo 124 = 6 := by decide +kernel
theorem rk124 : am_rk 124 = 3 := by decide +kernel
theorem rtg124 : am_rtg 124 = 3 := by decide +kernel
theorem rg124 : am_rcg 124 = 7 := by decide +kernel
theorem dp124_104 : am_md 104 + 1 ≤ am_md 124 ∧ 8 + (am_ml 104 + 11) + am_lr 104 ≤ am_lr 124 := by decide +kernel
def fn124 (o : Nat) (a : Int) (μ : am_M) : Option (Int × am_M) := (am_op (fn104 o a μ) (fun z1 => (if (0 : Int) ≤ z1.1 ∧ z1.1 < ((am_len (am_ref o 3) : Nat) : Int) then some (((am_ref (am_ref o 3) (z1.1 : Int).toNat : Nat) : Int), z1.2) else none)))
def sp124 : am_F := fun vs μ => am_aR 6 vs fun o vs => am_aI vs fun a vs => am_a0 vs (fn124 o a μ)
theorem e124 (o : Nat) (a : Int) (μ : am_M) : sp124 [.inr (.inr (6, o)), .inl a] μ = fn124 o a μ := am_aR_c.trans (am_aI_c.trans am_a0_c)
theorem sd124 : am_Sd 124 sp124 := by
  refine am_Sd_of (by decide) (fun vs μ μ' x h hv hM => ?_)
  obtain ⟨o, vs0, rfl, h0⟩ := am_aR_s h
  obtain ⟨a, vs1, rfl, h1⟩ := am_aI_s h0
  obtain ⟨rfl, hz⟩ := am_a0_s h1
  refine ⟨Nat.le_of_ble_eq_true rfl, fun X C hG hr => ?_⟩
  have h := hz
  unfold fn124 at h
  exact (show am_W X C 124 _ 0 0 0 [(0, .inr (.inr (6, o))), (1, .inl a)] [] μ from (am_c_aload_n hG (pc := 0) d124_0 rfl (x_get_n (v := .inr (.inr (21, am_ref o 3))) hG (pc := 1) d124_1 mo124 f6_23 rfl (am_c_aload_n hG (pc := 4) d124_4 rfl (am_c_iload_n hG (pc := 5) d124_5 rfl (x_virtual_i (t := 6) (o := o) (as2 := [.inl a]) (rest := [.inr (.inr (21, am_ref o 3))]) hG (pc := 6) d124_6 mo124 m6_160 (by decide) dp124_104 rfl rfl (Nat.le_of_ble_eq_true rfl) (Nat.le_of_ble_eq_true rfl) rg104 sd104 (e104 _ _ _) h (fun z1 h => (x_aaload_L hG (pc := 9) d124_9 h (fun h => (xq_aret hG (by decide) hr (pc := 10) d124_10 rk124 rtg124 (am_q0 h)))))))))))
/-! ChartPress$Sheet.width()I -/
theorem D125 (k : Nat) {pc : Nat} {i : Instr} (h : tbi125[k]? = some (pc, i)) (hs : am_isw i = false) {n : Nat} (hn : am_il i = n) : decode (am_mc 125) pc = .ok (i, n) := am_d2 (by decide) (by decide) rfl h hs hn
theorem d125_0 : decode (am_mc 125) 0 = .ok (.aload_n 0, 1) := D125 0 rfl rfl rfl
theorem d125_1 : decode (am_mc 125) 1 = .ok (.getfield 15, 3) := D125 1 rfl rfl rfl
theorem d125_4 : decode (am_mc 125) 4 = .ok (.ireturn, 1) := D125 2 rfl rfl rfl
theorem ml125 : ∀ n, n < 1 → n < am_ml 125 := fun _ h => h
theorem mo125 : am_mo 125 = 10 := by decide +kernel
theorem mr125 : am_mr 125 = some .int := by decide +kernel
theorem rg125 : am_rcg 125 = 11 := by decide +kernel
def fn125 (o : Nat) (μ : am_M) : Option (Int × am_M) := some (μ o 1, μ)
def sp125 : am_F := fun vs μ => am_aR 10 vs fun o vs => am_a0 vs (fn125 o μ)
theorem e125 (o : Nat) (μ : am_M) : sp125 [.inr (.inr (10, o))] μ = fn125 o μ := am_aR_c.trans am_a0_c
theorem sd125 : am_Sd 125 sp125 := by
  refine am_Sd_of (by decide) (fun vs μ μ' x h hv hM => ?_)
  obtain ⟨o, vs0, rfl, h0⟩ := am_aR_s h
  obtain ⟨rfl, hz⟩ := am_a0_s h0
  refine ⟨Nat.le_of_ble_eq_true rfl, fun X C hG hr => ?_⟩
  have h := hz
  unfold fn125 at h
  exact (show am_W X C 125 _ 0 0 0 [(0, .inr (.inr (10, o)))] [] μ from (am_c_aload_n hG (pc := 0) d125_0 rfl (x_get_n (v := .inl (μ o 1)) hG (pc := 1) d125_1 mo125 f10_15 rfl (xq_iret hG (by decide) hr (pc := 4) d125_4 mr125 (am_q0 h)))))
/-! ChartPress$Layout.bandStart(I)I -/
theorem D126 (k : Nat) {pc : Nat} {i : Instr} (h : tbi126[k]? = some (pc, i)) (hs : am_isw i = false) {n : Nat} (hn : am_il i = n) : decode (am_mc 126) pc = .ok (i, n) := am_d2 (by decide) (by decide) rfl h hs hn
theorem d126_0 : decode (am_mc 126) 0 = .ok (.aload_n 0, 1) := D126 0 rfl rfl rfl
theorem d126_1 : decode (am_mc 126) 1 = .ok (.getfield 24, 3) := D126 1 rfl rfl rfl
theorem d126_4 : decode (am_mc 126) 4 = .ok (.ifCond .le 22, 3) := D126 2 rfl rfl rfl
theorem d126_7 : decode (am_mc 126) 7 = .ok (.aload_n 0, 1) := D126 3 rfl rfl rfl
theorem d126_8 : decode (am_mc 126) 8 = .ok (.getfield 31, 3) := D126 4 rfl rfl rfl
theorem d126_11 : decode (am_mc 126) 11 = .ok (.iload_n 1, 1) := D126 5 rfl rfl rfl
theorem d126_12 : decode (am_mc 126) 12 = .ok (.aload_n 0, 1) := D126 6 rfl rfl rfl
theorem d126_13 : decode (am_mc 126) 13 = .ok (.getfield 39, 3) := D126 7 rfl rfl rfl
theorem d126_16 : decode (am_mc 126) 16 = .ok (.imul, 1) := D126 8 rfl rfl rfl
theorem d126_17 : decode (am_mc 126) 17 = .ok (.aload_n 0, 1) := D126 9 rfl rfl rfl
theorem d126_18 : decode (am_mc 126) 18 = .ok (.getfield 24, 3) := D126 10 rfl rfl rfl
theorem d126_21 : decode (am_mc 126) 21 = .ok (.idiv, 1) := D126 11 rfl rfl rfl
theorem d126_22 : decode (am_mc 126) 22 = .ok (.iadd, 1) := D126 12 rfl rfl rfl
theorem d126_23 : decode (am_mc 126) 23 = .ok (.goto 7, 3) := D126 13 rfl rfl rfl
theorem d126_26 : decode (am_mc 126) 26 = .ok (.aload_n 0, 1) := D126 14 rfl rfl rfl
theorem d126_27 : decode (am_mc 126) 27 = .ok (.getfield 31, 3) := D126 15 rfl rfl rfl
theorem d126_30 : decode (am_mc 126) 30 = .ok (.ireturn, 1) := D126 16 rfl rfl rfl
theorem ml126 : ∀ n, n < 2 → n < am_ml 126 := fun _ h => h
theorem mo126 : am_mo 126 = 9 := by decide +kernel
theorem mr126 : am_mr 126 = some .int := by decide +kernel
theorem rg126 : am_rcg 126 = 10 := by decide +kernel
theorem f9_24 : tb_f 9 24 = some (9, 4, 0, 0) := by decide +kernel
theorem f9_31 : tb_f 9 31 = some (9, 2, 0, 0) := by decide +kernel
theorem f9_39 : tb_f 9 39 = some (9, 3, 0, 0) := by decide +kernel
def fn126 (o : Nat) (a : Int) (μ : am_M) : Option (Int × am_M) := (if 0 < μ o 4 then (if μ o 4 = 0 then none else some (w32 ((μ o 2) + (o_div (w32 (a * (μ o 3))) (μ o 4))), μ)) else some (μ o 2, μ))
def sp126 : am_F := fun vs μ => am_aR 9 vs fun o vs => am_aI vs fun a vs => am_a0 vs (fn126 o a μ)
theorem e126 (o : Nat) (a : Int) (μ : am_M) : sp126 [.inr (.inr (9, o)), .inl a] μ = fn126 o a μ := am_aR_c.trans (am_aI_c.trans am_a0_c)
theorem sd126 : am_Sd 126 sp126 := by
  refine am_Sd_of (by decide) (fun vs μ μ' x h hv hM => ?_)
  obtain ⟨o, vs0, rfl, h0⟩ := am_aR_s h
  obtain ⟨a, vs1, rfl, h1⟩ := am_aI_s h0
  obtain ⟨rfl, hz⟩ := am_a0_s h1
  refine ⟨Nat.le_of_ble_eq_true rfl, fun X C hG hr => ?_⟩
  have h := hz
  unfold fn126 at h
  exact (show am_W X C 126 _ 0 0 0 [(0, .inr (.inr (9, o))), (1, .inl a)] [] μ from (am_c_aload_n hG (pc := 0) d126_0 rfl (x_get_n (v := .inl (μ o 4)) hG (pc := 1) d126_1 mo126 f9_24 rfl (x_if_le (tgt := 26) hG (pc := 4) d126_4 rfl h (fun h => (am_c_aload_n hG (pc := 26) d126_26 rfl (x_get_n (v := .inl (μ o 2)) hG (pc := 27) d126_27 mo126 f9_31 rfl (xq_iret hG (by decide) hr (pc := 30) d126_30 mr126 (am_q0 h))))) (fun h => (am_c_aload_n hG (pc := 7) d126_7 rfl (x_get_n (v := .inl (μ o 2)) hG (pc := 8) d126_8 mo126 f9_31 rfl (am_c_iload_n hG (pc := 11) d126_11 rfl (am_c_aload_n hG (pc := 12) d126_12 rfl (x_get_n (v := .inl (μ o 3)) hG (pc := 13) d126_13 mo126 f9_39 rfl (am_c_imul hG (pc := 16) d126_16 (am_c_aload_n hG (pc := 17) d126_17 rfl (x_get_n (v := .inl (μ o 4)) hG (pc := 18) d126_18 mo126 f9_24 rfl (x_idiv hG (pc := 21) d126_21 h (fun h => (am_c_iadd hG (pc := 22) d126_22 (x_goto (tgt := 30) hG (pc := 23) d126_23 rfl (xq_iret hG (by decide) hr (pc := 30) d126_30 mr126 (am_q0 h)))))))))))))))))))
/-! ChartPress$Layout.bandEnd(I)I -/
theorem D127 (k : Nat) {pc : Nat} {i : Instr} (h : tbi127[k]? = some (pc, i)) (hs : am_isw i = false) {n : Nat} (hn : am_il i = n) : decode (am_mc 127) pc = .ok (i, n) := am_d2 (by decide) (by decide) rfl h hs hn
theorem d127_0 : decode (am_mc 127) 0 = .ok (.aload_n 0, 1) := D127 0 rfl rfl rfl
theorem d127_1 : decode (am_mc 127) 1 = .ok (.iload_n 1, 1) := D127 1 rfl rfl rfl
theorem d127_2 : decode (am_mc 127) 2 = .ok (.iconst 1, 1) := D127 2 rfl rfl rfl
theorem d127_3 : decode (am_mc 127) 3 = .ok (.iadd, 1) := D127 3 rfl rfl rfl
theorem d127_4 : decode (am_mc 127) 4 = .ok (.invokevirtual 92, 3) := D127 4 rfl rfl rfl
theorem d127_7 : decode (am_mc 127) 7 = .ok (.iconst 1, 1) := D127 5 rfl rfl rfl
theorem d127_8 : decode (am_mc 127) 8 = .ok (.isub, 1) := D127 6 rfl rfl rfl
theorem d127_9 : decode (am_mc 127) 9 = .ok (.ireturn, 1) := D127 7 rfl rfl rfl
theorem ml127 : ∀ n, n < 2 → n < am_ml 127 := fun _ h => h
theorem mo127 : am_mo 127 = 9 := by decide +kernel
theorem mr127 : am_mr 127 = some .int := by decide +kernel
theorem rg127 : am_rcg 127 = 10 := by decide +kernel
theorem m9_92 : tb_m 9 92 = some (126, 2, 1, 0) := by decide +kernel
theorem dp127_126 : am_md 126 + 1 ≤ am_md 127 ∧ 8 + (am_ml 126 + 11) + am_lr 126 ≤ am_lr 127 := by decide +kernel
def fn127 (o : Nat) (a : Int) (μ : am_M) : Option (Int × am_M) := (am_op (fn126 o (w32 (a + 1)) μ) (fun z1 => some (w32 (z1.1 - 1), z1.2)))
def sp127 : am_F := fun vs μ => am_aR 9 vs fun o vs => am_aI vs fun a vs => am_a0 vs (fn127 o a μ)
theorem e127 (o : Nat) (a : Int) (μ : am_M) : sp127 [.inr (.inr (9, o)), .inl a] μ = fn127 o a μ := am_aR_c.trans (am_aI_c.trans am_a0_c)
theorem sd127 : am_Sd 127 sp127 := by
  refine am_Sd_of (by decide) (fun vs μ μ' x h hv hM => ?_)
  obtain ⟨o, vs0, rfl, h0⟩ := am_aR_s h
  obtain ⟨a, vs1, rfl, h1⟩ := am_aI_s h0
  obtain ⟨rfl, hz⟩ := am_a0_s h1
  refine ⟨Nat.le_of_ble_eq_true rfl, fun X C hG hr => ?_⟩
  have h := hz
  unfold fn127 at h
  exact (show am_W X C 127 _ 0 0 0 [(0, .inr (.inr (9, o))), (1, .inl a)] [] μ from (am_c_aload_n hG (pc := 0) d127_0 rfl (am_c_iload_n hG (pc := 1) d127_1 rfl (am_c_iconst hG (pc := 2) d127_2 (by decide) (am_c_iadd hG (pc := 3) d127_3 (x_virtual_i (t := 9) (o := o) (as2 := [.inl (w32 (a + 1))]) (rest := []) hG (pc := 4) d127_4 mo127 m9_92 (by decide) dp127_126 rfl rfl (Nat.le_of_ble_eq_true rfl) (Nat.le_of_ble_eq_true rfl) rg126 sd126 (e126 _ _ _) h (fun z1 h => (am_c_iconst hG (pc := 7) d127_7 (by decide) (am_c_isub hG (pc := 8) d127_8 (xq_iret hG (by decide) hr (pc := 9) d127_9 mr127 (am_q0 h)))))))))))
/-! ChartPress$Layout.middle(I)I -/
theorem D128 (k : Nat) {pc : Nat} {i : Instr} (h : tbi128[k]? = some (pc, i)) (hs : am_isw i = false) {n : Nat} (hn : am_il i = n) : decode (am_mc 128) pc = .ok (i, n) := am_d2 (by decide) (by decide) rfl h hs hn
theorem d128_0 : decode (am_mc 128) 0 = .ok (.aload_n 0, 1) := D128 0 rfl rfl rfl
theorem d128_1 : decode (am_mc 128) 1 = .ok (.iload_n 1, 1) := D128 1 rfl rfl rfl
theorem d128_2 : decode (am_mc 128) 2 = .ok (.invokevirtual 92, 3) := D128 2 rfl rfl rfl
theorem d128_5 : decode (am_mc 128) 5 = .ok (.aload_n 0, 1) := D128 3 rfl rfl rfl
theorem d128_6 : decode (am_mc 128) 6 = .ok (.iload_n 1, 1) := D128 4 rfl rfl rfl
theorem d128_7 : decode (am_mc 128) 7 = .ok (.invokevirtual 95, 3) := D128 5 rfl rfl rfl
theorem d128_10 : decode (am_mc 128) 10 = .ok (.iadd, 1) := D128 6 rfl rfl rfl
theorem d128_11 : decode (am_mc 128) 11 = .ok (.iconst 2, 1) := D128 7 rfl rfl rfl
theorem d128_12 : decode (am_mc 128) 12 = .ok (.idiv, 1) := D128 8 rfl rfl rfl
theorem d128_13 : decode (am_mc 128) 13 = .ok (.ireturn, 1) := D128 9 rfl rfl rfl
theorem ml128 : ∀ n, n < 2 → n < am_ml 128 := fun _ h => h
theorem mo128 : am_mo 128 = 9 := by decide +kernel
theorem mr128 : am_mr 128 = some .int := by decide +kernel
theorem rg128 : am_rcg 128 = 10 := by decide +kernel
theorem m9_95 : tb_m 9 95 = some (127, 2, 1, 0) := by decide +kernel
theorem dp128_126 : am_md 126 + 1 ≤ am_md 128 ∧ 8 + (am_ml 126 + 11) + am_lr 126 ≤ am_lr 128 := by decide +kernel
theorem dp128_127 : am_md 127 + 1 ≤ am_md 128 ∧ 8 + (am_ml 127 + 11) + am_lr 127 ≤ am_lr 128 := by decide +kernel
def fn128 (o : Nat) (a : Int) (μ : am_M) : Option (Int × am_M) := (am_op (fn126 o a μ) (fun z1 => (am_op (fn127 o a z1.2) (fun z2 => some (o_div (w32 (z1.1 + z2.1)) 2, z2.2)))))
def sp128 : am_F := fun vs μ => am_aR 9 vs fun o vs => am_aI vs fun a vs => am_a0 vs (fn128 o a μ)
theorem e128 (o : Nat) (a : Int) (μ : am_M) : sp128 [.inr (.inr (9, o)), .inl a] μ = fn128 o a μ := am_aR_c.trans (am_aI_c.trans am_a0_c)
theorem sd128 : am_Sd 128 sp128 := by
  refine am_Sd_of (by decide) (fun vs μ μ' x h hv hM => ?_)
  obtain ⟨o, vs0, rfl, h0⟩ := am_aR_s h
  obtain ⟨a, vs1, rfl, h1⟩ := am_aI_s h0
  obtain ⟨rfl, hz⟩ := am_a0_s h1
  refine ⟨Nat.le_of_ble_eq_true rfl, fun X C hG hr => ?_⟩
  have h := hz
  unfold fn128 at h
  exact (show am_W X C 128 _ 0 0 0 [(0, .inr (.inr (9, o))), (1, .inl a)] [] μ from (am_c_aload_n hG (pc := 0) d128_0 rfl (am_c_iload_n hG (pc := 1) d128_1 rfl (x_virtual_i (t := 9) (o := o) (as2 := [.inl a]) (rest := []) hG (pc := 2) d128_2 mo128 m9_92 (by decide) dp128_126 rfl rfl (Nat.le_of_ble_eq_true rfl) (Nat.le_of_ble_eq_true rfl) rg126 sd126 (e126 _ _ _) h (fun z1 h => (am_c_aload_n hG (pc := 5) d128_5 rfl (am_c_iload_n hG (pc := 6) d128_6 rfl (x_virtual_i (t := 9) (o := o) (as2 := [.inl a]) (rest := [.inl z1.1]) hG (pc := 7) d128_7 mo128 m9_95 (by decide) dp128_127 rfl rfl (Nat.le_of_ble_eq_true rfl) (Nat.le_of_ble_eq_true rfl) rg127 sd127 (e127 _ _ _) h (fun z2 h => (am_c_iadd hG (pc := 10) d128_10 (am_c_iconst hG (pc := 11) d128_11 (by decide) (am_c_idiv hG (pc := 12) d128_12 (by decide) (xq_iret hG (by decide) hr (pc := 13) d128_13 mr128 (am_q0 h))))))))))))))
/-! ChartPress$Layout.placeLabels(LChartPress$Groups;I)V -/
theorem D129 (k : Nat) {pc : Nat} {i : Instr} (h : tbi129[k]? = some (pc, i)) (hs : am_isw i = false) {n : Nat} (hn : am_il i = n) : decode (am_mc 129) pc = .ok (i, n) := am_d2 (by decide) (by decide) rfl h hs hn
theorem d129_0 : decode (am_mc 129) 0 = .ok (.iconst 0, 1) := D129 0 rfl rfl rfl
theorem d129_1 : decode (am_mc 129) 1 = .ok (.istore_n 3, 1) := D129 1 rfl rfl rfl
theorem d129_2 : decode (am_mc 129) 2 = .ok (.iload_n 3, 1) := D129 2 rfl rfl rfl
theorem d129_3 : decode (am_mc 129) 3 = .ok (.aload_n 0, 1) := D129 3 rfl rfl rfl
theorem d129_4 : decode (am_mc 129) 4 = .ok (.getfield 24, 3) := D129 4 rfl rfl rfl
theorem d129_7 : decode (am_mc 129) 7 = .ok (.if_icmp .ge 72, 3) := D129 5 rfl rfl rfl
theorem d129_10 : decode (am_mc 129) 10 = .ok (.iload_n 3, 1) := D129 6 rfl rfl rfl
theorem d129_11 : decode (am_mc 129) 11 = .ok (.aload_n 0, 1) := D129 7 rfl rfl rfl
theorem d129_12 : decode (am_mc 129) 12 = .ok (.getfield 9, 3) := D129 8 rfl rfl rfl
theorem d129_15 : decode (am_mc 129) 15 = .ok (.arraylength, 1) := D129 9 rfl rfl rfl
theorem d129_16 : decode (am_mc 129) 16 = .ok (.if_icmp .ge 63, 3) := D129 10 rfl rfl rfl
theorem d129_19 : decode (am_mc 129) 19 = .ok (.aload_n 1, 1) := D129 11 rfl rfl rfl
theorem d129_20 : decode (am_mc 129) 20 = .ok (.iload_n 3, 1) := D129 12 rfl rfl rfl
theorem d129_21 : decode (am_mc 129) 21 = .ok (.invokevirtual 42, 3) := D129 13 rfl rfl rfl
theorem d129_24 : decode (am_mc 129) 24 = .ok (.invokevirtual 46, 3) := D129 14 rfl rfl rfl
theorem d129_27 : decode (am_mc 129) 27 = .ok (.istore 4, 2) := D129 15 rfl rfl rfl
theorem d129_29 : decode (am_mc 129) 29 = .ok (.iconst 0, 1) := D129 16 rfl rfl rfl
theorem d129_30 : decode (am_mc 129) 30 = .ok (.aload_n 0, 1) := D129 17 rfl rfl rfl
theorem d129_31 : decode (am_mc 129) 31 = .ok (.iload_n 3, 1) := D129 18 rfl rfl rfl
theorem d129_32 : decode (am_mc 129) 32 = .ok (.invokevirtual 78, 3) := D129 19 rfl rfl rfl
theorem d129_35 : decode (am_mc 129) 35 = .ok (.iload 4, 2) := D129 20 rfl rfl rfl
theorem d129_37 : decode (am_mc 129) 37 = .ok (.iconst 2, 1) := D129 21 rfl rfl rfl
theorem d129_38 : decode (am_mc 129) 38 = .ok (.idiv, 1) := D129 22 rfl rfl rfl
theorem d129_39 : decode (am_mc 129) 39 = .ok (.isub, 1) := D129 23 rfl rfl rfl
theorem d129_40 : decode (am_mc 129) 40 = .ok (.iload_n 2, 1) := D129 24 rfl rfl rfl
theorem d129_41 : decode (am_mc 129) 41 = .ok (.iload 4, 2) := D129 25 rfl rfl rfl
theorem d129_43 : decode (am_mc 129) 43 = .ok (.isub, 1) := D129 26 rfl rfl rfl
theorem d129_44 : decode (am_mc 129) 44 = .ok (.invokestatic 82, 3) := D129 27 rfl rfl rfl
theorem d129_47 : decode (am_mc 129) 47 = .ok (.invokestatic 72, 3) := D129 28 rfl rfl rfl
theorem d129_50 : decode (am_mc 129) 50 = .ok (.istore 5, 2) := D129 29 rfl rfl rfl
theorem d129_52 : decode (am_mc 129) 52 = .ok (.aload_n 0, 1) := D129 30 rfl rfl rfl
theorem d129_53 : decode (am_mc 129) 53 = .ok (.getfield 9, 3) := D129 31 rfl rfl rfl
theorem d129_56 : decode (am_mc 129) 56 = .ok (.iload_n 3, 1) := D129 32 rfl rfl rfl
theorem d129_57 : decode (am_mc 129) 57 = .ok (.iload 5, 2) := D129 33 rfl rfl rfl
theorem d129_59 : decode (am_mc 129) 59 = .ok (.iastore, 1) := D129 34 rfl rfl rfl
theorem d129_60 : decode (am_mc 129) 60 = .ok (.aload_n 0, 1) := D129 35 rfl rfl rfl
theorem d129_61 : decode (am_mc 129) 61 = .ok (.getfield 15, 3) := D129 36 rfl rfl rfl
theorem d129_64 : decode (am_mc 129) 64 = .ok (.iload_n 3, 1) := D129 37 rfl rfl rfl
theorem d129_65 : decode (am_mc 129) 65 = .ok (.iload 5, 2) := D129 38 rfl rfl rfl
theorem d129_67 : decode (am_mc 129) 67 = .ok (.iload 4, 2) := D129 39 rfl rfl rfl
theorem d129_69 : decode (am_mc 129) 69 = .ok (.iadd, 1) := D129 40 rfl rfl rfl
theorem d129_70 : decode (am_mc 129) 70 = .ok (.iconst 1, 1) := D129 41 rfl rfl rfl
theorem d129_71 : decode (am_mc 129) 71 = .ok (.isub, 1) := D129 42 rfl rfl rfl
theorem d129_72 : decode (am_mc 129) 72 = .ok (.iastore, 1) := D129 43 rfl rfl rfl
theorem d129_73 : decode (am_mc 129) 73 = .ok (.iinc 3 1, 3) := D129 44 rfl rfl rfl
theorem d129_76 : decode (am_mc 129) 76 = .ok (.goto (-74), 3) := D129 45 rfl rfl rfl
theorem d129_79 : decode (am_mc 129) 79 = .ok (.return_, 1) := D129 46 rfl rfl rfl
theorem ml129 : ∀ n, n < 6 → n < am_ml 129 := fun _ h => h
theorem mo129 : am_mo 129 = 9 := by decide +kernel
theorem rk129 : am_rk 129 = 0 := by decide +kernel
theorem rg129 : am_rcg 129 = 10 := by decide +kernel
theorem f9_9 : tb_f 9 9 = some (9, 0, 5, 16) := by decide +kernel
theorem f9_15 : tb_f 9 15 = some (9, 1, 5, 16) := by decide +kernel
theorem m9_42 : tb_m 9 42 = some (124, 2, 3, 3) := by decide +kernel
theorem m9_78 : tb_m 9 78 = some (128, 2, 1, 0) := by decide +kernel
theorem m9_82 : tb_m 9 82 = some (78, 2, 1, 0) := by decide +kernel
theorem dp129_78 : am_md 78 + 1 ≤ am_md 129 ∧ 8 + (am_ml 78 + 11) + am_lr 78 ≤ am_lr 129 := by decide +kernel
theorem dp129_120 : am_md 120 + 1 ≤ am_md 129 ∧ 8 + (am_ml 120 + 11) + am_lr 120 ≤ am_lr 129 := by decide +kernel
theorem dp129_121 : am_md 121 + 1 ≤ am_md 129 ∧ 8 + (am_ml 121 + 11) + am_lr 121 ≤ am_lr 129 := by decide +kernel
theorem dp129_124 : am_md 124 + 1 ≤ am_md 129 ∧ 8 + (am_ml 124 + 11) + am_lr 124 ≤ am_lr 129 := by decide +kernel
theorem dp129_128 : am_md 128 + 1 ≤ am_md 129 ∧ 8 + (am_ml 128 + 11) + am_lr 128 ≤ am_lr 129 := by decide +kernel
def L129_2 (l0 : Nat) (l1 : Nat) (l2 : Int) : Nat → Int → am_M → Option ((Int × am_M) ⊕ (Int × am_M))
  | 0, _, _ => none
  | n + 1, l3, μ => (if l3 < μ l0 4 then (if l3 < ((am_len (am_ref l0 0) : Nat) : Int) then (am_op (fn124 l1 l3 μ) (fun z1 => (am_op (fn120 z1.1.toNat z1.2) (fun z2 => (am_op (fn128 l0 l3 z2.2) (fun z3 => (am_op (fn78 (w32 (z3.1 - (o_div z2.1 2))) (w32 (l2 - z2.1)) z3.2) (fun z4 => (am_op (fn121 0 z4.1 z4.2) (fun z5 => (if (0 : Int) ≤ l3 ∧ l3 < ((am_len (am_ref l0 0) : Nat) : Int) then (if (0 : Int) ≤ l3 ∧ l3 < ((am_len (am_ref l0 1) : Nat) : Int) then (L129_2 l0 l1 l2 n (w32 (l3 + 1)) (am_up (am_up z5.2 (am_ref l0 0) (l3 : Int).toNat z5.1) (am_ref l0 1) (l3 : Int).toNat (w32 ((w32 (z5.1 + z2.1)) - 1)))) else none) else none))))))))))) else (some (.inr (l3, μ)))) else (some (.inr (l3, μ))))
theorem w129_2 {X : am_K} {C : am_C} {Q : State → Prop} (hG : am_G X C 129 0 0 (0, fun _ => 0)) (hr : match X with | (_, _, _, _, _, _, _, _, meth, _) => meth.sig.returnType = am_mr 129 ∧ meth.locks = false) (l0 : Nat) (l1 : Nat) (l2 : Int) : ∀ (n : Nat) (l3 : Int) (μ : am_M) (r : (Int × am_M) ⊕ (Int × am_M)), L129_2 l0 l1 l2 n l3 μ = some r → (∀ q, r = .inl q → Q = am_E X C 129 q.1 q.2) → (∀ t, r = .inr t → am_W X C 129 Q 0 0 79 [] [] t.2) → am_W X C 129 Q 0 0 2 [(0, .inr (.inr (9, l0))), (1, .inr (.inr (6, l1))), (2, .inl l2), (3, .inl l3)] [] μ := by
  intro n
  induction n with
  | zero => intro l3 μ r h; cases h
  | succ n ih =>
    intro l3 μ r h hI hX
    unfold L129_2 at h
    exact (am_c_iload_n hG (pc := 2) d129_2 rfl (am_c_aload_n hG (pc := 3) d129_3 rfl (x_get_n (v := .inl (μ l0 4)) hG (pc := 4) d129_4 mo129 f9_24 rfl (x_icmp_ge (tgt := 79) hG (pc := 7) d129_7 rfl h (fun h => (am_lvw (lv2 := []) [] rfl (hX (l3, μ) (Option.some.inj h).symm))) (fun h => (am_c_iload_n hG (pc := 10) d129_10 rfl (am_c_aload_n hG (pc := 11) d129_11 rfl (x_get_n (v := .inr (.inr (16, am_ref l0 0))) hG (pc := 12) d129_12 mo129 f9_9 rfl (am_c_len hG (pc := 15) d129_15 (by decide) (x_icmp_ge (tgt := 79) hG (pc := 16) d129_16 rfl h (fun h => (am_lvw (lv2 := []) [] rfl (hX (l3, μ) (Option.some.inj h).symm))) (fun h => (am_c_aload_n hG (pc := 19) d129_19 rfl (am_c_iload_n hG (pc := 20) d129_20 rfl (x_virtual_r (t := 6) (o := l1) (as2 := [.inl l3]) (rest := []) hG (pc := 21) d129_21 mo129 m9_42 (by decide) dp129_124 rfl rfl (Nat.le_of_ble_eq_true rfl) (Nat.le_of_ble_eq_true rfl) rg124 sd124 (e124 _ _ _) h (fun z1 h => (x_virtual_i (t := 3) (o := z1.1.toNat) (as2 := []) (rest := []) hG (pc := 24) d129_24 mo129 m9_46 (by decide) dp129_120 rfl rfl (Nat.le_of_ble_eq_true rfl) (Nat.le_of_ble_eq_true rfl) rg120 sd120 (e120 _ _) h (fun z2 h => (x_istore (lv' := [(4, .inl z2.1), (0, .inr (.inr (9, l0))), (1, .inr (.inr (6, l1))), (2, .inl l2), (3, .inl l3)]) hG (pc := 27) d129_27 (ml129 _ (by decide)) rfl (am_c_iconst hG (pc := 29) d129_29 (by decide) (am_c_aload_n hG (pc := 30) d129_30 rfl (am_c_iload_n hG (pc := 31) d129_31 rfl (x_virtual_i (t := 9) (o := l0) (as2 := [.inl l3]) (rest := [.inl 0]) hG (pc := 32) d129_32 mo129 m9_78 (by decide) dp129_128 rfl rfl (Nat.le_of_ble_eq_true rfl) (Nat.le_of_ble_eq_true rfl) rg128 sd128 (e128 _ _ _) h (fun z3 h => (am_c_iload hG (pc := 35) d129_35 rfl (am_c_iconst hG (pc := 37) d129_37 (by decide) (am_c_idiv hG (pc := 38) d129_38 (by decide) (am_c_isub hG (pc := 39) d129_39 (am_c_iload_n hG (pc := 40) d129_40 rfl (am_c_iload hG (pc := 41) d129_41 rfl (am_c_isub hG (pc := 43) d129_43 (x_static_i (as := [.inl (w32 (z3.1 - (o_div z2.1 2))), .inl (w32 (l2 - z2.1))]) (rest := [.inl 0]) hG (pc := 44) d129_44 mo129 m9_82 (by decide) dp129_78 rfl rfl (Nat.le_of_ble_eq_true rfl) (Nat.le_of_ble_eq_true rfl) rg78 sd78 (e78 _ _ _) h (fun z4 h => (x_static_i (as := [.inl 0, .inl z4.1]) (rest := []) hG (pc := 47) d129_47 mo129 m9_72 (by decide) dp129_121 rfl rfl (Nat.le_of_ble_eq_true rfl) (Nat.le_of_ble_eq_true rfl) rg121 sd121 (e121 _ _ _) h (fun z5 h => (x_istore (lv' := [(5, .inl z5.1), (4, .inl z2.1), (0, .inr (.inr (9, l0))), (1, .inr (.inr (6, l1))), (2, .inl l2), (3, .inl l3)]) hG (pc := 50) d129_50 (ml129 _ (by decide)) rfl (am_c_aload_n hG (pc := 52) d129_52 rfl (x_get_n (v := .inr (.inr (16, am_ref l0 0))) hG (pc := 53) d129_53 mo129 f9_9 rfl (am_c_iload_n hG (pc := 56) d129_56 rfl (am_c_iload hG (pc := 57) d129_57 rfl (x_iastore hG (pc := 59) d129_59 h (fun h => (am_c_aload_n hG (pc := 60) d129_60 rfl (x_get_n (v := .inr (.inr (16, am_ref l0 1))) hG (pc := 61) d129_61 mo129 f9_15 rfl (am_c_iload_n hG (pc := 64) d129_64 rfl (am_c_iload hG (pc := 65) d129_65 rfl (am_c_iload hG (pc := 67) d129_67 rfl (am_c_iadd hG (pc := 69) d129_69 (am_c_iconst hG (pc := 70) d129_70 (by decide) (am_c_isub hG (pc := 71) d129_71 (x_iastore hG (pc := 72) d129_72 h (fun h => (x_iinc (lv' := [(3, .inl (w32 (l3 + 1))), (5, .inl z5.1), (4, .inl z2.1), (0, .inr (.inr (9, l0))), (1, .inr (.inr (6, l1))), (2, .inl l2)]) hG (pc := 73) d129_73 rfl (ml129 _ (by decide)) rfl (x_goto (tgt := 2) hG (pc := 76) d129_76 rfl (am_lvw (lv2 := [(0, .inr (.inr (9, l0))), (1, .inr (.inr (6, l1))), (2, .inl l2), (3, .inl (w32 (l3 + 1)))]) [3, 4, 5, 0] rfl (ih _ _ _ h hI hX)))))))))))))))))))))))))))))))))))))))))))))))))))))))
def fn129 (o : Nat) (a : Nat) (b : Int) (μ : am_M) : Option (Int × am_M) := (am_op (L129_2 o a b am_fuel 0 μ) (fun s => am_lp s (fun q1 => some q1) (fun t1 => some (0, t1.2))))
def sp129 : am_F := fun vs μ => am_aR 9 vs fun o vs => am_aR 6 vs fun a vs => am_aI vs fun b vs => am_a0 vs (fn129 o a b μ)
theorem e129 (o : Nat) (a : Nat) (b : Int) (μ : am_M) : sp129 [.inr (.inr (9, o)), .inr (.inr (6, a)), .inl b] μ = fn129 o a b μ := am_aR_c.trans (am_aR_c.trans (am_aI_c.trans am_a0_c))
theorem sd129 : am_Sd 129 sp129 := by
  refine am_Sd_of (by decide) (fun vs μ μ' x h hv hM => ?_)
  obtain ⟨o, vs0, rfl, h0⟩ := am_aR_s h
  obtain ⟨a, vs1, rfl, h1⟩ := am_aR_s h0
  obtain ⟨b, vs2, rfl, h2⟩ := am_aI_s h1
  obtain ⟨rfl, hz⟩ := am_a0_s h2
  refine ⟨Nat.le_of_ble_eq_true rfl, fun X C hG hr => ?_⟩
  have h := hz
  unfold fn129 at h
  exact (show am_W X C 129 _ 0 0 0 [(0, .inr (.inr (9, o))), (1, .inr (.inr (6, a))), (2, .inl b)] [] μ from (am_c_iconst hG (pc := 0) d129_0 (by decide) (x_istore_n (lv' := [(3, .inl 0), (0, .inr (.inr (9, o))), (1, .inr (.inr (6, a))), (2, .inl b)]) hG (pc := 1) d129_1 (ml129 _ (by decide)) rfl (x_lp h (fun r h1 h2 => (am_lvw (lv2 := [(0, .inr (.inr (9, o))), (1, .inr (.inr (6, a))), (2, .inl b), (3, .inl 0)]) [1, 2, 3, 0] rfl (w129_2 hG hr _ _ _ _ _ _ _ h1 (fun q1 e => am_q1 e h2 (fun h => am_q0 h)) (fun t1 e => am_q2 e h2 (fun h => (xq_vret hG (by decide) hr (pc := 79) d129_79 rk129 (am_q0 h)))))))))))
/-! ChartPress$Layout.isStrideFree(I)Z -/
theorem D130 (k : Nat) {pc : Nat} {i : Instr} (h : tbi130[k]? = some (pc, i)) (hs : am_isw i = false) {n : Nat} (hn : am_il i = n) : decode (am_mc 130) pc = .ok (i, n) := am_d2 (by decide) (by decide) rfl h hs hn
theorem d130_0 : decode (am_mc 130) 0 = .ok (.iconst 1, 1) := D130 0 rfl rfl rfl
theorem d130_1 : decode (am_mc 130) 1 = .ok (.istore_n 2, 1) := D130 1 rfl rfl rfl
theorem d130_2 : decode (am_mc 130) 2 = .ok (.iload_n 1, 1) := D130 2 rfl rfl rfl
theorem d130_3 : decode (am_mc 130) 3 = .ok (.istore_n 3, 1) := D130 3 rfl rfl rfl
theorem d130_4 : decode (am_mc 130) 4 = .ok (.iload_n 3, 1) := D130 4 rfl rfl rfl
theorem d130_5 : decode (am_mc 130) 5 = .ok (.aload_n 0, 1) := D130 5 rfl rfl rfl
theorem d130_6 : decode (am_mc 130) 6 = .ok (.getfield 24, 3) := D130 6 rfl rfl rfl
theorem d130_9 : decode (am_mc 130) 9 = .ok (.if_icmp .ge 57, 3) := D130 7 rfl rfl rfl
theorem d130_12 : decode (am_mc 130) 12 = .ok (.iload_n 3, 1) := D130 8 rfl rfl rfl
theorem d130_13 : decode (am_mc 130) 13 = .ok (.aload_n 0, 1) := D130 9 rfl rfl rfl
theorem d130_14 : decode (am_mc 130) 14 = .ok (.getfield 9, 3) := D130 10 rfl rfl rfl
theorem d130_17 : decode (am_mc 130) 17 = .ok (.arraylength, 1) := D130 11 rfl rfl rfl
theorem d130_18 : decode (am_mc 130) 18 = .ok (.if_icmp .ge 48, 3) := D130 12 rfl rfl rfl
theorem d130_21 : decode (am_mc 130) 21 = .ok (.iload_n 1, 1) := D130 13 rfl rfl rfl
theorem d130_22 : decode (am_mc 130) 22 = .ok (.ifCond .le 38, 3) := D130 14 rfl rfl rfl
theorem d130_25 : decode (am_mc 130) 25 = .ok (.iload_n 3, 1) := D130 15 rfl rfl rfl
theorem d130_26 : decode (am_mc 130) 26 = .ok (.iload_n 1, 1) := D130 16 rfl rfl rfl
theorem d130_27 : decode (am_mc 130) 27 = .ok (.irem, 1) := D130 17 rfl rfl rfl
theorem d130_28 : decode (am_mc 130) 28 = .ok (.ifCond .ne 32, 3) := D130 18 rfl rfl rfl
theorem d130_31 : decode (am_mc 130) 31 = .ok (.iload_n 2, 1) := D130 19 rfl rfl rfl
theorem d130_32 : decode (am_mc 130) 32 = .ok (.ifCond .eq 26, 3) := D130 20 rfl rfl rfl
theorem d130_35 : decode (am_mc 130) 35 = .ok (.aload_n 0, 1) := D130 21 rfl rfl rfl
theorem d130_36 : decode (am_mc 130) 36 = .ok (.getfield 9, 3) := D130 22 rfl rfl rfl
theorem d130_39 : decode (am_mc 130) 39 = .ok (.iload_n 3, 1) := D130 23 rfl rfl rfl
theorem d130_40 : decode (am_mc 130) 40 = .ok (.iaload, 1) := D130 24 rfl rfl rfl
theorem d130_41 : decode (am_mc 130) 41 = .ok (.aload_n 0, 1) := D130 25 rfl rfl rfl
theorem d130_42 : decode (am_mc 130) 42 = .ok (.getfield 15, 3) := D130 26 rfl rfl rfl
theorem d130_45 : decode (am_mc 130) 45 = .ok (.iload_n 3, 1) := D130 27 rfl rfl rfl
theorem d130_46 : decode (am_mc 130) 46 = .ok (.iload_n 1, 1) := D130 28 rfl rfl rfl
theorem d130_47 : decode (am_mc 130) 47 = .ok (.isub, 1) := D130 29 rfl rfl rfl
theorem d130_48 : decode (am_mc 130) 48 = .ok (.iaload, 1) := D130 30 rfl rfl rfl
theorem d130_49 : decode (am_mc 130) 49 = .ok (.iconst 2, 1) := D130 31 rfl rfl rfl
theorem d130_50 : decode (am_mc 130) 50 = .ok (.iadd, 1) := D130 32 rfl rfl rfl
theorem d130_51 : decode (am_mc 130) 51 = .ok (.if_icmp .lt 7, 3) := D130 33 rfl rfl rfl
theorem d130_54 : decode (am_mc 130) 54 = .ok (.iconst 1, 1) := D130 34 rfl rfl rfl
theorem d130_55 : decode (am_mc 130) 55 = .ok (.goto 4, 3) := D130 35 rfl rfl rfl
theorem d130_58 : decode (am_mc 130) 58 = .ok (.iconst 0, 1) := D130 36 rfl rfl rfl
theorem d130_59 : decode (am_mc 130) 59 = .ok (.istore_n 2, 1) := D130 37 rfl rfl rfl
theorem d130_60 : decode (am_mc 130) 60 = .ok (.iinc 3 1, 3) := D130 38 rfl rfl rfl
theorem d130_63 : decode (am_mc 130) 63 = .ok (.goto (-59), 3) := D130 39 rfl rfl rfl
theorem d130_66 : decode (am_mc 130) 66 = .ok (.iload_n 2, 1) := D130 40 rfl rfl rfl
theorem d130_67 : decode (am_mc 130) 67 = .ok (.ireturn, 1) := D130 41 rfl rfl rfl
theorem ml130 : ∀ n, n < 4 → n < am_ml 130 := fun _ h => h
theorem mo130 : am_mo 130 = 9 := by decide +kernel
theorem mr130 : am_mr 130 = some .boolean := by decide +kernel
theorem rg130 : am_rcg 130 = 10 := by decide +kernel
def L130_4 (l0 : Nat) (l1 : Int) : Nat → Int → Int → am_M → Option ((Int × am_M) ⊕ (Int × Int × am_M))
  | 0, _, _, _ => none
  | n + 1, l2, l3, μ => (if l3 < μ l0 4 then (if l3 < ((am_len (am_ref l0 0) : Nat) : Int) then (if 0 < l1 then (if l1 = 0 then none else (if o_rem l3 l1 = 0 then (if l2 = 0 then (L130_4 l0 l1 n 0 (w32 (l3 + 1)) μ) else (if (0 : Int) ≤ l3 ∧ l3 < ((am_len (am_ref l0 0) : Nat) : Int) then (if (0 : Int) ≤ w32 (l3 - l1) ∧ w32 (l3 - l1) < ((am_len (am_ref l0 1) : Nat) : Int) then (if μ (am_ref l0 0) (l3 : Int).toNat < w32 ((μ (am_ref l0 1) (w32 (l3 - l1) : Int).toNat) + 2) then (L130_4 l0 l1 n 0 (w32 (l3 + 1)) μ) else (L130_4 l0 l1 n 1 (w32 (l3 + 1)) μ)) else none) else none)) else (L130_4 l0 l1 n l2 (w32 (l3 + 1)) μ))) else (L130_4 l0 l1 n l2 (w32 (l3 + 1)) μ)) else (some (.inr (l2, l3, μ)))) else (some (.inr (l2, l3, μ))))
theorem w130_4 {X : am_K} {C : am_C} {Q : State → Prop} (hG : am_G X C 130 0 0 (0, fun _ => 0)) (hr : match X with | (_, _, _, _, _, _, _, _, meth, _) => meth.sig.returnType = am_mr 130 ∧ meth.locks = false) (l0 : Nat) (l1 : Int) : ∀ (n : Nat) (l2 : Int) (l3 : Int) (μ : am_M) (r : (Int × am_M) ⊕ (Int × Int × am_M)), L130_4 l0 l1 n l2 l3 μ = some r → (∀ q, r = .inl q → Q = am_E X C 130 q.1 q.2) → (∀ t, r = .inr t → am_W X C 130 Q 0 0 66 [(2, .inl t.1)] [] t.2.2) → am_W X C 130 Q 0 0 4 [(0, .inr (.inr (9, l0))), (1, .inl l1), (2, .inl l2), (3, .inl l3)] [] μ := by
  intro n
  induction n with
  | zero => intro l2 l3 μ r h; cases h
  | succ n ih =>
    intro l2 l3 μ r h hI hX
    unfold L130_4 at h
    exact (am_c_iload_n hG (pc := 4) d130_4 rfl (am_c_aload_n hG (pc := 5) d130_5 rfl (x_get_n (v := .inl (μ l0 4)) hG (pc := 6) d130_6 mo130 f9_24 rfl (x_icmp_ge (tgt := 66) hG (pc := 9) d130_9 rfl h (fun h => (am_lvw (lv2 := [(2, .inl l2)]) [2] rfl (hX (l2, l3, μ) (Option.some.inj h).symm))) (fun h => (am_c_iload_n hG (pc := 12) d130_12 rfl (am_c_aload_n hG (pc := 13) d130_13 rfl (x_get_n (v := .inr (.inr (16, am_ref l0 0))) hG (pc := 14) d130_14 mo130 f9_9 rfl (am_c_len hG (pc := 17) d130_17 (by decide) (x_icmp_ge (tgt := 66) hG (pc := 18) d130_18 rfl h (fun h => (am_lvw (lv2 := [(2, .inl l2)]) [2] rfl (hX (l2, l3, μ) (Option.some.inj h).symm))) (fun h => (am_c_iload_n hG (pc := 21) d130_21 rfl (x_if_le (tgt := 60) hG (pc := 22) d130_22 rfl h (fun h => (x_iinc (lv' := [(3, .inl (w32 (l3 + 1))), (0, .inr (.inr (9, l0))), (1, .inl l1), (2, .inl l2)]) hG (pc := 60) d130_60 rfl (ml130 _ (by decide)) rfl (x_goto (tgt := 4) hG (pc := 63) d130_63 rfl (am_lvw (lv2 := [(0, .inr (.inr (9, l0))), (1, .inl l1), (2, .inl l2), (3, .inl (w32 (l3 + 1)))]) [1, 2, 3, 0] rfl (ih _ _ _ _ h hI hX))))) (fun h => (am_c_iload_n hG (pc := 25) d130_25 rfl (am_c_iload_n hG (pc := 26) d130_26 rfl (x_irem hG (pc := 27) d130_27 h (fun h => (x_if_ne (tgt := 60) hG (pc := 28) d130_28 rfl h (fun h => (x_iinc (lv' := [(3, .inl (w32 (l3 + 1))), (0, .inr (.inr (9, l0))), (1, .inl l1), (2, .inl l2)]) hG (pc := 60) d130_60 rfl (ml130 _ (by decide)) rfl (x_goto (tgt := 4) hG (pc := 63) d130_63 rfl (am_lvw (lv2 := [(0, .inr (.inr (9, l0))), (1, .inl l1), (2, .inl l2), (3, .inl (w32 (l3 + 1)))]) [1, 2, 3, 0] rfl (ih _ _ _ _ h hI hX))))) (fun h => (am_c_iload_n hG (pc := 31) d130_31 rfl (x_if_eq (tgt := 58) hG (pc := 32) d130_32 rfl h (fun h => (am_c_iconst hG (pc := 58) d130_58 (by decide) (x_istore_n (lv' := [(2, .inl 0), (0, .inr (.inr (9, l0))), (1, .inl l1), (3, .inl l3)]) hG (pc := 59) d130_59 (ml130 _ (by decide)) rfl (x_iinc (lv' := [(3, .inl (w32 (l3 + 1))), (2, .inl 0), (0, .inr (.inr (9, l0))), (1, .inl l1)]) hG (pc := 60) d130_60 rfl (ml130 _ (by decide)) rfl (x_goto (tgt := 4) hG (pc := 63) d130_63 rfl (am_lvw (lv2 := [(0, .inr (.inr (9, l0))), (1, .inl l1), (2, .inl 0), (3, .inl (w32 (l3 + 1)))]) [2, 3, 1, 0] rfl (ih _ _ _ _ h hI hX))))))) (fun h => (am_c_aload_n hG (pc := 35) d130_35 rfl (x_get_n (v := .inr (.inr (16, am_ref l0 0))) hG (pc := 36) d130_36 mo130 f9_9 rfl (am_c_iload_n hG (pc := 39) d130_39 rfl (x_iaload hG (pc := 40) d130_40 h (fun h => (am_c_aload_n hG (pc := 41) d130_41 rfl (x_get_n (v := .inr (.inr (16, am_ref l0 1))) hG (pc := 42) d130_42 mo130 f9_15 rfl (am_c_iload_n hG (pc := 45) d130_45 rfl (am_c_iload_n hG (pc := 46) d130_46 rfl (am_c_isub hG (pc := 47) d130_47 (x_iaload hG (pc := 48) d130_48 h (fun h => (am_c_iconst hG (pc := 49) d130_49 (by decide) (am_c_iadd hG (pc := 50) d130_50 (x_icmp_lt (tgt := 58) hG (pc := 51) d130_51 rfl h (fun h => (am_c_iconst hG (pc := 58) d130_58 (by decide) (x_istore_n (lv' := [(2, .inl 0), (0, .inr (.inr (9, l0))), (1, .inl l1), (3, .inl l3)]) hG (pc := 59) d130_59 (ml130 _ (by decide)) rfl (x_iinc (lv' := [(3, .inl (w32 (l3 + 1))), (2, .inl 0), (0, .inr (.inr (9, l0))), (1, .inl l1)]) hG (pc := 60) d130_60 rfl (ml130 _ (by decide)) rfl (x_goto (tgt := 4) hG (pc := 63) d130_63 rfl (am_lvw (lv2 := [(0, .inr (.inr (9, l0))), (1, .inl l1), (2, .inl 0), (3, .inl (w32 (l3 + 1)))]) [2, 3, 1, 0] rfl (ih _ _ _ _ h hI hX))))))) (fun h => (am_c_iconst hG (pc := 54) d130_54 (by decide) (x_goto (tgt := 59) hG (pc := 55) d130_55 rfl (x_istore_n (lv' := [(2, .inl 1), (0, .inr (.inr (9, l0))), (1, .inl l1), (3, .inl l3)]) hG (pc := 59) d130_59 (ml130 _ (by decide)) rfl (x_iinc (lv' := [(3, .inl (w32 (l3 + 1))), (2, .inl 1), (0, .inr (.inr (9, l0))), (1, .inl l1)]) hG (pc := 60) d130_60 rfl (ml130 _ (by decide)) rfl (x_goto (tgt := 4) hG (pc := 63) d130_63 rfl (am_lvw (lv2 := [(0, .inr (.inr (9, l0))), (1, .inl l1), (2, .inl 1), (3, .inl (w32 (l3 + 1)))]) [2, 3, 1, 0] rfl (ih _ _ _ _ h hI hX))))))))))))))))))))))))))))))))))))))))))))))
def fn130 (o : Nat) (a : Int) (μ : am_M) : Option (Int × am_M) := (am_op (L130_4 o a am_fuel 1 a μ) (fun s => am_lp s (fun q1 => some q1) (fun t1 => (if t1.1 = 0 ∨ t1.1 = 1 then some (t1.1, t1.2.2) else none))))
def sp130 : am_F := fun vs μ => am_aR 9 vs fun o vs => am_aI vs fun a vs => am_a0 vs (fn130 o a μ)
theorem e130 (o : Nat) (a : Int) (μ : am_M) : sp130 [.inr (.inr (9, o)), .inl a] μ = fn130 o a μ := am_aR_c.trans (am_aI_c.trans am_a0_c)
theorem sd130 : am_Sd 130 sp130 := by
  refine am_Sd_of (by decide) (fun vs μ μ' x h hv hM => ?_)
  obtain ⟨o, vs0, rfl, h0⟩ := am_aR_s h
  obtain ⟨a, vs1, rfl, h1⟩ := am_aI_s h0
  obtain ⟨rfl, hz⟩ := am_a0_s h1
  refine ⟨Nat.le_of_ble_eq_true rfl, fun X C hG hr => ?_⟩
  have h := hz
  unfold fn130 at h
  exact (show am_W X C 130 _ 0 0 0 [(0, .inr (.inr (9, o))), (1, .inl a)] [] μ from (am_c_iconst hG (pc := 0) d130_0 (by decide) (x_istore_n (lv' := [(2, .inl 1), (0, .inr (.inr (9, o))), (1, .inl a)]) hG (pc := 1) d130_1 (ml130 _ (by decide)) rfl (am_c_iload_n hG (pc := 2) d130_2 rfl (x_istore_n (lv' := [(3, .inl a), (2, .inl 1), (0, .inr (.inr (9, o))), (1, .inl a)]) hG (pc := 3) d130_3 (ml130 _ (by decide)) rfl (x_lp h (fun r h1 h2 => (am_lvw (lv2 := [(0, .inr (.inr (9, o))), (1, .inl a), (2, .inl 1), (3, .inl a)]) [2, 3, 1, 0] rfl (w130_4 hG hr _ _ _ _ _ _ _ h1 (fun q1 e => am_q1 e h2 (fun h => am_q0 h)) (fun t1 e => am_q2 e h2 (fun h => (am_c_iload_n hG (pc := 66) d130_66 rfl (xq_zret hG (by decide) hr (pc := 67) d130_67 mr130 h (fun h => (am_q0 h)))))))))))))))
/-! ChartPress$Layout.findStride()V -/
theorem D131 (k : Nat) {pc : Nat} {i : Instr} (h : tbi131[k]? = some (pc, i)) (hs : am_isw i = false) {n : Nat} (hn : am_il i = n) : decode (am_mc 131) pc = .ok (i, n) := am_d2 (by decide) (by decide) rfl h hs hn
theorem d131_0 : decode (am_mc 131) 0 = .ok (.aload_n 0, 1) := D131 0 rfl rfl rfl
theorem d131_1 : decode (am_mc 131) 1 = .ok (.iconst 1, 1) := D131 1 rfl rfl rfl
theorem d131_2 : decode (am_mc 131) 2 = .ok (.putfield 85, 3) := D131 2 rfl rfl rfl
theorem d131_5 : decode (am_mc 131) 5 = .ok (.aload_n 0, 1) := D131 3 rfl rfl rfl
theorem d131_6 : decode (am_mc 131) 6 = .ok (.getfield 85, 3) := D131 4 rfl rfl rfl
theorem d131_9 : decode (am_mc 131) 9 = .ok (.aload_n 0, 1) := D131 5 rfl rfl rfl
theorem d131_10 : decode (am_mc 131) 10 = .ok (.getfield 24, 3) := D131 6 rfl rfl rfl
theorem d131_13 : decode (am_mc 131) 13 = .ok (.if_icmp .ge 27, 3) := D131 7 rfl rfl rfl
theorem d131_16 : decode (am_mc 131) 16 = .ok (.aload_n 0, 1) := D131 8 rfl rfl rfl
theorem d131_17 : decode (am_mc 131) 17 = .ok (.aload_n 0, 1) := D131 9 rfl rfl rfl
theorem d131_18 : decode (am_mc 131) 18 = .ok (.getfield 85, 3) := D131 10 rfl rfl rfl
theorem d131_21 : decode (am_mc 131) 21 = .ok (.invokevirtual 88, 3) := D131 11 rfl rfl rfl
theorem d131_24 : decode (am_mc 131) 24 = .ok (.ifCond .ne 16, 3) := D131 12 rfl rfl rfl
theorem d131_27 : decode (am_mc 131) 27 = .ok (.aload_n 0, 1) := D131 13 rfl rfl rfl
theorem d131_28 : decode (am_mc 131) 28 = .ok (.dup, 1) := D131 14 rfl rfl rfl
theorem d131_29 : decode (am_mc 131) 29 = .ok (.getfield 85, 3) := D131 15 rfl rfl rfl
theorem d131_32 : decode (am_mc 131) 32 = .ok (.iconst 1, 1) := D131 16 rfl rfl rfl
theorem d131_33 : decode (am_mc 131) 33 = .ok (.iadd, 1) := D131 17 rfl rfl rfl
theorem d131_34 : decode (am_mc 131) 34 = .ok (.putfield 85, 3) := D131 18 rfl rfl rfl
theorem d131_37 : decode (am_mc 131) 37 = .ok (.goto (-32), 3) := D131 19 rfl rfl rfl
theorem d131_40 : decode (am_mc 131) 40 = .ok (.return_, 1) := D131 20 rfl rfl rfl
theorem ml131 : ∀ n, n < 1 → n < am_ml 131 := fun _ h => h
theorem mo131 : am_mo 131 = 9 := by decide +kernel
theorem rk131 : am_rk 131 = 0 := by decide +kernel
theorem rg131 : am_rcg 131 = 10 := by decide +kernel
theorem f9_85 : tb_f 9 85 = some (9, 5, 0, 0) := by decide +kernel
theorem m9_88 : tb_m 9 88 = some (130, 2, 1, 0) := by decide +kernel
theorem dp131_130 : am_md 130 + 1 ≤ am_md 131 ∧ 8 + (am_ml 130 + 11) + am_lr 130 ≤ am_lr 131 := by decide +kernel
def L131_5 (l0 : Nat) : Nat → am_M → Option ((Int × am_M) ⊕ (am_M))
  | 0, _ => none
  | n + 1, μ => (if μ l0 5 < μ l0 4 then (am_op (fn130 l0 (μ l0 5) μ) (fun z1 => (if z1.1 = 0 then (L131_5 l0 n  (am_up z1.2 l0 5 (w32 ((z1.2 l0 5) + 1)))) else (some (.inr (z1.2)))))) else (some (.inr (μ))))
theorem w131_5 {X : am_K} {C : am_C} {Q : State → Prop} (hG : am_G X C 131 0 0 (0, fun _ => 0)) (hr : match X with | (_, _, _, _, _, _, _, _, meth, _) => meth.sig.returnType = am_mr 131 ∧ meth.locks = false) (l0 : Nat) : ∀ (n : Nat)  (μ : am_M) (r : (Int × am_M) ⊕ (am_M)), L131_5 l0 n  μ = some r → (∀ q, r = .inl q → Q = am_E X C 131 q.1 q.2) → (∀ t, r = .inr t → am_W X C 131 Q 0 0 40 [] [] t) → am_W X C 131 Q 0 0 5 [(0, .inr (.inr (9, l0)))] [] μ := by
  intro n
  induction n with
  | zero => intro  μ r h; cases h
  | succ n ih =>
    intro  μ r h hI hX
    unfold L131_5 at h
    exact (am_c_aload_n hG (pc := 5) d131_5 rfl (x_get_n (v := .inl (μ l0 5)) hG (pc := 6) d131_6 mo131 f9_85 rfl (am_c_aload_n hG (pc := 9) d131_9 rfl (x_get_n (v := .inl (μ l0 4)) hG (pc := 10) d131_10 mo131 f9_24 rfl (x_icmp_ge (tgt := 40) hG (pc := 13) d131_13 rfl h (fun h => (am_lvw (lv2 := []) [] rfl (hX (μ) (Option.some.inj h).symm))) (fun h => (am_c_aload_n hG (pc := 16) d131_16 rfl (am_c_aload_n hG (pc := 17) d131_17 rfl (x_get_n (v := .inl (μ l0 5)) hG (pc := 18) d131_18 mo131 f9_85 rfl (x_virtual_i (t := 9) (o := l0) (as2 := [.inl (μ l0 5)]) (rest := []) hG (pc := 21) d131_21 mo131 m9_88 (by decide) dp131_130 rfl rfl (Nat.le_of_ble_eq_true rfl) (Nat.le_of_ble_eq_true rfl) rg130 sd130 (e130 _ _ _) h (fun z1 h => (x_if_ne (tgt := 40) hG (pc := 24) d131_24 rfl h (fun h => (am_lvw (lv2 := []) [] rfl (hX (z1.2) (Option.some.inj h).symm))) (fun h => (am_c_aload_n hG (pc := 27) d131_27 rfl (am_c_dup hG (pc := 28) d131_28 rfl (x_get_n (v := .inl (z1.2 l0 5)) hG (pc := 29) d131_29 mo131 f9_85 rfl (am_c_iconst hG (pc := 32) d131_32 (by decide) (am_c_iadd hG (pc := 33) d131_33 (x_put_i hG (pc := 34) d131_34 mo131 f9_85 (by decide) (x_goto (tgt := 5) hG (pc := 37) d131_37 rfl (am_lvw (lv2 := [(0, .inr (.inr (9, l0)))]) [0] rfl (ih  _ _ h hI hX))))))))))))))))))))))
def fn131 (o : Nat) (μ : am_M) : Option (Int × am_M) := (am_op (L131_5 o am_fuel  (am_up μ o 5 1)) (fun s => am_lp s (fun q1 => some q1) (fun t1 => some (0, t1))))
def sp131 : am_F := fun vs μ => am_aR 9 vs fun o vs => am_a0 vs (fn131 o μ)
theorem e131 (o : Nat) (μ : am_M) : sp131 [.inr (.inr (9, o))] μ = fn131 o μ := am_aR_c.trans am_a0_c
theorem sd131 : am_Sd 131 sp131 := by
  refine am_Sd_of (by decide) (fun vs μ μ' x h hv hM => ?_)
  obtain ⟨o, vs0, rfl, h0⟩ := am_aR_s h
  obtain ⟨rfl, hz⟩ := am_a0_s h0
  refine ⟨Nat.le_of_ble_eq_true rfl, fun X C hG hr => ?_⟩
  have h := hz
  unfold fn131 at h
  exact (show am_W X C 131 _ 0 0 0 [(0, .inr (.inr (9, o)))] [] μ from (am_c_aload_n hG (pc := 0) d131_0 rfl (am_c_iconst hG (pc := 1) d131_1 (by decide) (x_put_i hG (pc := 2) d131_2 mo131 f9_85 (by decide) (x_lp h (fun r h1 h2 => (am_lvw (lv2 := [(0, .inr (.inr (9, o)))]) [0] rfl (w131_5 hG hr _ _  _ _ h1 (fun q1 e => am_q1 e h2 (fun h => am_q0 h)) (fun t1 e => am_q2 e h2 (fun h => (xq_vret hG (by decide) hr (pc := 40) d131_40 rk131 (am_q0 h))))))))))))
/-! ChartPress$Layout.arrange(LChartPress$Groups;LChartPress$Scale;LChartPress$Sheet;LChartPress$Letters;)Z -/
theorem D132 (k : Nat) {pc : Nat} {i : Instr} (h : tbi132[k]? = some (pc, i)) (hs : am_isw i = false) {n : Nat} (hn : am_il i = n) : decode (am_mc 132) pc = .ok (i, n) := am_d2 (by decide) (by decide) rfl h hs hn
theorem d132_0 : decode (am_mc 132) 0 = .ok (.aload_n 0, 1) := D132 0 rfl rfl rfl
theorem d132_1 : decode (am_mc 132) 1 = .ok (.aload_n 1, 1) := D132 1 rfl rfl rfl
theorem d132_2 : decode (am_mc 132) 2 = .ok (.invokevirtual 18, 3) := D132 2 rfl rfl rfl
theorem d132_5 : decode (am_mc 132) 5 = .ok (.putfield 24, 3) := D132 3 rfl rfl rfl
theorem d132_8 : decode (am_mc 132) 8 = .ok (.aload_n 0, 1) := D132 4 rfl rfl rfl
theorem d132_9 : decode (am_mc 132) 9 = .ok (.aload_n 2, 1) := D132 5 rfl rfl rfl
theorem d132_10 : decode (am_mc 132) 10 = .ok (.aload 4, 2) := D132 6 rfl rfl rfl
theorem d132_12 : decode (am_mc 132) 12 = .ok (.invokestatic 27, 3) := D132 7 rfl rfl rfl
theorem d132_15 : decode (am_mc 132) 15 = .ok (.iconst 3, 1) := D132 8 rfl rfl rfl
theorem d132_16 : decode (am_mc 132) 16 = .ok (.iadd, 1) := D132 9 rfl rfl rfl
theorem d132_17 : decode (am_mc 132) 17 = .ok (.putfield 31, 3) := D132 10 rfl rfl rfl
theorem d132_20 : decode (am_mc 132) 20 = .ok (.aload_n 0, 1) := D132 11 rfl rfl rfl
theorem d132_21 : decode (am_mc 132) 21 = .ok (.aload_n 3, 1) := D132 12 rfl rfl rfl
theorem d132_22 : decode (am_mc 132) 22 = .ok (.invokevirtual 34, 3) := D132 13 rfl rfl rfl
theorem d132_25 : decode (am_mc 132) 25 = .ok (.aload_n 0, 1) := D132 14 rfl rfl rfl
theorem d132_26 : decode (am_mc 132) 26 = .ok (.getfield 31, 3) := D132 15 rfl rfl rfl
theorem d132_29 : decode (am_mc 132) 29 = .ok (.isub, 1) := D132 16 rfl rfl rfl
theorem d132_30 : decode (am_mc 132) 30 = .ok (.iconst 1, 1) := D132 17 rfl rfl rfl
theorem d132_31 : decode (am_mc 132) 31 = .ok (.iadd, 1) := D132 18 rfl rfl rfl
theorem d132_32 : decode (am_mc 132) 32 = .ok (.putfield 39, 3) := D132 19 rfl rfl rfl
theorem d132_35 : decode (am_mc 132) 35 = .ok (.aload_n 0, 1) := D132 20 rfl rfl rfl
theorem d132_36 : decode (am_mc 132) 36 = .ok (.getfield 24, 3) := D132 21 rfl rfl rfl
theorem d132_39 : decode (am_mc 132) 39 = .ok (.iconst 1, 1) := D132 22 rfl rfl rfl
theorem d132_40 : decode (am_mc 132) 40 = .ok (.if_icmp .lt 16, 3) := D132 23 rfl rfl rfl
theorem d132_43 : decode (am_mc 132) 43 = .ok (.aload_n 0, 1) := D132 24 rfl rfl rfl
theorem d132_44 : decode (am_mc 132) 44 = .ok (.getfield 39, 3) := D132 25 rfl rfl rfl
theorem d132_47 : decode (am_mc 132) 47 = .ok (.iconst 2, 1) := D132 26 rfl rfl rfl
theorem d132_48 : decode (am_mc 132) 48 = .ok (.aload_n 0, 1) := D132 27 rfl rfl rfl
theorem d132_49 : decode (am_mc 132) 49 = .ok (.getfield 24, 3) := D132 28 rfl rfl rfl
theorem d132_52 : decode (am_mc 132) 52 = .ok (.imul, 1) := D132 29 rfl rfl rfl
theorem d132_53 : decode (am_mc 132) 53 = .ok (.if_icmp .ge 5, 3) := D132 30 rfl rfl rfl
theorem d132_56 : decode (am_mc 132) 56 = .ok (.iconst 0, 1) := D132 31 rfl rfl rfl
theorem d132_57 : decode (am_mc 132) 57 = .ok (.ireturn, 1) := D132 32 rfl rfl rfl
theorem d132_58 : decode (am_mc 132) 58 = .ok (.iconst 1, 1) := D132 33 rfl rfl rfl
theorem d132_59 : decode (am_mc 132) 59 = .ok (.istore 5, 2) := D132 34 rfl rfl rfl
theorem d132_61 : decode (am_mc 132) 61 = .ok (.iconst 0, 1) := D132 35 rfl rfl rfl
theorem d132_62 : decode (am_mc 132) 62 = .ok (.istore 6, 2) := D132 36 rfl rfl rfl
theorem d132_64 : decode (am_mc 132) 64 = .ok (.iload 6, 2) := D132 37 rfl rfl rfl
theorem d132_66 : decode (am_mc 132) 66 = .ok (.aload_n 0, 1) := D132 38 rfl rfl rfl
theorem d132_67 : decode (am_mc 132) 67 = .ok (.getfield 24, 3) := D132 39 rfl rfl rfl
theorem d132_70 : decode (am_mc 132) 70 = .ok (.if_icmp .ge 37, 3) := D132 40 rfl rfl rfl
theorem d132_73 : decode (am_mc 132) 73 = .ok (.iload 5, 2) := D132 41 rfl rfl rfl
theorem d132_75 : decode (am_mc 132) 75 = .ok (.ifCond .eq 23, 3) := D132 42 rfl rfl rfl
theorem d132_78 : decode (am_mc 132) 78 = .ok (.aload_n 1, 1) := D132 43 rfl rfl rfl
theorem d132_79 : decode (am_mc 132) 79 = .ok (.iload 6, 2) := D132 44 rfl rfl rfl
theorem d132_81 : decode (am_mc 132) 81 = .ok (.invokevirtual 42, 3) := D132 45 rfl rfl rfl
theorem d132_84 : decode (am_mc 132) 84 = .ok (.invokevirtual 46, 3) := D132 46 rfl rfl rfl
theorem d132_87 : decode (am_mc 132) 87 = .ok (.aload_n 3, 1) := D132 47 rfl rfl rfl
theorem d132_88 : decode (am_mc 132) 88 = .ok (.invokevirtual 51, 3) := D132 48 rfl rfl rfl
theorem d132_91 : decode (am_mc 132) 91 = .ok (.if_icmp .gt 7, 3) := D132 49 rfl rfl rfl
theorem d132_94 : decode (am_mc 132) 94 = .ok (.iconst 1, 1) := D132 50 rfl rfl rfl
theorem d132_95 : decode (am_mc 132) 95 = .ok (.goto 4, 3) := D132 51 rfl rfl rfl
theorem d132_98 : decode (am_mc 132) 98 = .ok (.iconst 0, 1) := D132 52 rfl rfl rfl
theorem d132_99 : decode (am_mc 132) 99 = .ok (.istore 5, 2) := D132 53 rfl rfl rfl
theorem d132_101 : decode (am_mc 132) 101 = .ok (.iinc 6 1, 3) := D132 54 rfl rfl rfl
theorem d132_104 : decode (am_mc 132) 104 = .ok (.goto (-40), 3) := D132 55 rfl rfl rfl
theorem d132_107 : decode (am_mc 132) 107 = .ok (.iload 5, 2) := D132 56 rfl rfl rfl
theorem d132_109 : decode (am_mc 132) 109 = .ok (.ifCond .eq 16, 3) := D132 57 rfl rfl rfl
theorem d132_112 : decode (am_mc 132) 112 = .ok (.aload_n 0, 1) := D132 58 rfl rfl rfl
theorem d132_113 : decode (am_mc 132) 113 = .ok (.aload_n 1, 1) := D132 59 rfl rfl rfl
theorem d132_114 : decode (am_mc 132) 114 = .ok (.aload_n 3, 1) := D132 60 rfl rfl rfl
theorem d132_115 : decode (am_mc 132) 115 = .ok (.invokevirtual 51, 3) := D132 61 rfl rfl rfl
theorem d132_118 : decode (am_mc 132) 118 = .ok (.invokevirtual 52, 3) := D132 62 rfl rfl rfl
theorem d132_121 : decode (am_mc 132) 121 = .ok (.aload_n 0, 1) := D132 63 rfl rfl rfl
theorem d132_122 : decode (am_mc 132) 122 = .ok (.invokevirtual 56, 3) := D132 64 rfl rfl rfl
theorem d132_125 : decode (am_mc 132) 125 = .ok (.iload 5, 2) := D132 65 rfl rfl rfl
theorem d132_127 : decode (am_mc 132) 127 = .ok (.ireturn, 1) := D132 66 rfl rfl rfl
theorem ml132 : ∀ n, n < 7 → n < am_ml 132 := fun _ h => h
theorem mo132 : am_mo 132 = 9 := by decide +kernel
theorem mr132 : am_mr 132 = some .boolean := by decide +kernel
theorem rg132 : am_rcg 132 = 10 := by decide +kernel
theorem m9_18 : tb_m 9 18 = some (101, 1, 1, 0) := by decide +kernel
theorem m9_27 : tb_m 9 27 = some (122, 2, 1, 0) := by decide +kernel
theorem m9_34 : tb_m 9 34 = some (123, 1, 1, 0) := by decide +kernel
theorem m9_51 : tb_m 9 51 = some (125, 1, 1, 0) := by decide +kernel
theorem m9_52 : tb_m 9 52 = some (129, 3, 0, 0) := by decide +kernel
theorem m9_56 : tb_m 9 56 = some (131, 1, 0, 0) := by decide +kernel
theorem dp132_101 : am_md 101 + 1 ≤ am_md 132 ∧ 8 + (am_ml 101 + 11) + am_lr 101 ≤ am_lr 132 := by decide +kernel
theorem dp132_120 : am_md 120 + 1 ≤ am_md 132 ∧ 8 + (am_ml 120 + 11) + am_lr 120 ≤ am_lr 132 := by decide +kernel
theorem dp132_122 : am_md 122 + 1 ≤ am_md 132 ∧ 8 + (am_ml 122 + 11) + am_lr 122 ≤ am_lr 132 := by decide +kernel
theorem dp132_123 : am_md 123 + 1 ≤ am_md 132 ∧ 8 + (am_ml 123 + 11) + am_lr 123 ≤ am_lr 132 := by decide +kernel
theorem dp132_124 : am_md 124 + 1 ≤ am_md 132 ∧ 8 + (am_ml 124 + 11) + am_lr 124 ≤ am_lr 132 := by decide +kernel
theorem dp132_125 : am_md 125 + 1 ≤ am_md 132 ∧ 8 + (am_ml 125 + 11) + am_lr 125 ≤ am_lr 132 := by decide +kernel
theorem dp132_129 : am_md 129 + 1 ≤ am_md 132 ∧ 8 + (am_ml 129 + 11) + am_lr 129 ≤ am_lr 132 := by decide +kernel
theorem dp132_131 : am_md 131 + 1 ≤ am_md 132 ∧ 8 + (am_ml 131 + 11) + am_lr 131 ≤ am_lr 132 := by decide +kernel
def L132_64 (l0 : Nat) (l1 : Nat) (l3 : Nat) : Nat → Int → Int → am_M → Option ((Int × am_M) ⊕ (Int × Int × am_M))
  | 0, _, _, _ => none
  | n + 1, l5, l6, μ => (if l6 < μ l0 4 then (if l5 = 0 then (L132_64 l0 l1 l3 n 0 (w32 (l6 + 1)) μ) else (am_op (fn124 l1 l6 μ) (fun z4 => (am_op (fn120 z4.1.toNat z4.2) (fun z5 => (am_op (fn125 l3 z5.2) (fun z6 => (if z6.1 < z5.1 then (L132_64 l0 l1 l3 n 0 (w32 (l6 + 1)) z6.2) else (L132_64 l0 l1 l3 n 1 (w32 (l6 + 1)) z6.2))))))))) else (some (.inr (l5, l6, μ))))
theorem w132_64 {X : am_K} {C : am_C} {Q : State → Prop} (hG : am_G X C 132 0 0 (0, fun _ => 0)) (hr : match X with | (_, _, _, _, _, _, _, _, meth, _) => meth.sig.returnType = am_mr 132 ∧ meth.locks = false) (l0 : Nat) (l1 : Nat) (l3 : Nat) : ∀ (n : Nat) (l5 : Int) (l6 : Int) (μ : am_M) (r : (Int × am_M) ⊕ (Int × Int × am_M)), L132_64 l0 l1 l3 n l5 l6 μ = some r → (∀ q, r = .inl q → Q = am_E X C 132 q.1 q.2) → (∀ t, r = .inr t → am_W X C 132 Q 0 0 107 [(0, .inr (.inr (9, l0))), (1, .inr (.inr (6, l1))), (3, .inr (.inr (10, l3))), (5, .inl t.1)] [] t.2.2) → am_W X C 132 Q 0 0 64 [(0, .inr (.inr (9, l0))), (1, .inr (.inr (6, l1))), (3, .inr (.inr (10, l3))), (5, .inl l5), (6, .inl l6)] [] μ := by
  intro n
  induction n with
  | zero => intro l5 l6 μ r h; cases h
  | succ n ih =>
    intro l5 l6 μ r h hI hX
    unfold L132_64 at h
    exact (am_c_iload hG (pc := 64) d132_64 rfl (am_c_aload_n hG (pc := 66) d132_66 rfl (x_get_n (v := .inl (μ l0 4)) hG (pc := 67) d132_67 mo132 f9_24 rfl (x_icmp_ge (tgt := 107) hG (pc := 70) d132_70 rfl h (fun h => (am_lvw (lv2 := [(0, .inr (.inr (9, l0))), (1, .inr (.inr (6, l1))), (3, .inr (.inr (10, l3))), (5, .inl l5)]) [0, 1, 2, 3] rfl (hX (l5, l6, μ) (Option.some.inj h).symm))) (fun h => (am_c_iload hG (pc := 73) d132_73 rfl (x_if_eq (tgt := 98) hG (pc := 75) d132_75 rfl h (fun h => (am_c_iconst hG (pc := 98) d132_98 (by decide) (x_istore (lv' := [(5, .inl 0), (0, .inr (.inr (9, l0))), (1, .inr (.inr (6, l1))), (3, .inr (.inr (10, l3))), (6, .inl l6)]) hG (pc := 99) d132_99 (ml132 _ (by decide)) rfl (x_iinc (lv' := [(6, .inl (w32 (l6 + 1))), (5, .inl 0), (0, .inr (.inr (9, l0))), (1, .inr (.inr (6, l1))), (3, .inr (.inr (10, l3)))]) hG (pc := 101) d132_101 rfl (ml132 _ (by decide)) rfl (x_goto (tgt := 64) hG (pc := 104) d132_104 rfl (am_lvw (lv2 := [(0, .inr (.inr (9, l0))), (1, .inr (.inr (6, l1))), (3, .inr (.inr (10, l3))), (5, .inl 0), (6, .inl (w32 (l6 + 1)))]) [2, 3, 4, 1, 0] rfl (ih _ _ _ _ h hI hX))))))) (fun h => (am_c_aload_n hG (pc := 78) d132_78 rfl (am_c_iload hG (pc := 79) d132_79 rfl (x_virtual_r (t := 6) (o := l1) (as2 := [.inl l6]) (rest := []) hG (pc := 81) d132_81 mo132 m9_42 (by decide) dp132_124 rfl rfl (Nat.le_of_ble_eq_true rfl) (Nat.le_of_ble_eq_true rfl) rg124 sd124 (e124 _ _ _) h (fun z4 h => (x_virtual_i (t := 3) (o := z4.1.toNat) (as2 := []) (rest := []) hG (pc := 84) d132_84 mo132 m9_46 (by decide) dp132_120 rfl rfl (Nat.le_of_ble_eq_true rfl) (Nat.le_of_ble_eq_true rfl) rg120 sd120 (e120 _ _) h (fun z5 h => (am_c_aload_n hG (pc := 87) d132_87 rfl (x_virtual_i (t := 10) (o := l3) (as2 := []) (rest := [.inl z5.1]) hG (pc := 88) d132_88 mo132 m9_51 (by decide) dp132_125 rfl rfl (Nat.le_of_ble_eq_true rfl) (Nat.le_of_ble_eq_true rfl) rg125 sd125 (e125 _ _) h (fun z6 h => (x_icmp_gt (tgt := 98) hG (pc := 91) d132_91 rfl h (fun h => (am_c_iconst hG (pc := 98) d132_98 (by decide) (x_istore (lv' := [(5, .inl 0), (0, .inr (.inr (9, l0))), (1, .inr (.inr (6, l1))), (3, .inr (.inr (10, l3))), (6, .inl l6)]) hG (pc := 99) d132_99 (ml132 _ (by decide)) rfl (x_iinc (lv' := [(6, .inl (w32 (l6 + 1))), (5, .inl 0), (0, .inr (.inr (9, l0))), (1, .inr (.inr (6, l1))), (3, .inr (.inr (10, l3)))]) hG (pc := 101) d132_101 rfl (ml132 _ (by decide)) rfl (x_goto (tgt := 64) hG (pc := 104) d132_104 rfl (am_lvw (lv2 := [(0, .inr (.inr (9, l0))), (1, .inr (.inr (6, l1))), (3, .inr (.inr (10, l3))), (5, .inl 0), (6, .inl (w32 (l6 + 1)))]) [2, 3, 4, 1, 0] rfl (ih _ _ _ _ h hI hX))))))) (fun h => (am_c_iconst hG (pc := 94) d132_94 (by decide) (x_goto (tgt := 99) hG (pc := 95) d132_95 rfl (x_istore (lv' := [(5, .inl 1), (0, .inr (.inr (9, l0))), (1, .inr (.inr (6, l1))), (3, .inr (.inr (10, l3))), (6, .inl l6)]) hG (pc := 99) d132_99 (ml132 _ (by decide)) rfl (x_iinc (lv' := [(6, .inl (w32 (l6 + 1))), (5, .inl 1), (0, .inr (.inr (9, l0))), (1, .inr (.inr (6, l1))), (3, .inr (.inr (10, l3)))]) hG (pc := 101) d132_101 rfl (ml132 _ (by decide)) rfl (x_goto (tgt := 64) hG (pc := 104) d132_104 rfl (am_lvw (lv2 := [(0, .inr (.inr (9, l0))), (1, .inr (.inr (6, l1))), (3, .inr (.inr (10, l3))), (5, .inl 1), (6, .inl (w32 (l6 + 1)))]) [2, 3, 4, 1, 0] rfl (ih _ _ _ _ h hI hX))))))))))))))))))))))))))
def fn132 (o : Nat) (a : Nat) (b : Nat) (c : Nat) (d : Nat) (μ : am_M) : Option (Int × am_M) := (am_op (fn101 a μ) (fun z1 => (am_op (fn122 b d (am_up z1.2 o 4 z1.1)) (fun z2 => (am_op (fn123 c (am_up z2.2 o 2 (w32 (z2.1 + 3)))) (fun z3 => (if (am_up z3.2 o 3 (w32 ((w32 (z3.1 - (z3.2 o 2))) + 1))) o 4 < 1 then some (0, am_up z3.2 o 3 (w32 ((w32 (z3.1 - (z3.2 o 2))) + 1))) else (if (am_up z3.2 o 3 (w32 ((w32 (z3.1 - (z3.2 o 2))) + 1))) o 3 < w32 (2 * ((am_up z3.2 o 3 (w32 ((w32 (z3.1 - (z3.2 o 2))) + 1))) o 4)) then some (0, am_up z3.2 o 3 (w32 ((w32 (z3.1 - (z3.2 o 2))) + 1))) else (am_op (L132_64 o a c am_fuel 1 0 (am_up z3.2 o 3 (w32 ((w32 (z3.1 - (z3.2 o 2))) + 1)))) (fun s => am_lp s (fun q1 => some q1) (fun t1 => (if t1.1 = 0 then (if t1.1 = 0 ∨ t1.1 = 1 then some (t1.1, t1.2.2) else none) else (am_op (fn125 c t1.2.2) (fun z7 => (am_op (fn129 o a z7.1 z7.2) (fun z8 => (am_op (fn131 o z8.2) (fun z9 => (if t1.1 = 0 ∨ t1.1 = 1 then some (t1.1, z9.2) else none)))))))))))))))))))
def sp132 : am_F := fun vs μ => am_aR 9 vs fun o vs => am_aR 6 vs fun a vs => am_aR 8 vs fun b vs => am_aR 10 vs fun c vs => am_aR 3 vs fun d vs => am_a0 vs (fn132 o a b c d μ)
theorem e132 (o : Nat) (a : Nat) (b : Nat) (c : Nat) (d : Nat) (μ : am_M) : sp132 [.inr (.inr (9, o)), .inr (.inr (6, a)), .inr (.inr (8, b)), .inr (.inr (10, c)), .inr (.inr (3, d))] μ = fn132 o a b c d μ := am_aR_c.trans (am_aR_c.trans (am_aR_c.trans (am_aR_c.trans (am_aR_c.trans am_a0_c))))
theorem sd132 : am_Sd 132 sp132 := by
  refine am_Sd_of (by decide) (fun vs μ μ' x h hv hM => ?_)
  obtain ⟨o, vs0, rfl, h0⟩ := am_aR_s h
  obtain ⟨a, vs1, rfl, h1⟩ := am_aR_s h0
  obtain ⟨b, vs2, rfl, h2⟩ := am_aR_s h1
  obtain ⟨c, vs3, rfl, h3⟩ := am_aR_s h2
  obtain ⟨d, vs4, rfl, h4⟩ := am_aR_s h3
  obtain ⟨rfl, hz⟩ := am_a0_s h4
  refine ⟨Nat.le_of_ble_eq_true rfl, fun X C hG hr => ?_⟩
  have h := hz
  unfold fn132 at h
  exact (show am_W X C 132 _ 0 0 0 [(0, .inr (.inr (9, o))), (1, .inr (.inr (6, a))), (2, .inr (.inr (8, b))), (3, .inr (.inr (10, c))), (4, .inr (.inr (3, d)))] [] μ from (am_c_aload_n hG (pc := 0) d132_0 rfl (am_c_aload_n hG (pc := 1) d132_1 rfl (x_virtual_i (t := 6) (o := a) (as2 := []) (rest := [.inr (.inr (9, o))]) hG (pc := 2) d132_2 mo132 m9_18 (by decide) dp132_101 rfl rfl (Nat.le_of_ble_eq_true rfl) (Nat.le_of_ble_eq_true rfl) rg101 sd101 (e101 _ _) h (fun z1 h => (x_put_i hG (pc := 5) d132_5 mo132 f9_24 (by decide) (am_c_aload_n hG (pc := 8) d132_8 rfl (am_c_aload_n hG (pc := 9) d132_9 rfl (am_c_aload hG (pc := 10) d132_10 rfl (x_static_i (as := [.inr (.inr (8, b)), .inr (.inr (3, d))]) (rest := [.inr (.inr (9, o))]) hG (pc := 12) d132_12 mo132 m9_27 (by decide) dp132_122 rfl rfl (Nat.le_of_ble_eq_true rfl) (Nat.le_of_ble_eq_true rfl) rg122 sd122 (e122 _ _ _) h (fun z2 h => (am_c_iconst hG (pc := 15) d132_15 (by decide) (am_c_iadd hG (pc := 16) d132_16 (x_put_i hG (pc := 17) d132_17 mo132 f9_31 (by decide) (am_c_aload_n hG (pc := 20) d132_20 rfl (am_c_aload_n hG (pc := 21) d132_21 rfl (x_virtual_i (t := 10) (o := c) (as2 := []) (rest := [.inr (.inr (9, o))]) hG (pc := 22) d132_22 mo132 m9_34 (by decide) dp132_123 rfl rfl (Nat.le_of_ble_eq_true rfl) (Nat.le_of_ble_eq_true rfl) rg123 sd123 (e123 _ _) h (fun z3 h => (am_c_aload_n hG (pc := 25) d132_25 rfl (x_get_n (v := .inl (z3.2 o 2)) hG (pc := 26) d132_26 mo132 f9_31 rfl (am_c_isub hG (pc := 29) d132_29 (am_c_iconst hG (pc := 30) d132_30 (by decide) (am_c_iadd hG (pc := 31) d132_31 (x_put_i hG (pc := 32) d132_32 mo132 f9_39 (by decide) (am_c_aload_n hG (pc := 35) d132_35 rfl (x_get_n (v := .inl ((am_up z3.2 o 3 (w32 ((w32 (z3.1 - (z3.2 o 2))) + 1))) o 4)) hG (pc := 36) d132_36 mo132 f9_24 rfl (am_c_iconst hG (pc := 39) d132_39 (by decide) (x_icmp_lt (tgt := 56) hG (pc := 40) d132_40 rfl h (fun h => (am_c_iconst hG (pc := 56) d132_56 (by decide) (xq_zret0 hG (by decide) hr (pc := 57) d132_57 mr132 (am_q0 h)))) (fun h => (am_c_aload_n hG (pc := 43) d132_43 rfl (x_get_n (v := .inl ((am_up z3.2 o 3 (w32 ((w32 (z3.1 - (z3.2 o 2))) + 1))) o 3)) hG (pc := 44) d132_44 mo132 f9_39 rfl (am_c_iconst hG (pc := 47) d132_47 (by decide) (am_c_aload_n hG (pc := 48) d132_48 rfl (x_get_n (v := .inl ((am_up z3.2 o 3 (w32 ((w32 (z3.1 - (z3.2 o 2))) + 1))) o 4)) hG (pc := 49) d132_49 mo132 f9_24 rfl (am_c_imul hG (pc := 52) d132_52 (x_icmp_ge (tgt := 58) hG (pc := 53) d132_53 rfl h (fun h => (am_c_iconst hG (pc := 58) d132_58 (by decide) (x_istore (lv' := [(5, .inl 1), (0, .inr (.inr (9, o))), (1, .inr (.inr (6, a))), (2, .inr (.inr (8, b))), (3, .inr (.inr (10, c))), (4, .inr (.inr (3, d)))]) hG (pc := 59) d132_59 (ml132 _ (by decide)) rfl (am_c_iconst hG (pc := 61) d132_61 (by decide) (x_istore (lv' := [(6, .inl 0), (5, .inl 1), (0, .inr (.inr (9, o))), (1, .inr (.inr (6, a))), (2, .inr (.inr (8, b))), (3, .inr (.inr (10, c))), (4, .inr (.inr (3, d)))]) hG (pc := 62) d132_62 (ml132 _ (by decide)) rfl (x_lp h (fun r h1 h2 => (am_lvw (lv2 := [(0, .inr (.inr (9, o))), (1, .inr (.inr (6, a))), (3, .inr (.inr (10, c))), (5, .inl 1), (6, .inl 0)]) [2, 3, 5, 1, 0] rfl (w132_64 hG hr _ _ _ _ _ _ _ _ h1 (fun q1 e => am_q1 e h2 (fun h => am_q0 h)) (fun t1 e => am_q2 e h2 (fun h => (am_c_iload hG (pc := 107) d132_107 rfl (x_if_eq (tgt := 125) hG (pc := 109) d132_109 rfl h (fun h => (am_c_iload hG (pc := 125) d132_125 rfl (xq_zret hG (by decide) hr (pc := 127) d132_127 mr132 h (fun h => (am_q0 h))))) (fun h => (am_c_aload_n hG (pc := 112) d132_112 rfl (am_c_aload_n hG (pc := 113) d132_113 rfl (am_c_aload_n hG (pc := 114) d132_114 rfl (x_virtual_i (t := 10) (o := c) (as2 := []) (rest := [.inr (.inr (6, a)), .inr (.inr (9, o))]) hG (pc := 115) d132_115 mo132 m9_51 (by decide) dp132_125 rfl rfl (Nat.le_of_ble_eq_true rfl) (Nat.le_of_ble_eq_true rfl) rg125 sd125 (e125 _ _) h (fun z7 h => (x_virtual_v (t := 9) (o := o) (as2 := [.inr (.inr (6, a)), .inl z7.1]) (rest := []) hG (pc := 118) d132_118 mo132 m9_52 (by decide) dp132_129 rfl rfl (Nat.le_of_ble_eq_true rfl) (Nat.le_of_ble_eq_true rfl) rg129 sd129 (e129 _ _ _ _) h (fun z8 h => (am_c_aload_n hG (pc := 121) d132_121 rfl (x_virtual_v (t := 9) (o := o) (as2 := []) (rest := []) hG (pc := 122) d132_122 mo132 m9_56 (by decide) dp132_131 rfl rfl (Nat.le_of_ble_eq_true rfl) (Nat.le_of_ble_eq_true rfl) rg131 sd131 (e131 _ _) h (fun z9 h => (am_c_iload hG (pc := 125) d132_125 rfl (xq_zret hG (by decide) hr (pc := 127) d132_127 mr132 h (fun h => (am_q0 h)))))))))))))))))))))))))))) (fun h => (am_c_iconst hG (pc := 56) d132_56 (by decide) (xq_zret0 hG (by decide) hr (pc := 57) d132_57 mr132 (am_q0 h))))))))))))))))))))))))))))))))))))))))
/-! java/util/Arrays.fill([BB)V -/
theorem D133 (k : Nat) {pc : Nat} {i : Instr} (h : tbi133[k]? = some (pc, i)) (hs : am_isw i = false) {n : Nat} (hn : am_il i = n) : decode (am_mc 133) pc = .ok (i, n) := am_d2 (by decide) (by decide) rfl h hs hn
theorem d133_0 : decode (am_mc 133) 0 = .ok (.iconst 0, 1) := D133 0 rfl rfl rfl
theorem d133_1 : decode (am_mc 133) 1 = .ok (.istore_n 2, 1) := D133 1 rfl rfl rfl
theorem d133_2 : decode (am_mc 133) 2 = .ok (.aload_n 0, 1) := D133 2 rfl rfl rfl
theorem d133_3 : decode (am_mc 133) 3 = .ok (.arraylength, 1) := D133 3 rfl rfl rfl
theorem d133_4 : decode (am_mc 133) 4 = .ok (.istore_n 3, 1) := D133 4 rfl rfl rfl
theorem d133_5 : decode (am_mc 133) 5 = .ok (.iload_n 2, 1) := D133 5 rfl rfl rfl
theorem d133_6 : decode (am_mc 133) 6 = .ok (.iload_n 3, 1) := D133 6 rfl rfl rfl
theorem d133_7 : decode (am_mc 133) 7 = .ok (.if_icmp .ge 13, 3) := D133 7 rfl rfl rfl
theorem d133_10 : decode (am_mc 133) 10 = .ok (.aload_n 0, 1) := D133 8 rfl rfl rfl
theorem d133_11 : decode (am_mc 133) 11 = .ok (.iload_n 2, 1) := D133 9 rfl rfl rfl
theorem d133_12 : decode (am_mc 133) 12 = .ok (.iload_n 1, 1) := D133 10 rfl rfl rfl
theorem d133_13 : decode (am_mc 133) 13 = .ok (.bastore, 1) := D133 11 rfl rfl rfl
theorem d133_14 : decode (am_mc 133) 14 = .ok (.iinc 2 1, 3) := D133 12 rfl rfl rfl
theorem d133_17 : decode (am_mc 133) 17 = .ok (.goto (-12), 3) := D133 13 rfl rfl rfl
theorem d133_20 : decode (am_mc 133) 20 = .ok (.return_, 1) := D133 14 rfl rfl rfl
theorem ml133 : ∀ n, n < 4 → n < am_ml 133 := fun _ h => h
theorem mo133 : am_mo 133 = 14 := by decide +kernel
theorem rk133 : am_rk 133 = 0 := by decide +kernel
theorem rg133 : am_rcg 133 = 0 := by decide +kernel
def L133_5 (l0 : Nat) (l1 : Int) (l3 : Int) : Nat → Int → am_M → Option ((Int × am_M) ⊕ (Int × am_M))
  | 0, _, _ => none
  | n + 1, l2, μ => (if l2 < l3 then (if (0 : Int) ≤ l2 ∧ l2 < ((am_len l0 : Nat) : Int) then (L133_5 l0 l1 l3 n (w32 (l2 + 1)) (am_up μ l0 (l2 : Int).toNat (o_nar .byte l1))) else none) else (some (.inr (l2, μ))))
theorem w133_5 {X : am_K} {C : am_C} {Q : State → Prop} (hG : am_G X C 133 0 0 (0, fun _ => 0)) (hr : match X with | (_, _, _, _, _, _, _, _, meth, _) => meth.sig.returnType = am_mr 133 ∧ meth.locks = false) (l0 : Nat) (l1 : Int) (l3 : Int) : ∀ (n : Nat) (l2 : Int) (μ : am_M) (r : (Int × am_M) ⊕ (Int × am_M)), L133_5 l0 l1 l3 n l2 μ = some r → (∀ q, r = .inl q → Q = am_E X C 133 q.1 q.2) → (∀ t, r = .inr t → am_W X C 133 Q 0 0 20 [] [] t.2) → am_W X C 133 Q 0 0 5 [(0, .inr (.inr (19, l0))), (1, .inl l1), (2, .inl l2), (3, .inl l3)] [] μ := by
  intro n
  induction n with
  | zero => intro l2 μ r h; cases h
  | succ n ih =>
    intro l2 μ r h hI hX
    unfold L133_5 at h
    exact (am_c_iload_n hG (pc := 5) d133_5 rfl (am_c_iload_n hG (pc := 6) d133_6 rfl (x_icmp_ge (tgt := 20) hG (pc := 7) d133_7 rfl h (fun h => (am_lvw (lv2 := []) [] rfl (hX (l2, μ) (Option.some.inj h).symm))) (fun h => (am_c_aload_n hG (pc := 10) d133_10 rfl (am_c_iload_n hG (pc := 11) d133_11 rfl (am_c_iload_n hG (pc := 12) d133_12 rfl (x_bastore hG (pc := 13) d133_13 h (fun h => (x_iinc (lv' := [(2, .inl (w32 (l2 + 1))), (0, .inr (.inr (19, l0))), (1, .inl l1), (3, .inl l3)]) hG (pc := 14) d133_14 rfl (ml133 _ (by decide)) rfl (x_goto (tgt := 5) hG (pc := 17) d133_17 rfl (am_lvw (lv2 := [(0, .inr (.inr (19, l0))), (1, .inl l1), (2, .inl (w32 (l2 + 1))), (3, .inl l3)]) [1, 2, 0, 3] rfl (ih _ _ _ h hI hX)))))))))))))
def fn133 (a : Nat) (b : Int) (μ : am_M) : Option (Int × am_M) := (am_op (L133_5 a b (((am_len a : Nat) : Int)) am_fuel 0 μ) (fun s => am_lp s (fun q1 => some q1) (fun t1 => some (0, t1.2))))
def sp133 : am_F := fun vs μ => am_aR 19 vs fun a vs => am_aI vs fun b vs => am_a0 vs (fn133 a b μ)
theorem e133 (a : Nat) (b : Int) (μ : am_M) : sp133 [.inr (.inr (19, a)), .inl b] μ = fn133 a b μ := am_aR_c.trans (am_aI_c.trans am_a0_c)
theorem sd133 : am_Sd 133 sp133 := by
  refine am_Sd_of (by decide) (fun vs μ μ' x h hv hM => ?_)
  obtain ⟨a, vs0, rfl, h0⟩ := am_aR_s h
  obtain ⟨b, vs1, rfl, h1⟩ := am_aI_s h0
  obtain ⟨rfl, hz⟩ := am_a0_s h1
  refine ⟨Nat.le_of_ble_eq_true rfl, fun X C hG hr => ?_⟩
  have h := hz
  unfold fn133 at h
  exact (show am_W X C 133 _ 0 0 0 [(0, .inr (.inr (19, a))), (1, .inl b)] [] μ from (am_c_iconst hG (pc := 0) d133_0 (by decide) (x_istore_n (lv' := [(2, .inl 0), (0, .inr (.inr (19, a))), (1, .inl b)]) hG (pc := 1) d133_1 (ml133 _ (by decide)) rfl (am_c_aload_n hG (pc := 2) d133_2 rfl (am_c_len hG (pc := 3) d133_3 (by decide) (x_istore_n (lv' := [(3, .inl (((am_len a : Nat) : Int))), (2, .inl 0), (0, .inr (.inr (19, a))), (1, .inl b)]) hG (pc := 4) d133_4 (ml133 _ (by decide)) rfl (x_lp h (fun r h1 h2 => (am_lvw (lv2 := [(0, .inr (.inr (19, a))), (1, .inl b), (2, .inl 0), (3, .inl (((am_len a : Nat) : Int)))]) [2, 3, 1, 0] rfl (w133_5 hG hr _ _ _ _ _ _ _ h1 (fun q1 e => am_q1 e h2 (fun h => am_q0 h)) (fun t1 e => am_q2 e h2 (fun h => (xq_vret hG (by decide) hr (pc := 20) d133_20 rk133 (am_q0 h))))))))))))))
/-! ChartPress$Sheet.clear()V -/
theorem D134 (k : Nat) {pc : Nat} {i : Instr} (h : tbi134[k]? = some (pc, i)) (hs : am_isw i = false) {n : Nat} (hn : am_il i = n) : decode (am_mc 134) pc = .ok (i, n) := am_d2 (by decide) (by decide) rfl h hs hn
theorem d134_0 : decode (am_mc 134) 0 = .ok (.aload_n 0, 1) := D134 0 rfl rfl rfl
theorem d134_1 : decode (am_mc 134) 1 = .ok (.getfield 11, 3) := D134 1 rfl rfl rfl
theorem d134_4 : decode (am_mc 134) 4 = .ok (.iconst 0, 1) := D134 2 rfl rfl rfl
theorem d134_5 : decode (am_mc 134) 5 = .ok (.invokestatic 26, 3) := D134 3 rfl rfl rfl
theorem d134_8 : decode (am_mc 134) 8 = .ok (.return_, 1) := D134 4 rfl rfl rfl
theorem ml134 : ∀ n, n < 1 → n < am_ml 134 := fun _ h => h
theorem mo134 : am_mo 134 = 10 := by decide +kernel
theorem rk134 : am_rk 134 = 0 := by decide +kernel
theorem rg134 : am_rcg 134 = 11 := by decide +kernel
theorem m10_26 : tb_m 10 26 = some (133, 2, 0, 0) := by decide +kernel
theorem dp134_133 : am_md 133 + 1 ≤ am_md 134 ∧ 8 + (am_ml 133 + 11) + am_lr 133 ≤ am_lr 134 := by decide +kernel
def fn134 (o : Nat) (μ : am_M) : Option (Int × am_M) := (am_op (fn133 (am_ref o 0) 0 μ) (fun z1 => some (0, z1.2)))
def sp134 : am_F := fun vs μ => am_aR 10 vs fun o vs => am_a0 vs (fn134 o μ)
theorem e134 (o : Nat) (μ : am_M) : sp134 [.inr (.inr (10, o))] μ = fn134 o μ := am_aR_c.trans am_a0_c
theorem sd134 : am_Sd 134 sp134 := by
  refine am_Sd_of (by decide) (fun vs μ μ' x h hv hM => ?_)
  obtain ⟨o, vs0, rfl, h0⟩ := am_aR_s h
  obtain ⟨rfl, hz⟩ := am_a0_s h0
  refine ⟨Nat.le_of_ble_eq_true rfl, fun X C hG hr => ?_⟩
  have h := hz
  unfold fn134 at h
  exact (show am_W X C 134 _ 0 0 0 [(0, .inr (.inr (10, o)))] [] μ from (am_c_aload_n hG (pc := 0) d134_0 rfl (x_get_n (v := .inr (.inr (19, am_ref o 0))) hG (pc := 1) d134_1 mo134 f10_11 rfl (am_c_iconst hG (pc := 4) d134_4 (by decide) (x_static_v (as := [.inr (.inr (19, am_ref o 0)), .inl 0]) (rest := []) hG (pc := 5) d134_5 mo134 m10_26 (by decide) dp134_133 rfl rfl (Nat.le_of_ble_eq_true rfl) (Nat.le_of_ble_eq_true rfl) rg133 sd133 (e133 _ _ _) h (fun z1 h => (xq_vret hG (by decide) hr (pc := 8) d134_8 rk134 (am_q0 h))))))))
/-! ChartPress$Layout.left()I -/
theorem D135 (k : Nat) {pc : Nat} {i : Instr} (h : tbi135[k]? = some (pc, i)) (hs : am_isw i = false) {n : Nat} (hn : am_il i = n) : decode (am_mc 135) pc = .ok (i, n) := am_d2 (by decide) (by decide) rfl h hs hn
theorem d135_0 : decode (am_mc 135) 0 = .ok (.aload_n 0, 1) := D135 0 rfl rfl rfl
theorem d135_1 : decode (am_mc 135) 1 = .ok (.getfield 31, 3) := D135 1 rfl rfl rfl
theorem d135_4 : decode (am_mc 135) 4 = .ok (.ireturn, 1) := D135 2 rfl rfl rfl
theorem ml135 : ∀ n, n < 1 → n < am_ml 135 := fun _ h => h
theorem mo135 : am_mo 135 = 9 := by decide +kernel
theorem mr135 : am_mr 135 = some .int := by decide +kernel
theorem rg135 : am_rcg 135 = 10 := by decide +kernel
def fn135 (o : Nat) (μ : am_M) : Option (Int × am_M) := some (μ o 2, μ)
def sp135 : am_F := fun vs μ => am_aR 9 vs fun o vs => am_a0 vs (fn135 o μ)
theorem e135 (o : Nat) (μ : am_M) : sp135 [.inr (.inr (9, o))] μ = fn135 o μ := am_aR_c.trans am_a0_c
theorem sd135 : am_Sd 135 sp135 := by
  refine am_Sd_of (by decide) (fun vs μ μ' x h hv hM => ?_)
  obtain ⟨o, vs0, rfl, h0⟩ := am_aR_s h
  obtain ⟨rfl, hz⟩ := am_a0_s h0
  refine ⟨Nat.le_of_ble_eq_true rfl, fun X C hG hr => ?_⟩
  have h := hz
  unfold fn135 at h
  exact (show am_W X C 135 _ 0 0 0 [(0, .inr (.inr (9, o)))] [] μ from (am_c_aload_n hG (pc := 0) d135_0 rfl (x_get_n (v := .inl (μ o 2)) hG (pc := 1) d135_1 mo135 f9_31 rfl (xq_iret hG (by decide) hr (pc := 4) d135_4 mr135 (am_q0 h)))))
/-! ChartPress$Sheet.bottom()I -/
theorem D136 (k : Nat) {pc : Nat} {i : Instr} (h : tbi136[k]? = some (pc, i)) (hs : am_isw i = false) {n : Nat} (hn : am_il i = n) : decode (am_mc 136) pc = .ok (i, n) := am_d2 (by decide) (by decide) rfl h hs hn
theorem d136_0 : decode (am_mc 136) 0 = .ok (.aload_n 0, 1) := D136 0 rfl rfl rfl
theorem d136_1 : decode (am_mc 136) 1 = .ok (.getfield 19, 3) := D136 1 rfl rfl rfl
theorem d136_4 : decode (am_mc 136) 4 = .ok (.bipush 9, 2) := D136 2 rfl rfl rfl
theorem d136_6 : decode (am_mc 136) 6 = .ok (.isub, 1) := D136 3 rfl rfl rfl
theorem d136_7 : decode (am_mc 136) 7 = .ok (.ireturn, 1) := D136 4 rfl rfl rfl
theorem ml136 : ∀ n, n < 1 → n < am_ml 136 := fun _ h => h
theorem mo136 : am_mo 136 = 10 := by decide +kernel
theorem mr136 : am_mr 136 = some .int := by decide +kernel
theorem rg136 : am_rcg 136 = 11 := by decide +kernel
def fn136 (o : Nat) (μ : am_M) : Option (Int × am_M) := some (w32 ((μ o 2) - 9), μ)
def sp136 : am_F := fun vs μ => am_aR 10 vs fun o vs => am_a0 vs (fn136 o μ)
theorem e136 (o : Nat) (μ : am_M) : sp136 [.inr (.inr (10, o))] μ = fn136 o μ := am_aR_c.trans am_a0_c
theorem sd136 : am_Sd 136 sp136 := by
  refine am_Sd_of (by decide) (fun vs μ μ' x h hv hM => ?_)
  obtain ⟨o, vs0, rfl, h0⟩ := am_aR_s h
  obtain ⟨rfl, hz⟩ := am_a0_s h0
  refine ⟨Nat.le_of_ble_eq_true rfl, fun X C hG hr => ?_⟩
  have h := hz
  unfold fn136 at h
  exact (show am_W X C 136 _ 0 0 0 [(0, .inr (.inr (10, o)))] [] μ from (am_c_aload_n hG (pc := 0) d136_0 rfl (x_get_n (v := .inl (μ o 2)) hG (pc := 1) d136_1 mo136 f10_19 rfl (am_c_bipush hG (pc := 4) d136_4 (by decide) (am_c_isub hG (pc := 6) d136_6 (xq_iret hG (by decide) hr (pc := 7) d136_7 mr136 (am_q0 h)))))))
/-! ChartPress$Sheet.set(III)V -/
theorem D137 (k : Nat) {pc : Nat} {i : Instr} (h : tbi137[k]? = some (pc, i)) (hs : am_isw i = false) {n : Nat} (hn : am_il i = n) : decode (am_mc 137) pc = .ok (i, n) := am_d2 (by decide) (by decide) rfl h hs hn
theorem d137_0 : decode (am_mc 137) 0 = .ok (.aload_n 0, 1) := D137 0 rfl rfl rfl
theorem d137_1 : decode (am_mc 137) 1 = .ok (.iload_n 1, 1) := D137 1 rfl rfl rfl
theorem d137_2 : decode (am_mc 137) 2 = .ok (.iload_n 2, 1) := D137 2 rfl rfl rfl
theorem d137_3 : decode (am_mc 137) 3 = .ok (.invokevirtual 22, 3) := D137 3 rfl rfl rfl
theorem d137_6 : decode (am_mc 137) 6 = .ok (.ifCond .eq 16, 3) := D137 4 rfl rfl rfl
theorem d137_9 : decode (am_mc 137) 9 = .ok (.aload_n 0, 1) := D137 5 rfl rfl rfl
theorem d137_10 : decode (am_mc 137) 10 = .ok (.getfield 11, 3) := D137 6 rfl rfl rfl
theorem d137_13 : decode (am_mc 137) 13 = .ok (.iload_n 2, 1) := D137 7 rfl rfl rfl
theorem d137_14 : decode (am_mc 137) 14 = .ok (.bipush 96, 2) := D137 8 rfl rfl rfl
theorem d137_16 : decode (am_mc 137) 16 = .ok (.imul, 1) := D137 9 rfl rfl rfl
theorem d137_17 : decode (am_mc 137) 17 = .ok (.iload_n 1, 1) := D137 10 rfl rfl rfl
theorem d137_18 : decode (am_mc 137) 18 = .ok (.iadd, 1) := D137 11 rfl rfl rfl
theorem d137_19 : decode (am_mc 137) 19 = .ok (.iload_n 3, 1) := D137 12 rfl rfl rfl
theorem d137_20 : decode (am_mc 137) 20 = .ok (.i2b, 1) := D137 13 rfl rfl rfl
theorem d137_21 : decode (am_mc 137) 21 = .ok (.bastore, 1) := D137 14 rfl rfl rfl
theorem d137_22 : decode (am_mc 137) 22 = .ok (.return_, 1) := D137 15 rfl rfl rfl
theorem ml137 : ∀ n, n < 4 → n < am_ml 137 := fun _ h => h
theorem mo137 : am_mo 137 = 10 := by decide +kernel
theorem rk137 : am_rk 137 = 0 := by decide +kernel
theorem rg137 : am_rcg 137 = 11 := by decide +kernel
theorem dp137_9 : am_md 9 + 1 ≤ am_md 137 ∧ 8 + (am_ml 9 + 11) + am_lr 9 ≤ am_lr 137 := by decide +kernel
def fn137 (o : Nat) (a : Int) (b : Int) (c : Int) (μ : am_M) : Option (Int × am_M) := (am_op (fn9 o a b μ) (fun z1 => (if z1.1 = 0 then some (0, z1.2) else (if (0 : Int) ≤ w32 ((w32 (b * 96)) + a) ∧ w32 ((w32 (b * 96)) + a) < ((am_len (am_ref o 0) : Nat) : Int) then some (0, am_up z1.2 (am_ref o 0) (w32 ((w32 (b * 96)) + a) : Int).toNat (o_nar .byte (o_i2b c))) else none))))
def sp137 : am_F := fun vs μ => am_aR 10 vs fun o vs => am_aI vs fun a vs => am_aI vs fun b vs => am_aI vs fun c vs => am_a0 vs (fn137 o a b c μ)
theorem e137 (o : Nat) (a : Int) (b : Int) (c : Int) (μ : am_M) : sp137 [.inr (.inr (10, o)), .inl a, .inl b, .inl c] μ = fn137 o a b c μ := am_aR_c.trans (am_aI_c.trans (am_aI_c.trans (am_aI_c.trans am_a0_c)))
theorem sd137 : am_Sd 137 sp137 := by
  refine am_Sd_of (by decide) (fun vs μ μ' x h hv hM => ?_)
  obtain ⟨o, vs0, rfl, h0⟩ := am_aR_s h
  obtain ⟨a, vs1, rfl, h1⟩ := am_aI_s h0
  obtain ⟨b, vs2, rfl, h2⟩ := am_aI_s h1
  obtain ⟨c, vs3, rfl, h3⟩ := am_aI_s h2
  obtain ⟨rfl, hz⟩ := am_a0_s h3
  refine ⟨Nat.le_of_ble_eq_true rfl, fun X C hG hr => ?_⟩
  have h := hz
  unfold fn137 at h
  exact (show am_W X C 137 _ 0 0 0 [(0, .inr (.inr (10, o))), (1, .inl a), (2, .inl b), (3, .inl c)] [] μ from (am_c_aload_n hG (pc := 0) d137_0 rfl (am_c_iload_n hG (pc := 1) d137_1 rfl (am_c_iload_n hG (pc := 2) d137_2 rfl (x_virtual_i (t := 10) (o := o) (as2 := [.inl a, .inl b]) (rest := []) hG (pc := 3) d137_3 mo137 m10_22 (by decide) dp137_9 rfl rfl (Nat.le_of_ble_eq_true rfl) (Nat.le_of_ble_eq_true rfl) rg9 sd9 (e9 _ _ _ _) h (fun z1 h => (x_if_eq (tgt := 22) hG (pc := 6) d137_6 rfl h (fun h => (xq_vret hG (by decide) hr (pc := 22) d137_22 rk137 (am_q0 h))) (fun h => (am_c_aload_n hG (pc := 9) d137_9 rfl (x_get_n (v := .inr (.inr (19, am_ref o 0))) hG (pc := 10) d137_10 mo137 f10_11 rfl (am_c_iload_n hG (pc := 13) d137_13 rfl (am_c_bipush hG (pc := 14) d137_14 (by decide) (am_c_imul hG (pc := 16) d137_16 (am_c_iload_n hG (pc := 17) d137_17 rfl (am_c_iadd hG (pc := 18) d137_18 (am_c_iload_n hG (pc := 19) d137_19 rfl (am_c_i2b hG (pc := 20) d137_20 (x_bastore hG (pc := 21) d137_21 h (fun h => (xq_vret hG (by decide) hr (pc := 22) d137_22 rk137 (am_q0 h)))))))))))))))))))))
/-! ChartPress$Sheet.fill(IIIII)V -/
theorem D138 (k : Nat) {pc : Nat} {i : Instr} (h : tbi138[k]? = some (pc, i)) (hs : am_isw i = false) {n : Nat} (hn : am_il i = n) : decode (am_mc 138) pc = .ok (i, n) := am_d2 (by decide) (by decide) rfl h hs hn
theorem d138_0 : decode (am_mc 138) 0 = .ok (.iload_n 3, 1) := D138 0 rfl rfl rfl
theorem d138_1 : decode (am_mc 138) 1 = .ok (.istore 6, 2) := D138 1 rfl rfl rfl
theorem d138_3 : decode (am_mc 138) 3 = .ok (.iload 6, 2) := D138 2 rfl rfl rfl
theorem d138_5 : decode (am_mc 138) 5 = .ok (.iload 4, 2) := D138 3 rfl rfl rfl
theorem d138_7 : decode (am_mc 138) 7 = .ok (.if_icmp .gt 34, 3) := D138 4 rfl rfl rfl
theorem d138_10 : decode (am_mc 138) 10 = .ok (.iload_n 1, 1) := D138 5 rfl rfl rfl
theorem d138_11 : decode (am_mc 138) 11 = .ok (.istore 7, 2) := D138 6 rfl rfl rfl
theorem d138_13 : decode (am_mc 138) 13 = .ok (.iload 7, 2) := D138 7 rfl rfl rfl
theorem d138_15 : decode (am_mc 138) 15 = .ok (.iload_n 2, 1) := D138 8 rfl rfl rfl
theorem d138_16 : decode (am_mc 138) 16 = .ok (.if_icmp .gt 19, 3) := D138 9 rfl rfl rfl
theorem d138_19 : decode (am_mc 138) 19 = .ok (.aload_n 0, 1) := D138 10 rfl rfl rfl
theorem d138_20 : decode (am_mc 138) 20 = .ok (.iload 7, 2) := D138 11 rfl rfl rfl
theorem d138_22 : decode (am_mc 138) 22 = .ok (.iload 6, 2) := D138 12 rfl rfl rfl
theorem d138_24 : decode (am_mc 138) 24 = .ok (.iload 5, 2) := D138 13 rfl rfl rfl
theorem d138_26 : decode (am_mc 138) 26 = .ok (.invokevirtual 32, 3) := D138 14 rfl rfl rfl
theorem d138_29 : decode (am_mc 138) 29 = .ok (.iinc 7 1, 3) := D138 15 rfl rfl rfl
theorem d138_32 : decode (am_mc 138) 32 = .ok (.goto (-19), 3) := D138 16 rfl rfl rfl
theorem d138_35 : decode (am_mc 138) 35 = .ok (.iinc 6 1, 3) := D138 17 rfl rfl rfl
theorem d138_38 : decode (am_mc 138) 38 = .ok (.goto (-35), 3) := D138 18 rfl rfl rfl
theorem d138_41 : decode (am_mc 138) 41 = .ok (.return_, 1) := D138 19 rfl rfl rfl
theorem ml138 : ∀ n, n < 8 → n < am_ml 138 := fun _ h => h
theorem mo138 : am_mo 138 = 10 := by decide +kernel
theorem rk138 : am_rk 138 = 0 := by decide +kernel
theorem rg138 : am_rcg 138 = 11 := by decide +kernel
theorem m10_32 : tb_m 10 32 = some (137, 4, 0, 0) := by decide +kernel
theorem dp138_137 : am_md 137 + 1 ≤ am_md 138 ∧ 8 + (am_ml 137 + 11) + am_lr 137 ≤ am_lr 138 := by decide +kernel
def L138_13 (l0 : Nat) (l1 : Int) (l2 : Int) (l4 : Int) (l5 : Int) (l6 : Int) : Nat → Int → am_M → Option ((Int × am_M) ⊕ (Int × am_M))
  | 0, _, _ => none
  | n + 1, l7, μ => (if l2 < l7 then (some (.inr (l7, μ))) else (am_op (fn137 l0 l7 l6 l5 μ) (fun z1 => (L138_13 l0 l1 l2 l4 l5 l6 n (w32 (l7 + 1)) z1.2))))
theorem w138_13 {X : am_K} {C : am_C} {Q : State → Prop} (hG : am_G X C 138 0 0 (0, fun _ => 0)) (hr : match X with | (_, _, _, _, _, _, _, _, meth, _) => meth.sig.returnType = am_mr 138 ∧ meth.locks = false) (l0 : Nat) (l1 : Int) (l2 : Int) (l4 : Int) (l5 : Int) (l6 : Int) : ∀ (n : Nat) (l7 : Int) (μ : am_M) (r : (Int × am_M) ⊕ (Int × am_M)), L138_13 l0 l1 l2 l4 l5 l6 n l7 μ = some r → (∀ q, r = .inl q → Q = am_E X C 138 q.1 q.2) → (∀ t, r = .inr t → am_W X C 138 Q 0 0 35 [(0, .inr (.inr (10, l0))), (1, .inl l1), (2, .inl l2), (4, .inl l4), (5, .inl l5), (6, .inl l6)] [] t.2) → am_W X C 138 Q 0 0 13 [(0, .inr (.inr (10, l0))), (1, .inl l1), (2, .inl l2), (4, .inl l4), (5, .inl l5), (6, .inl l6), (7, .inl l7)] [] μ := by
  intro n
  induction n with
  | zero => intro l7 μ r h; cases h
  | succ n ih =>
    intro l7 μ r h hI hX
    unfold L138_13 at h
    exact (am_c_iload hG (pc := 13) d138_13 rfl (am_c_iload_n hG (pc := 15) d138_15 rfl (x_icmp_gt (tgt := 35) hG (pc := 16) d138_16 rfl h (fun h => (am_lvw (lv2 := [(0, .inr (.inr (10, l0))), (1, .inl l1), (2, .inl l2), (4, .inl l4), (5, .inl l5), (6, .inl l6)]) [0, 1, 2, 3, 4, 5] rfl (hX (l7, μ) (Option.some.inj h).symm))) (fun h => (am_c_aload_n hG (pc := 19) d138_19 rfl (am_c_iload hG (pc := 20) d138_20 rfl (am_c_iload hG (pc := 22) d138_22 rfl (am_c_iload hG (pc := 24) d138_24 rfl (x_virtual_v (t := 10) (o := l0) (as2 := [.inl l7, .inl l6, .inl l5]) (rest := []) hG (pc := 26) d138_26 mo138 m10_32 (by decide) dp138_137 rfl rfl (Nat.le_of_ble_eq_true rfl) (Nat.le_of_ble_eq_true rfl) rg137 sd137 (e137 _ _ _ _ _) h (fun z1 h => (x_iinc (lv' := [(7, .inl (w32 (l7 + 1))), (0, .inr (.inr (10, l0))), (1, .inl l1), (2, .inl l2), (4, .inl l4), (5, .inl l5), (6, .inl l6)]) hG (pc := 29) d138_29 rfl (ml138 _ (by decide)) rfl (x_goto (tgt := 13) hG (pc := 32) d138_32 rfl (am_lvw (lv2 := [(0, .inr (.inr (10, l0))), (1, .inl l1), (2, .inl l2), (4, .inl l4), (5, .inl l5), (6, .inl l6), (7, .inl (w32 (l7 + 1)))]) [1, 2, 3, 4, 5, 6, 0] rfl (ih _ _ _ h hI hX))))))))))))))
def L138_3 (l0 : Nat) (l1 : Int) (l2 : Int) (l4 : Int) (l5 : Int) : Nat → Int → am_M → Option ((Int × am_M) ⊕ (Int × am_M))
  | 0, _, _ => none
  | n + 1, l6, μ => (if l4 < l6 then (some (.inr (l6, μ))) else (am_op (L138_13 l0 l1 l2 l4 l5 l6 am_fuel l1 μ) (fun s => am_lp s (fun q1 => some (.inl q1)) (fun t1 => (L138_3 l0 l1 l2 l4 l5 n (w32 (l6 + 1)) t1.2)))))
theorem w138_3 {X : am_K} {C : am_C} {Q : State → Prop} (hG : am_G X C 138 0 0 (0, fun _ => 0)) (hr : match X with | (_, _, _, _, _, _, _, _, meth, _) => meth.sig.returnType = am_mr 138 ∧ meth.locks = false) (l0 : Nat) (l1 : Int) (l2 : Int) (l4 : Int) (l5 : Int) : ∀ (n : Nat) (l6 : Int) (μ : am_M) (r : (Int × am_M) ⊕ (Int × am_M)), L138_3 l0 l1 l2 l4 l5 n l6 μ = some r → (∀ q, r = .inl q → Q = am_E X C 138 q.1 q.2) → (∀ t, r = .inr t → am_W X C 138 Q 0 0 41 [] [] t.2) → am_W X C 138 Q 0 0 3 [(0, .inr (.inr (10, l0))), (1, .inl l1), (2, .inl l2), (4, .inl l4), (5, .inl l5), (6, .inl l6)] [] μ := by
  intro n
  induction n with
  | zero => intro l6 μ r h; cases h
  | succ n ih =>
    intro l6 μ r h hI hX
    unfold L138_3 at h
    exact (am_c_iload hG (pc := 3) d138_3 rfl (am_c_iload hG (pc := 5) d138_5 rfl (x_icmp_gt (tgt := 41) hG (pc := 7) d138_7 rfl h (fun h => (am_lvw (lv2 := []) [] rfl (hX (l6, μ) (Option.some.inj h).symm))) (fun h => (am_c_iload_n hG (pc := 10) d138_10 rfl (x_istore (lv' := [(7, .inl l1), (0, .inr (.inr (10, l0))), (1, .inl l1), (2, .inl l2), (4, .inl l4), (5, .inl l5), (6, .inl l6)]) hG (pc := 11) d138_11 (ml138 _ (by decide)) rfl (x_lp h (fun r h1 h2 => (am_lvw (lv2 := [(0, .inr (.inr (10, l0))), (1, .inl l1), (2, .inl l2), (4, .inl l4), (5, .inl l5), (6, .inl l6), (7, .inl l1)]) [1, 2, 3, 4, 5, 6, 0] rfl (w138_13 hG hr _ _ _ _ _ _ _ _ _ _ h1 (fun q1 e => am_q1 e h2 (fun h => hI _ (Option.some.inj h).symm)) (fun t1 e => am_q2 e h2 (fun h => (x_iinc (lv' := [(6, .inl (w32 (l6 + 1))), (0, .inr (.inr (10, l0))), (1, .inl l1), (2, .inl l2), (4, .inl l4), (5, .inl l5)]) hG (pc := 35) d138_35 rfl (ml138 _ (by decide)) rfl (x_goto (tgt := 3) hG (pc := 38) d138_38 rfl (am_lvw (lv2 := [(0, .inr (.inr (10, l0))), (1, .inl l1), (2, .inl l2), (4, .inl l4), (5, .inl l5), (6, .inl (w32 (l6 + 1)))]) [1, 2, 3, 4, 5, 0] rfl (ih _ _ _ h hI hX))))))))))))))))
def fn138 (o : Nat) (a : Int) (b : Int) (c : Int) (d : Int) (e : Int) (μ : am_M) : Option (Int × am_M) := (am_op (L138_3 o a b d e am_fuel c μ) (fun s => am_lp s (fun q2 => some q2) (fun t2 => some (0, t2.2))))
def sp138 : am_F := fun vs μ => am_aR 10 vs fun o vs => am_aI vs fun a vs => am_aI vs fun b vs => am_aI vs fun c vs => am_aI vs fun d vs => am_aI vs fun e vs => am_a0 vs (fn138 o a b c d e μ)
theorem e138 (o : Nat) (a : Int) (b : Int) (c : Int) (d : Int) (e : Int) (μ : am_M) : sp138 [.inr (.inr (10, o)), .inl a, .inl b, .inl c, .inl d, .inl e] μ = fn138 o a b c d e μ := am_aR_c.trans (am_aI_c.trans (am_aI_c.trans (am_aI_c.trans (am_aI_c.trans (am_aI_c.trans am_a0_c)))))
theorem sd138 : am_Sd 138 sp138 := by
  refine am_Sd_of (by decide) (fun vs μ μ' x h hv hM => ?_)
  obtain ⟨o, vs0, rfl, h0⟩ := am_aR_s h
  obtain ⟨a, vs1, rfl, h1⟩ := am_aI_s h0
  obtain ⟨b, vs2, rfl, h2⟩ := am_aI_s h1
  obtain ⟨c, vs3, rfl, h3⟩ := am_aI_s h2
  obtain ⟨d, vs4, rfl, h4⟩ := am_aI_s h3
  obtain ⟨e, vs5, rfl, h5⟩ := am_aI_s h4
  obtain ⟨rfl, hz⟩ := am_a0_s h5
  refine ⟨Nat.le_of_ble_eq_true rfl, fun X C hG hr => ?_⟩
  have h := hz
  unfold fn138 at h
  exact (show am_W X C 138 _ 0 0 0 [(0, .inr (.inr (10, o))), (1, .inl a), (2, .inl b), (3, .inl c), (4, .inl d), (5, .inl e)] [] μ from (am_c_iload_n hG (pc := 0) d138_0 rfl (x_istore (lv' := [(6, .inl c), (0, .inr (.inr (10, o))), (1, .inl a), (2, .inl b), (3, .inl c), (4, .inl d), (5, .inl e)]) hG (pc := 1) d138_1 (ml138 _ (by decide)) rfl (x_lp h (fun r h1 h2 => (am_lvw (lv2 := [(0, .inr (.inr (10, o))), (1, .inl a), (2, .inl b), (4, .inl d), (5, .inl e), (6, .inl c)]) [1, 2, 3, 5, 6, 0] rfl (w138_3 hG hr _ _ _ _ _ _ _ _ _ h1 (fun q2 e => am_q1 e h2 (fun h => am_q0 h)) (fun t2 e => am_q2 e h2 (fun h => (xq_vret hG (by decide) hr (pc := 41) d138_41 rk138 (am_q0 h)))))))))))
/-! ChartPress$Sheet.height()I -/
theorem D139 (k : Nat) {pc : Nat} {i : Instr} (h : tbi139[k]? = some (pc, i)) (hs : am_isw i = false) {n : Nat} (hn : am_il i = n) : decode (am_mc 139) pc = .ok (i, n) := am_d2 (by decide) (by decide) rfl h hs hn
theorem d139_0 : decode (am_mc 139) 0 = .ok (.aload_n 0, 1) := D139 0 rfl rfl rfl
theorem d139_1 : decode (am_mc 139) 1 = .ok (.getfield 19, 3) := D139 1 rfl rfl rfl
theorem d139_4 : decode (am_mc 139) 4 = .ok (.ireturn, 1) := D139 2 rfl rfl rfl
theorem ml139 : ∀ n, n < 1 → n < am_ml 139 := fun _ h => h
theorem mo139 : am_mo 139 = 10 := by decide +kernel
theorem mr139 : am_mr 139 = some .int := by decide +kernel
theorem rg139 : am_rcg 139 = 11 := by decide +kernel
def fn139 (o : Nat) (μ : am_M) : Option (Int × am_M) := some (μ o 2, μ)
def sp139 : am_F := fun vs μ => am_aR 10 vs fun o vs => am_a0 vs (fn139 o μ)
theorem e139 (o : Nat) (μ : am_M) : sp139 [.inr (.inr (10, o))] μ = fn139 o μ := am_aR_c.trans am_a0_c
theorem sd139 : am_Sd 139 sp139 := by
  refine am_Sd_of (by decide) (fun vs μ μ' x h hv hM => ?_)
  obtain ⟨o, vs0, rfl, h0⟩ := am_aR_s h
  obtain ⟨rfl, hz⟩ := am_a0_s h0
  refine ⟨Nat.le_of_ble_eq_true rfl, fun X C hG hr => ?_⟩
  have h := hz
  unfold fn139 at h
  exact (show am_W X C 139 _ 0 0 0 [(0, .inr (.inr (10, o)))] [] μ from (am_c_aload_n hG (pc := 0) d139_0 rfl (x_get_n (v := .inl (μ o 2)) hG (pc := 1) d139_1 mo139 f10_19 rfl (xq_iret hG (by decide) hr (pc := 4) d139_4 mr139 (am_q0 h)))))
/-! ChartPress$Scale.rowOf(JI)I -/
theorem D140 (k : Nat) {pc : Nat} {i : Instr} (h : tbi140[k]? = some (pc, i)) (hs : am_isw i = false) {n : Nat} (hn : am_il i = n) : decode (am_mc 140) pc = .ok (i, n) := am_d2 (by decide) (by decide) rfl h hs hn
theorem d140_0 : decode (am_mc 140) 0 = .ok (.aload_n 0, 1) := D140 0 rfl rfl rfl
theorem d140_1 : decode (am_mc 140) 1 = .ok (.getfield 80, 3) := D140 1 rfl rfl rfl
theorem d140_4 : decode (am_mc 140) 4 = .ok (.aload_n 0, 1) := D140 2 rfl rfl rfl
theorem d140_5 : decode (am_mc 140) 5 = .ok (.getfield 77, 3) := D140 3 rfl rfl rfl
theorem d140_8 : decode (am_mc 140) 8 = .ok (.lsub, 1) := D140 4 rfl rfl rfl
theorem d140_9 : decode (am_mc 140) 9 = .ok (.ldc2_w 72, 3) := D140 5 rfl rfl rfl
theorem d140_12 : decode (am_mc 140) 12 = .ok (.lmul, 1) := D140 6 rfl rfl rfl
theorem d140_13 : decode (am_mc 140) 13 = .ok (.lstore 4, 2) := D140 7 rfl rfl rfl
theorem d140_15 : decode (am_mc 140) 15 = .ok (.lload 4, 2) := D140 8 rfl rfl rfl
theorem d140_17 : decode (am_mc 140) 17 = .ok (.lconst 0, 1) := D140 9 rfl rfl rfl
theorem d140_18 : decode (am_mc 140) 18 = .ok (.lcmp, 1) := D140 10 rfl rfl rfl
theorem d140_19 : decode (am_mc 140) 19 = .ok (.ifCond .gt 8, 3) := D140 11 rfl rfl rfl
theorem d140_22 : decode (am_mc 140) 22 = .ok (.iload_n 3, 1) := D140 12 rfl rfl rfl
theorem d140_23 : decode (am_mc 140) 23 = .ok (.bipush 9, 2) := D140 13 rfl rfl rfl
theorem d140_25 : decode (am_mc 140) 25 = .ok (.isub, 1) := D140 14 rfl rfl rfl
theorem d140_26 : decode (am_mc 140) 26 = .ok (.ireturn, 1) := D140 15 rfl rfl rfl
theorem d140_27 : decode (am_mc 140) 27 = .ok (.ldc2_w 87, 3) := D140 16 rfl rfl rfl
theorem d140_30 : decode (am_mc 140) 30 = .ok (.lload_n 1, 1) := D140 17 rfl rfl rfl
theorem d140_31 : decode (am_mc 140) 31 = .ok (.aload_n 0, 1) := D140 18 rfl rfl rfl
theorem d140_32 : decode (am_mc 140) 32 = .ok (.getfield 77, 3) := D140 19 rfl rfl rfl
theorem d140_35 : decode (am_mc 140) 35 = .ok (.ldc2_w 72, 3) := D140 20 rfl rfl rfl
theorem d140_38 : decode (am_mc 140) 38 = .ok (.lmul, 1) := D140 21 rfl rfl rfl
theorem d140_39 : decode (am_mc 140) 39 = .ok (.lsub, 1) := D140 22 rfl rfl rfl
theorem d140_40 : decode (am_mc 140) 40 = .ok (.lmul, 1) := D140 23 rfl rfl rfl
theorem d140_41 : decode (am_mc 140) 41 = .ok (.iload_n 3, 1) := D140 24 rfl rfl rfl
theorem d140_42 : decode (am_mc 140) 42 = .ok (.bipush 9, 2) := D140 25 rfl rfl rfl
theorem d140_44 : decode (am_mc 140) 44 = .ok (.isub, 1) := D140 26 rfl rfl rfl
theorem d140_45 : decode (am_mc 140) 45 = .ok (.iconst 1, 1) := D140 27 rfl rfl rfl
theorem d140_46 : decode (am_mc 140) 46 = .ok (.isub, 1) := D140 28 rfl rfl rfl
theorem d140_47 : decode (am_mc 140) 47 = .ok (.i2l, 1) := D140 29 rfl rfl rfl
theorem d140_48 : decode (am_mc 140) 48 = .ok (.lmul, 1) := D140 30 rfl rfl rfl
theorem d140_49 : decode (am_mc 140) 49 = .ok (.lstore 6, 2) := D140 31 rfl rfl rfl
theorem d140_51 : decode (am_mc 140) 51 = .ok (.iload_n 3, 1) := D140 32 rfl rfl rfl
theorem d140_52 : decode (am_mc 140) 52 = .ok (.bipush 9, 2) := D140 33 rfl rfl rfl
theorem d140_54 : decode (am_mc 140) 54 = .ok (.isub, 1) := D140 34 rfl rfl rfl
theorem d140_55 : decode (am_mc 140) 55 = .ok (.lload 6, 2) := D140 35 rfl rfl rfl
theorem d140_57 : decode (am_mc 140) 57 = .ok (.lload 4, 2) := D140 36 rfl rfl rfl
theorem d140_59 : decode (am_mc 140) 59 = .ok (.ladd, 1) := D140 37 rfl rfl rfl
theorem d140_60 : decode (am_mc 140) 60 = .ok (.ldc2_w 87, 3) := D140 38 rfl rfl rfl
theorem d140_63 : decode (am_mc 140) 63 = .ok (.lload 4, 2) := D140 39 rfl rfl rfl
theorem d140_65 : decode (am_mc 140) 65 = .ok (.lmul, 1) := D140 40 rfl rfl rfl
theorem d140_66 : decode (am_mc 140) 66 = .ok (.invokestatic 74, 3) := D140 41 rfl rfl rfl
theorem d140_69 : decode (am_mc 140) 69 = .ok (.l2i, 1) := D140 42 rfl rfl rfl
theorem d140_70 : decode (am_mc 140) 70 = .ok (.isub, 1) := D140 43 rfl rfl rfl
theorem d140_71 : decode (am_mc 140) 71 = .ok (.ireturn, 1) := D140 44 rfl rfl rfl
theorem ml140 : ∀ n, n < 8 → n < am_ml 140 := fun _ h => h
theorem mo140 : am_mo 140 = 8 := by decide +kernel
theorem mr140 : am_mr 140 = some .int := by decide +kernel
theorem rg140 : am_rcg 140 = 9 := by decide +kernel
theorem dp140_112 : am_md 112 + 1 ≤ am_md 140 ∧ 8 + (am_ml 112 + 11) + am_lr 112 ≤ am_lr 140 := by decide +kernel
def fn140 (o : Nat) (a : Int) (b : Int) (μ : am_M) : Option (Int × am_M) := (if 0 < o_cmp (w64 ((w64 ((μ o 4) - (μ o 3))) * 27720)) 0 then (am_op (fn112 (w64 ((w64 ((w64 (2 * (w64 (a - (w64 ((μ o 3) * 27720)))))) * (w32 ((w32 (b - 9)) - 1)))) + (w64 ((w64 ((μ o 4) - (μ o 3))) * 27720)))) (w64 (2 * (w64 ((w64 ((μ o 4) - (μ o 3))) * 27720)))) μ) (fun z1 => some (w32 ((w32 (b - 9)) - (o_l2i z1.1)), z1.2))) else some (w32 (b - 9), μ))
def sp140 : am_F := fun vs μ => am_aR 8 vs fun o vs => am_aJ vs fun a vs => am_aI vs fun b vs => am_a0 vs (fn140 o a b μ)
theorem e140 (o : Nat) (a : Int) (b : Int) (μ : am_M) : sp140 [.inr (.inr (8, o)), .inr (.inl a), .inl b] μ = fn140 o a b μ := am_aR_c.trans (am_aJ_c.trans (am_aI_c.trans am_a0_c))
theorem sd140 : am_Sd 140 sp140 := by
  refine am_Sd_of (by decide) (fun vs μ μ' x h hv hM => ?_)
  obtain ⟨o, vs0, rfl, h0⟩ := am_aR_s h
  obtain ⟨a, vs1, rfl, h1⟩ := am_aJ_s h0
  obtain ⟨b, vs2, rfl, h2⟩ := am_aI_s h1
  obtain ⟨rfl, hz⟩ := am_a0_s h2
  refine ⟨Nat.le_of_ble_eq_true rfl, fun X C hG hr => ?_⟩
  have h := hz
  unfold fn140 at h
  exact (show am_W X C 140 _ 0 0 0 [(0, .inr (.inr (8, o))), (1, .inr (.inl a)), (3, .inl b)] [] μ from (am_c_aload_n hG (pc := 0) d140_0 rfl (x_get_n (v := .inr (.inl (μ o 4))) hG (pc := 1) d140_1 mo140 f8_80 rfl (am_c_aload_n hG (pc := 4) d140_4 rfl (x_get_n (v := .inr (.inl (μ o 3))) hG (pc := 5) d140_5 mo140 f8_77 rfl (am_c_lsub hG (pc := 8) d140_8 (am_c_ldc2 hG (pc := 9) d140_9 (v := 27720) (by decide +kernel) (am_c_lmul hG (pc := 12) d140_12 (x_lstore (lv' := [(4, .inr (.inl (w64 ((w64 ((μ o 4) - (μ o 3))) * 27720)))), (0, .inr (.inr (8, o))), (1, .inr (.inl a)), (3, .inl b)]) hG (pc := 13) d140_13 (ml140 _ (by decide)) rfl (am_c_lload hG (pc := 15) d140_15 rfl (am_c_lconst hG (pc := 17) d140_17 (am_c_lcmp hG (pc := 18) d140_18 (x_if_gt (tgt := 27) hG (pc := 19) d140_19 rfl h (fun h => (am_c_ldc2 hG (pc := 27) d140_27 (v := 2) (by decide +kernel) (am_c_lload_n hG (pc := 30) d140_30 rfl (am_c_aload_n hG (pc := 31) d140_31 rfl (x_get_n (v := .inr (.inl (μ o 3))) hG (pc := 32) d140_32 mo140 f8_77 rfl (am_c_ldc2 hG (pc := 35) d140_35 (v := 27720) (by decide +kernel) (am_c_lmul hG (pc := 38) d140_38 (am_c_lsub hG (pc := 39) d140_39 (am_c_lmul hG (pc := 40) d140_40 (am_c_iload_n hG (pc := 41) d140_41 rfl (am_c_bipush hG (pc := 42) d140_42 (by decide) (am_c_isub hG (pc := 44) d140_44 (am_c_iconst hG (pc := 45) d140_45 (by decide) (am_c_isub hG (pc := 46) d140_46 (am_c_i2l hG (pc := 47) d140_47 (am_c_lmul hG (pc := 48) d140_48 (x_lstore (lv' := [(6, .inr (.inl (w64 ((w64 (2 * (w64 (a - (w64 ((μ o 3) * 27720)))))) * (w32 ((w32 (b - 9)) - 1)))))), (4, .inr (.inl (w64 ((w64 ((μ o 4) - (μ o 3))) * 27720)))), (0, .inr (.inr (8, o))), (1, .inr (.inl a)), (3, .inl b)]) hG (pc := 49) d140_49 (ml140 _ (by decide)) rfl (am_c_iload_n hG (pc := 51) d140_51 rfl (am_c_bipush hG (pc := 52) d140_52 (by decide) (am_c_isub hG (pc := 54) d140_54 (am_c_lload hG (pc := 55) d140_55 rfl (am_c_lload hG (pc := 57) d140_57 rfl (am_c_ladd hG (pc := 59) d140_59 (am_c_ldc2 hG (pc := 60) d140_60 (v := 2) (by decide +kernel) (am_c_lload hG (pc := 63) d140_63 rfl (am_c_lmul hG (pc := 65) d140_65 (x_static_l (as := [.inr (.inl (w64 ((w64 ((w64 (2 * (w64 (a - (w64 ((μ o 3) * 27720)))))) * (w32 ((w32 (b - 9)) - 1)))) + (w64 ((w64 ((μ o 4) - (μ o 3))) * 27720))))), .inr (.inl (w64 (2 * (w64 ((w64 ((μ o 4) - (μ o 3))) * 27720)))))]) (rest := [.inl (w32 (b - 9))]) hG (pc := 66) d140_66 mo140 m8_74 (by decide) dp140_112 rfl rfl (Nat.le_of_ble_eq_true rfl) (Nat.le_of_ble_eq_true rfl) rg112 sd112 (e112 _ _ _) h (fun z1 h => (am_c_l2i hG (pc := 69) d140_69 (am_c_isub hG (pc := 70) d140_70 (xq_iret hG (by decide) hr (pc := 71) d140_71 mr140 (am_q0 h)))))))))))))))))))))))))))))))) (fun h => (am_c_iload_n hG (pc := 22) d140_22 rfl (am_c_bipush hG (pc := 23) d140_23 (by decide) (am_c_isub hG (pc := 25) d140_25 (xq_iret hG (by decide) hr (pc := 26) d140_26 mr140 (am_q0 h)))))))))))))))))))
/-! ChartPress.tickRow(I)I -/
theorem D141 (k : Nat) {pc : Nat} {i : Instr} (h : tbi141[k]? = some (pc, i)) (hs : am_isw i = false) {n : Nat} (hn : am_il i = n) : decode (am_mc 141) pc = .ok (i, n) := am_d2 (by decide) (by decide) rfl h hs hn
theorem d141_0 : decode (am_mc 141) 0 = .ok (.aload_n 0, 1) := D141 0 rfl rfl rfl
theorem d141_1 : decode (am_mc 141) 1 = .ok (.getfield 45, 3) := D141 1 rfl rfl rfl
theorem d141_4 : decode (am_mc 141) 4 = .ok (.aload_n 0, 1) := D141 2 rfl rfl rfl
theorem d141_5 : decode (am_mc 141) 5 = .ok (.getfield 45, 3) := D141 3 rfl rfl rfl
theorem d141_8 : decode (am_mc 141) 8 = .ok (.iload_n 1, 1) := D141 4 rfl rfl rfl
theorem d141_9 : decode (am_mc 141) 9 = .ok (.invokevirtual 240, 3) := D141 5 rfl rfl rfl
theorem d141_12 : decode (am_mc 141) 12 = .ok (.ldc2_w 196, 3) := D141 6 rfl rfl rfl
theorem d141_15 : decode (am_mc 141) 15 = .ok (.lmul, 1) := D141 7 rfl rfl rfl
theorem d141_16 : decode (am_mc 141) 16 = .ok (.aload_n 0, 1) := D141 8 rfl rfl rfl
theorem d141_17 : decode (am_mc 141) 17 = .ok (.getfield 59, 3) := D141 9 rfl rfl rfl
theorem d141_20 : decode (am_mc 141) 20 = .ok (.invokevirtual 237, 3) := D141 10 rfl rfl rfl
theorem d141_23 : decode (am_mc 141) 23 = .ok (.invokevirtual 275, 3) := D141 11 rfl rfl rfl
theorem d141_26 : decode (am_mc 141) 26 = .ok (.ireturn, 1) := D141 12 rfl rfl rfl
theorem ml141 : ∀ n, n < 2 → n < am_ml 141 := fun _ h => h
theorem mo141 : am_mo 141 = 0 := by decide +kernel
theorem mr141 : am_mr 141 = some .int := by decide +kernel
theorem rg141 : am_rcg 141 = 1 := by decide +kernel
theorem f0_45 : tb_f 0 45 = some (0, 5, 5, 8) := by decide +kernel
theorem m0_237 : tb_m 0 237 = some (139, 1, 1, 0) := by decide +kernel
theorem m0_240 : tb_m 0 240 = some (116, 2, 2, 0) := by decide +kernel
theorem m0_275 : tb_m 0 275 = some (140, 3, 1, 0) := by decide +kernel
theorem dp141_116 : am_md 116 + 1 ≤ am_md 141 ∧ 8 + (am_ml 116 + 11) + am_lr 116 ≤ am_lr 141 := by decide +kernel
theorem dp141_139 : am_md 139 + 1 ≤ am_md 141 ∧ 8 + (am_ml 139 + 11) + am_lr 139 ≤ am_lr 141 := by decide +kernel
theorem dp141_140 : am_md 140 + 1 ≤ am_md 141 ∧ 8 + (am_ml 140 + 11) + am_lr 140 ≤ am_lr 141 := by decide +kernel
def fn141 (o : Nat) (a : Int) (μ : am_M) : Option (Int × am_M) := (am_op (fn116 (am_ref o 5) a μ) (fun z1 => (am_op (fn139 (am_ref o 7) z1.2) (fun z2 => (am_op (fn140 (am_ref o 5) (w64 (z1.1 * 27720)) z2.1 z2.2) (fun z3 => some (z3.1, z3.2)))))))
def sp141 : am_F := fun vs μ => am_aR 0 vs fun o vs => am_aI vs fun a vs => am_a0 vs (fn141 o a μ)
theorem e141 (o : Nat) (a : Int) (μ : am_M) : sp141 [.inr (.inr (0, o)), .inl a] μ = fn141 o a μ := am_aR_c.trans (am_aI_c.trans am_a0_c)
theorem sd141 : am_Sd 141 sp141 := by
  refine am_Sd_of (by decide) (fun vs μ μ' x h hv hM => ?_)
  obtain ⟨o, vs0, rfl, h0⟩ := am_aR_s h
  obtain ⟨a, vs1, rfl, h1⟩ := am_aI_s h0
  obtain ⟨rfl, hz⟩ := am_a0_s h1
  refine ⟨Nat.le_of_ble_eq_true rfl, fun X C hG hr => ?_⟩
  have h := hz
  unfold fn141 at h
  exact (show am_W X C 141 _ 0 0 0 [(0, .inr (.inr (0, o))), (1, .inl a)] [] μ from (am_c_aload_n hG (pc := 0) d141_0 rfl (x_get_n (v := .inr (.inr (8, am_ref o 5))) hG (pc := 1) d141_1 mo141 f0_45 rfl (am_c_aload_n hG (pc := 4) d141_4 rfl (x_get_n (v := .inr (.inr (8, am_ref o 5))) hG (pc := 5) d141_5 mo141 f0_45 rfl (am_c_iload_n hG (pc := 8) d141_8 rfl (x_virtual_l (t := 8) (o := am_ref o 5) (as2 := [.inl a]) (rest := [.inr (.inr (8, am_ref o 5))]) hG (pc := 9) d141_9 mo141 m0_240 (by decide) dp141_116 rfl rfl (Nat.le_of_ble_eq_true rfl) (Nat.le_of_ble_eq_true rfl) rg116 sd116 (e116 _ _ _) h (fun z1 h => (am_c_ldc2 hG (pc := 12) d141_12 (v := 27720) (by decide +kernel) (am_c_lmul hG (pc := 15) d141_15 (am_c_aload_n hG (pc := 16) d141_16 rfl (x_get_n (v := .inr (.inr (10, am_ref o 7))) hG (pc := 17) d141_17 mo141 f0_59 rfl (x_virtual_i (t := 10) (o := am_ref o 7) (as2 := []) (rest := [.inr (.inl (w64 (z1.1 * 27720))), .inr (.inr (8, am_ref o 5))]) hG (pc := 20) d141_20 mo141 m0_237 (by decide) dp141_139 rfl rfl (Nat.le_of_ble_eq_true rfl) (Nat.le_of_ble_eq_true rfl) rg139 sd139 (e139 _ _) h (fun z2 h => (x_virtual_i (t := 8) (o := am_ref o 5) (as2 := [.inr (.inl (w64 (z1.1 * 27720))), .inl z2.1]) (rest := []) hG (pc := 23) d141_23 mo141 m0_275 (by decide) dp141_140 rfl rfl (Nat.le_of_ble_eq_true rfl) (Nat.le_of_ble_eq_true rfl) rg140 sd140 (e140 _ _ _ _) h (fun z3 h => (xq_iret hG (by decide) hr (pc := 26) d141_26 mr141 (am_q0 h))))))))))))))))))
/-! ChartPress.paintAxes()V -/
theorem D142 (k : Nat) {pc : Nat} {i : Instr} (h : tbi142[k]? = some (pc, i)) (hs : am_isw i = false) {n : Nat} (hn : am_il i = n) : decode (am_mc 142) pc = .ok (i, n) := am_d2 (by decide) (by decide) rfl h hs hn
theorem d142_0 : decode (am_mc 142) 0 = .ok (.aload_n 0, 1) := D142 0 rfl rfl rfl
theorem d142_1 : decode (am_mc 142) 1 = .ok (.getfield 52, 3) := D142 1 rfl rfl rfl
theorem d142_4 : decode (am_mc 142) 4 = .ok (.invokevirtual 173, 3) := D142 2 rfl rfl rfl
theorem d142_7 : decode (am_mc 142) 7 = .ok (.istore_n 1, 1) := D142 3 rfl rfl rfl
theorem d142_8 : decode (am_mc 142) 8 = .ok (.aload_n 0, 1) := D142 4 rfl rfl rfl
theorem d142_9 : decode (am_mc 142) 9 = .ok (.getfield 59, 3) := D142 5 rfl rfl rfl
theorem d142_12 : decode (am_mc 142) 12 = .ok (.iload_n 1, 1) := D142 6 rfl rfl rfl
theorem d142_13 : decode (am_mc 142) 13 = .ok (.iconst 1, 1) := D142 7 rfl rfl rfl
theorem d142_14 : decode (am_mc 142) 14 = .ok (.isub, 1) := D142 8 rfl rfl rfl
theorem d142_15 : decode (am_mc 142) 15 = .ok (.iload_n 1, 1) := D142 9 rfl rfl rfl
theorem d142_16 : decode (am_mc 142) 16 = .ok (.iconst 1, 1) := D142 10 rfl rfl rfl
theorem d142_17 : decode (am_mc 142) 17 = .ok (.isub, 1) := D142 11 rfl rfl rfl
theorem d142_18 : decode (am_mc 142) 18 = .ok (.iconst 1, 1) := D142 12 rfl rfl rfl
theorem d142_19 : decode (am_mc 142) 19 = .ok (.aload_n 0, 1) := D142 13 rfl rfl rfl
theorem d142_20 : decode (am_mc 142) 20 = .ok (.getfield 59, 3) := D142 14 rfl rfl rfl
theorem d142_23 : decode (am_mc 142) 23 = .ok (.invokevirtual 220, 3) := D142 15 rfl rfl rfl
theorem d142_26 : decode (am_mc 142) 26 = .ok (.iconst 1, 1) := D142 16 rfl rfl rfl
theorem d142_27 : decode (am_mc 142) 27 = .ok (.invokevirtual 223, 3) := D142 17 rfl rfl rfl
theorem d142_30 : decode (am_mc 142) 30 = .ok (.aload_n 0, 1) := D142 18 rfl rfl rfl
theorem d142_31 : decode (am_mc 142) 31 = .ok (.getfield 59, 3) := D142 19 rfl rfl rfl
theorem d142_34 : decode (am_mc 142) 34 = .ok (.iload_n 1, 1) := D142 20 rfl rfl rfl
theorem d142_35 : decode (am_mc 142) 35 = .ok (.iconst 1, 1) := D142 21 rfl rfl rfl
theorem d142_36 : decode (am_mc 142) 36 = .ok (.isub, 1) := D142 22 rfl rfl rfl
theorem d142_37 : decode (am_mc 142) 37 = .ok (.aload_n 0, 1) := D142 23 rfl rfl rfl
theorem d142_38 : decode (am_mc 142) 38 = .ok (.getfield 59, 3) := D142 24 rfl rfl rfl
theorem d142_41 : decode (am_mc 142) 41 = .ok (.invokevirtual 227, 3) := D142 25 rfl rfl rfl
theorem d142_44 : decode (am_mc 142) 44 = .ok (.aload_n 0, 1) := D142 26 rfl rfl rfl
theorem d142_45 : decode (am_mc 142) 45 = .ok (.getfield 59, 3) := D142 27 rfl rfl rfl
theorem d142_48 : decode (am_mc 142) 48 = .ok (.invokevirtual 220, 3) := D142 28 rfl rfl rfl
theorem d142_51 : decode (am_mc 142) 51 = .ok (.iconst 1, 1) := D142 29 rfl rfl rfl
theorem d142_52 : decode (am_mc 142) 52 = .ok (.iadd, 1) := D142 30 rfl rfl rfl
theorem d142_53 : decode (am_mc 142) 53 = .ok (.aload_n 0, 1) := D142 31 rfl rfl rfl
theorem d142_54 : decode (am_mc 142) 54 = .ok (.getfield 59, 3) := D142 32 rfl rfl rfl
theorem d142_57 : decode (am_mc 142) 57 = .ok (.invokevirtual 220, 3) := D142 33 rfl rfl rfl
theorem d142_60 : decode (am_mc 142) 60 = .ok (.iconst 1, 1) := D142 34 rfl rfl rfl
theorem d142_61 : decode (am_mc 142) 61 = .ok (.iadd, 1) := D142 35 rfl rfl rfl
theorem d142_62 : decode (am_mc 142) 62 = .ok (.iconst 1, 1) := D142 36 rfl rfl rfl
theorem d142_63 : decode (am_mc 142) 63 = .ok (.invokevirtual 223, 3) := D142 37 rfl rfl rfl
theorem d142_66 : decode (am_mc 142) 66 = .ok (.iconst 0, 1) := D142 38 rfl rfl rfl
theorem d142_67 : decode (am_mc 142) 67 = .ok (.istore_n 2, 1) := D142 39 rfl rfl rfl
theorem d142_68 : decode (am_mc 142) 68 = .ok (.iload_n 2, 1) := D142 40 rfl rfl rfl
theorem d142_69 : decode (am_mc 142) 69 = .ok (.aload_n 0, 1) := D142 41 rfl rfl rfl
theorem d142_70 : decode (am_mc 142) 70 = .ok (.getfield 45, 3) := D142 42 rfl rfl rfl
theorem d142_73 : decode (am_mc 142) 73 = .ok (.invokevirtual 186, 3) := D142 43 rfl rfl rfl
theorem d142_76 : decode (am_mc 142) 76 = .ok (.if_icmp .ge 25, 3) := D142 44 rfl rfl rfl
theorem d142_79 : decode (am_mc 142) 79 = .ok (.aload_n 0, 1) := D142 45 rfl rfl rfl
theorem d142_80 : decode (am_mc 142) 80 = .ok (.getfield 59, 3) := D142 46 rfl rfl rfl
theorem d142_83 : decode (am_mc 142) 83 = .ok (.iload_n 1, 1) := D142 47 rfl rfl rfl
theorem d142_84 : decode (am_mc 142) 84 = .ok (.iconst 2, 1) := D142 48 rfl rfl rfl
theorem d142_85 : decode (am_mc 142) 85 = .ok (.isub, 1) := D142 49 rfl rfl rfl
theorem d142_86 : decode (am_mc 142) 86 = .ok (.aload_n 0, 1) := D142 50 rfl rfl rfl
theorem d142_87 : decode (am_mc 142) 87 = .ok (.iload_n 2, 1) := D142 51 rfl rfl rfl
theorem d142_88 : decode (am_mc 142) 88 = .ok (.invokevirtual 230, 3) := D142 52 rfl rfl rfl
theorem d142_91 : decode (am_mc 142) 91 = .ok (.iconst 1, 1) := D142 53 rfl rfl rfl
theorem d142_92 : decode (am_mc 142) 92 = .ok (.invokevirtual 233, 3) := D142 54 rfl rfl rfl
theorem d142_95 : decode (am_mc 142) 95 = .ok (.iinc 2 1, 3) := D142 55 rfl rfl rfl
theorem d142_98 : decode (am_mc 142) 98 = .ok (.goto (-30), 3) := D142 56 rfl rfl rfl
theorem d142_101 : decode (am_mc 142) 101 = .ok (.return_, 1) := D142 57 rfl rfl rfl
theorem ml142 : ∀ n, n < 3 → n < am_ml 142 := fun _ h => h
theorem mo142 : am_mo 142 = 0 := by decide +kernel
theorem rk142 : am_rk 142 = 0 := by decide +kernel
theorem rg142 : am_rcg 142 = 1 := by decide +kernel
theorem f0_52 : tb_f 0 52 = some (0, 6, 5, 9) := by decide +kernel
theorem m0_173 : tb_m 0 173 = some (135, 1, 1, 0) := by decide +kernel
theorem m0_186 : tb_m 0 186 = some (115, 1, 1, 0) := by decide +kernel
theorem m0_220 : tb_m 0 220 = some (136, 1, 1, 0) := by decide +kernel
theorem m0_223 : tb_m 0 223 = some (138, 6, 0, 0) := by decide +kernel
theorem m0_227 : tb_m 0 227 = some (123, 1, 1, 0) := by decide +kernel
theorem m0_230 : tb_m 0 230 = some (141, 2, 1, 0) := by decide +kernel
theorem m0_233 : tb_m 0 233 = some (137, 4, 0, 0) := by decide +kernel
theorem dp142_115 : am_md 115 + 1 ≤ am_md 142 ∧ 8 + (am_ml 115 + 11) + am_lr 115 ≤ am_lr 142 := by decide +kernel
theorem dp142_123 : am_md 123 + 1 ≤ am_md 142 ∧ 8 + (am_ml 123 + 11) + am_lr 123 ≤ am_lr 142 := by decide +kernel
theorem dp142_135 : am_md 135 + 1 ≤ am_md 142 ∧ 8 + (am_ml 135 + 11) + am_lr 135 ≤ am_lr 142 := by decide +kernel
theorem dp142_136 : am_md 136 + 1 ≤ am_md 142 ∧ 8 + (am_ml 136 + 11) + am_lr 136 ≤ am_lr 142 := by decide +kernel
theorem dp142_137 : am_md 137 + 1 ≤ am_md 142 ∧ 8 + (am_ml 137 + 11) + am_lr 137 ≤ am_lr 142 := by decide +kernel
theorem dp142_138 : am_md 138 + 1 ≤ am_md 142 ∧ 8 + (am_ml 138 + 11) + am_lr 138 ≤ am_lr 142 := by decide +kernel
theorem dp142_141 : am_md 141 + 1 ≤ am_md 142 ∧ 8 + (am_ml 141 + 11) + am_lr 141 ≤ am_lr 142 := by decide +kernel
def L142_68 (l0 : Nat) (l1 : Int) : Nat → Int → am_M → Option ((Int × am_M) ⊕ (Int × am_M))
  | 0, _, _ => none
  | n + 1, l2, μ => (am_op (fn115 (am_ref l0 5) μ) (fun z8 => (if l2 < z8.1 then (am_op (fn141 l0 l2 z8.2) (fun z9 => (am_op (fn137 (am_ref l0 7) (w32 (l1 - 2)) z9.1 1 z9.2) (fun z10 => (L142_68 l0 l1 n (w32 (l2 + 1)) z10.2))))) else (some (.inr (l2, z8.2))))))
theorem w142_68 {X : am_K} {C : am_C} {Q : State → Prop} (hG : am_G X C 142 0 0 (0, fun _ => 0)) (hr : match X with | (_, _, _, _, _, _, _, _, meth, _) => meth.sig.returnType = am_mr 142 ∧ meth.locks = false) (l0 : Nat) (l1 : Int) : ∀ (n : Nat) (l2 : Int) (μ : am_M) (r : (Int × am_M) ⊕ (Int × am_M)), L142_68 l0 l1 n l2 μ = some r → (∀ q, r = .inl q → Q = am_E X C 142 q.1 q.2) → (∀ t, r = .inr t → am_W X C 142 Q 0 0 101 [] [] t.2) → am_W X C 142 Q 0 0 68 [(0, .inr (.inr (0, l0))), (1, .inl l1), (2, .inl l2)] [] μ := by
  intro n
  induction n with
  | zero => intro l2 μ r h; cases h
  | succ n ih =>
    intro l2 μ r h hI hX
    unfold L142_68 at h
    exact (am_c_iload_n hG (pc := 68) d142_68 rfl (am_c_aload_n hG (pc := 69) d142_69 rfl (x_get_n (v := .inr (.inr (8, am_ref l0 5))) hG (pc := 70) d142_70 mo142 f0_45 rfl (x_virtual_i (t := 8) (o := am_ref l0 5) (as2 := []) (rest := [.inl l2]) hG (pc := 73) d142_73 mo142 m0_186 (by decide) dp142_115 rfl rfl (Nat.le_of_ble_eq_true rfl) (Nat.le_of_ble_eq_true rfl) rg115 sd115 (e115 _ _) h (fun z8 h => (x_icmp_ge (tgt := 101) hG (pc := 76) d142_76 rfl h (fun h => (am_lvw (lv2 := []) [] rfl (hX (l2, z8.2) (Option.some.inj h).symm))) (fun h => (am_c_aload_n hG (pc := 79) d142_79 rfl (x_get_n (v := .inr (.inr (10, am_ref l0 7))) hG (pc := 80) d142_80 mo142 f0_59 rfl (am_c_iload_n hG (pc := 83) d142_83 rfl (am_c_iconst hG (pc := 84) d142_84 (by decide) (am_c_isub hG (pc := 85) d142_85 (am_c_aload_n hG (pc := 86) d142_86 rfl (am_c_iload_n hG (pc := 87) d142_87 rfl (x_virtual_i (t := 0) (o := l0) (as2 := [.inl l2]) (rest := [.inl (w32 (l1 - 2)), .inr (.inr (10, am_ref l0 7))]) hG (pc := 88) d142_88 mo142 m0_230 (by decide) dp142_141 rfl rfl (Nat.le_of_ble_eq_true rfl) (Nat.le_of_ble_eq_true rfl) rg141 sd141 (e141 _ _ _) h (fun z9 h => (am_c_iconst hG (pc := 91) d142_91 (by decide) (x_virtual_v (t := 10) (o := am_ref l0 7) (as2 := [.inl (w32 (l1 - 2)), .inl z9.1, .inl 1]) (rest := []) hG (pc := 92) d142_92 mo142 m0_233 (by decide) dp142_137 rfl rfl (Nat.le_of_ble_eq_true rfl) (Nat.le_of_ble_eq_true rfl) rg137 sd137 (e137 _ _ _ _ _) h (fun z10 h => (x_iinc (lv' := [(2, .inl (w32 (l2 + 1))), (0, .inr (.inr (0, l0))), (1, .inl l1)]) hG (pc := 95) d142_95 rfl (ml142 _ (by decide)) rfl (x_goto (tgt := 68) hG (pc := 98) d142_98 rfl (am_lvw (lv2 := [(0, .inr (.inr (0, l0))), (1, .inl l1), (2, .inl (w32 (l2 + 1)))]) [1, 2, 0] rfl (ih _ _ _ h hI hX)))))))))))))))))))))))
def fn142 (o : Nat) (μ : am_M) : Option (Int × am_M) := (am_op (fn135 (am_ref o 6) μ) (fun z1 => (am_op (fn136 (am_ref o 7) z1.2) (fun z2 => (am_op (fn138 (am_ref o 7) (w32 (z1.1 - 1)) (w32 (z1.1 - 1)) 1 z2.1 1 z2.2) (fun z3 => (am_op (fn123 (am_ref o 7) z3.2) (fun z4 => (am_op (fn136 (am_ref o 7) z4.2) (fun z5 => (am_op (fn136 (am_ref o 7) z5.2) (fun z6 => (am_op (fn138 (am_ref o 7) (w32 (z1.1 - 1)) z4.1 (w32 (z5.1 + 1)) (w32 (z6.1 + 1)) 1 z6.2) (fun z7 => (am_op (L142_68 o z1.1 am_fuel 0 z7.2) (fun s => am_lp s (fun q1 => some q1) (fun t1 => some (0, t1.2))))))))))))))))))
def sp142 : am_F := fun vs μ => am_aR 0 vs fun o vs => am_a0 vs (fn142 o μ)
theorem e142 (o : Nat) (μ : am_M) : sp142 [.inr (.inr (0, o))] μ = fn142 o μ := am_aR_c.trans am_a0_c
theorem sd142 : am_Sd 142 sp142 := by
  refine am_Sd_of (by decide) (fun vs μ μ' x h hv hM => ?_)
  obtain ⟨o, vs0, rfl, h0⟩ := am_aR_s h
  obtain ⟨rfl, hz⟩ := am_a0_s h0
  refine ⟨Nat.le_of_ble_eq_true rfl, fun X C hG hr => ?_⟩
  have h := hz
  unfold fn142 at h
  exact (show am_W X C 142 _ 0 0 0 [(0, .inr (.inr (0, o)))] [] μ from (am_c_aload_n hG (pc := 0) d142_0 rfl (x_get_n (v := .inr (.inr (9, am_ref o 6))) hG (pc := 1) d142_1 mo142 f0_52 rfl (x_virtual_i (t := 9) (o := am_ref o 6) (as2 := []) (rest := []) hG (pc := 4) d142_4 mo142 m0_173 (by decide) dp142_135 rfl rfl (Nat.le_of_ble_eq_true rfl) (Nat.le_of_ble_eq_true rfl) rg135 sd135 (e135 _ _) h (fun z1 h => (x_istore_n (lv' := [(1, .inl z1.1), (0, .inr (.inr (0, o)))]) hG (pc := 7) d142_7 (ml142 _ (by decide)) rfl (am_c_aload_n hG (pc := 8) d142_8 rfl (x_get_n (v := .inr (.inr (10, am_ref o 7))) hG (pc := 9) d142_9 mo142 f0_59 rfl (am_c_iload_n hG (pc := 12) d142_12 rfl (am_c_iconst hG (pc := 13) d142_13 (by decide) (am_c_isub hG (pc := 14) d142_14 (am_c_iload_n hG (pc := 15) d142_15 rfl (am_c_iconst hG (pc := 16) d142_16 (by decide) (am_c_isub hG (pc := 17) d142_17 (am_c_iconst hG (pc := 18) d142_18 (by decide) (am_c_aload_n hG (pc := 19) d142_19 rfl (x_get_n (v := .inr (.inr (10, am_ref o 7))) hG (pc := 20) d142_20 mo142 f0_59 rfl (x_virtual_i (t := 10) (o := am_ref o 7) (as2 := []) (rest := [.inl 1, .inl (w32 (z1.1 - 1)), .inl (w32 (z1.1 - 1)), .inr (.inr (10, am_ref o 7))]) hG (pc := 23) d142_23 mo142 m0_220 (by decide) dp142_136 rfl rfl (Nat.le_of_ble_eq_true rfl) (Nat.le_of_ble_eq_true rfl) rg136 sd136 (e136 _ _) h (fun z2 h => (am_c_iconst hG (pc := 26) d142_26 (by decide) (x_virtual_v (t := 10) (o := am_ref o 7) (as2 := [.inl (w32 (z1.1 - 1)), .inl (w32 (z1.1 - 1)), .inl 1, .inl z2.1, .inl 1]) (rest := []) hG (pc := 27) d142_27 mo142 m0_223 (by decide) dp142_138 rfl rfl (Nat.le_of_ble_eq_true rfl) (Nat.le_of_ble_eq_true rfl) rg138 sd138 (e138 _ _ _ _ _ _ _) h (fun z3 h => (am_c_aload_n hG (pc := 30) d142_30 rfl (x_get_n (v := .inr (.inr (10, am_ref o 7))) hG (pc := 31) d142_31 mo142 f0_59 rfl (am_c_iload_n hG (pc := 34) d142_34 rfl (am_c_iconst hG (pc := 35) d142_35 (by decide) (am_c_isub hG (pc := 36) d142_36 (am_c_aload_n hG (pc := 37) d142_37 rfl (x_get_n (v := .inr (.inr (10, am_ref o 7))) hG (pc := 38) d142_38 mo142 f0_59 rfl (x_virtual_i (t := 10) (o := am_ref o 7) (as2 := []) (rest := [.inl (w32 (z1.1 - 1)), .inr (.inr (10, am_ref o 7))]) hG (pc := 41) d142_41 mo142 m0_227 (by decide) dp142_123 rfl rfl (Nat.le_of_ble_eq_true rfl) (Nat.le_of_ble_eq_true rfl) rg123 sd123 (e123 _ _) h (fun z4 h => (am_c_aload_n hG (pc := 44) d142_44 rfl (x_get_n (v := .inr (.inr (10, am_ref o 7))) hG (pc := 45) d142_45 mo142 f0_59 rfl (x_virtual_i (t := 10) (o := am_ref o 7) (as2 := []) (rest := [.inl z4.1, .inl (w32 (z1.1 - 1)), .inr (.inr (10, am_ref o 7))]) hG (pc := 48) d142_48 mo142 m0_220 (by decide) dp142_136 rfl rfl (Nat.le_of_ble_eq_true rfl) (Nat.le_of_ble_eq_true rfl) rg136 sd136 (e136 _ _) h (fun z5 h => (am_c_iconst hG (pc := 51) d142_51 (by decide) (am_c_iadd hG (pc := 52) d142_52 (am_c_aload_n hG (pc := 53) d142_53 rfl (x_get_n (v := .inr (.inr (10, am_ref o 7))) hG (pc := 54) d142_54 mo142 f0_59 rfl (x_virtual_i (t := 10) (o := am_ref o 7) (as2 := []) (rest := [.inl (w32 (z5.1 + 1)), .inl z4.1, .inl (w32 (z1.1 - 1)), .inr (.inr (10, am_ref o 7))]) hG (pc := 57) d142_57 mo142 m0_220 (by decide) dp142_136 rfl rfl (Nat.le_of_ble_eq_true rfl) (Nat.le_of_ble_eq_true rfl) rg136 sd136 (e136 _ _) h (fun z6 h => (am_c_iconst hG (pc := 60) d142_60 (by decide) (am_c_iadd hG (pc := 61) d142_61 (am_c_iconst hG (pc := 62) d142_62 (by decide) (x_virtual_v (t := 10) (o := am_ref o 7) (as2 := [.inl (w32 (z1.1 - 1)), .inl z4.1, .inl (w32 (z5.1 + 1)), .inl (w32 (z6.1 + 1)), .inl 1]) (rest := []) hG (pc := 63) d142_63 mo142 m0_223 (by decide) dp142_138 rfl rfl (Nat.le_of_ble_eq_true rfl) (Nat.le_of_ble_eq_true rfl) rg138 sd138 (e138 _ _ _ _ _ _ _) h (fun z7 h => (am_c_iconst hG (pc := 66) d142_66 (by decide) (x_istore_n (lv' := [(2, .inl 0), (1, .inl z1.1), (0, .inr (.inr (0, o)))]) hG (pc := 67) d142_67 (ml142 _ (by decide)) rfl (x_lp h (fun r h1 h2 => (am_lvw (lv2 := [(0, .inr (.inr (0, o))), (1, .inl z1.1), (2, .inl 0)]) [2, 1, 0] rfl (w142_68 hG hr _ _ _ _ _ _ h1 (fun q1 e => am_q1 e h2 (fun h => am_q0 h)) (fun t1 e => am_q2 e h2 (fun h => (xq_vret hG (by decide) hr (pc := 101) d142_101 rk142 (am_q0 h))))))))))))))))))))))))))))))))))))))))))))))))))))))))
/-! ChartPress$Sheet.writeGlyph(CII)V -/
theorem D143 (k : Nat) {pc : Nat} {i : Instr} (h : tbi143[k]? = some (pc, i)) (hs : am_isw i = false) {n : Nat} (hn : am_il i = n) : decode (am_mc 143) pc = .ok (i, n) := am_d2 (by decide) (by decide) rfl h hs hn
theorem d143_0 : decode (am_mc 143) 0 = .ok (.iload_n 1, 1) := D143 0 rfl rfl rfl
theorem d143_1 : decode (am_mc 143) 1 = .ok (.sipush 7919, 3) := D143 1 rfl rfl rfl
theorem d143_4 : decode (am_mc 143) 4 = .ok (.imul, 1) := D143 2 rfl rfl rfl
theorem d143_5 : decode (am_mc 143) 5 = .ok (.iconst 3, 1) := D143 3 rfl rfl rfl
theorem d143_6 : decode (am_mc 143) 6 = .ok (.ishr, 1) := D143 4 rfl rfl rfl
theorem d143_7 : decode (am_mc 143) 7 = .ok (.istore 4, 2) := D143 5 rfl rfl rfl
theorem d143_9 : decode (am_mc 143) 9 = .ok (.iconst 0, 1) := D143 6 rfl rfl rfl
theorem d143_10 : decode (am_mc 143) 10 = .ok (.istore 5, 2) := D143 7 rfl rfl rfl
theorem d143_12 : decode (am_mc 143) 12 = .ok (.iload 5, 2) := D143 8 rfl rfl rfl
theorem d143_14 : decode (am_mc 143) 14 = .ok (.iconst 5, 1) := D143 9 rfl rfl rfl
theorem d143_15 : decode (am_mc 143) 15 = .ok (.if_icmp .ge 53, 3) := D143 10 rfl rfl rfl
theorem d143_18 : decode (am_mc 143) 18 = .ok (.iconst 0, 1) := D143 11 rfl rfl rfl
theorem d143_19 : decode (am_mc 143) 19 = .ok (.istore 6, 2) := D143 12 rfl rfl rfl
theorem d143_21 : decode (am_mc 143) 21 = .ok (.iload 6, 2) := D143 13 rfl rfl rfl
theorem d143_23 : decode (am_mc 143) 23 = .ok (.iconst 3, 1) := D143 14 rfl rfl rfl
theorem d143_24 : decode (am_mc 143) 24 = .ok (.if_icmp .ge 38, 3) := D143 15 rfl rfl rfl
theorem d143_27 : decode (am_mc 143) 27 = .ok (.iload 4, 2) := D143 16 rfl rfl rfl
theorem d143_29 : decode (am_mc 143) 29 = .ok (.iconst 3, 1) := D143 17 rfl rfl rfl
theorem d143_30 : decode (am_mc 143) 30 = .ok (.iload 5, 2) := D143 18 rfl rfl rfl
theorem d143_32 : decode (am_mc 143) 32 = .ok (.imul, 1) := D143 19 rfl rfl rfl
theorem d143_33 : decode (am_mc 143) 33 = .ok (.iload 6, 2) := D143 20 rfl rfl rfl
theorem d143_35 : decode (am_mc 143) 35 = .ok (.iadd, 1) := D143 21 rfl rfl rfl
theorem d143_36 : decode (am_mc 143) 36 = .ok (.ishr, 1) := D143 22 rfl rfl rfl
theorem d143_37 : decode (am_mc 143) 37 = .ok (.iconst 1, 1) := D143 23 rfl rfl rfl
theorem d143_38 : decode (am_mc 143) 38 = .ok (.iand, 1) := D143 24 rfl rfl rfl
theorem d143_39 : decode (am_mc 143) 39 = .ok (.iconst 1, 1) := D143 25 rfl rfl rfl
theorem d143_40 : decode (am_mc 143) 40 = .ok (.if_icmp .ne 16, 3) := D143 26 rfl rfl rfl
theorem d143_43 : decode (am_mc 143) 43 = .ok (.aload_n 0, 1) := D143 27 rfl rfl rfl
theorem d143_44 : decode (am_mc 143) 44 = .ok (.iload_n 2, 1) := D143 28 rfl rfl rfl
theorem d143_45 : decode (am_mc 143) 45 = .ok (.iload 6, 2) := D143 29 rfl rfl rfl
theorem d143_47 : decode (am_mc 143) 47 = .ok (.iadd, 1) := D143 30 rfl rfl rfl
theorem d143_48 : decode (am_mc 143) 48 = .ok (.iload_n 3, 1) := D143 31 rfl rfl rfl
theorem d143_49 : decode (am_mc 143) 49 = .ok (.iload 5, 2) := D143 32 rfl rfl rfl
theorem d143_51 : decode (am_mc 143) 51 = .ok (.iadd, 1) := D143 33 rfl rfl rfl
theorem d143_52 : decode (am_mc 143) 52 = .ok (.iconst 2, 1) := D143 34 rfl rfl rfl
theorem d143_53 : decode (am_mc 143) 53 = .ok (.invokevirtual 32, 3) := D143 35 rfl rfl rfl
theorem d143_56 : decode (am_mc 143) 56 = .ok (.iinc 6 1, 3) := D143 36 rfl rfl rfl
theorem d143_59 : decode (am_mc 143) 59 = .ok (.goto (-38), 3) := D143 37 rfl rfl rfl
theorem d143_62 : decode (am_mc 143) 62 = .ok (.iinc 5 1, 3) := D143 38 rfl rfl rfl
theorem d143_65 : decode (am_mc 143) 65 = .ok (.goto (-53), 3) := D143 39 rfl rfl rfl
theorem d143_68 : decode (am_mc 143) 68 = .ok (.return_, 1) := D143 40 rfl rfl rfl
theorem ml143 : ∀ n, n < 7 → n < am_ml 143 := fun _ h => h
theorem mo143 : am_mo 143 = 10 := by decide +kernel
theorem rk143 : am_rk 143 = 0 := by decide +kernel
theorem rg143 : am_rcg 143 = 11 := by decide +kernel
theorem dp143_137 : am_md 137 + 1 ≤ am_md 143 ∧ 8 + (am_ml 137 + 11) + am_lr 137 ≤ am_lr 143 := by decide +kernel
def L143_21 (l0 : Nat) (l2 : Int) (l3 : Int) (l4 : Int) (l5 : Int) : Nat → Int → am_M → Option ((Int × am_M) ⊕ (Int × am_M))
  | 0, _, _ => none
  | n + 1, l6, μ => (if l6 < 3 then (if o_and (o_shr l4 (w32 ((w32 (3 * l5)) + l6))) 1 = 1 then (am_op (fn137 l0 (w32 (l2 + l6)) (w32 (l3 + l5)) 2 μ) (fun z1 => (L143_21 l0 l2 l3 l4 l5 n (w32 (l6 + 1)) z1.2))) else (L143_21 l0 l2 l3 l4 l5 n (w32 (l6 + 1)) μ)) else (some (.inr (l6, μ))))
theorem w143_21 {X : am_K} {C : am_C} {Q : State → Prop} (hG : am_G X C 143 0 0 (0, fun _ => 0)) (hr : match X with | (_, _, _, _, _, _, _, _, meth, _) => meth.sig.returnType = am_mr 143 ∧ meth.locks = false) (l0 : Nat) (l2 : Int) (l3 : Int) (l4 : Int) (l5 : Int) : ∀ (n : Nat) (l6 : Int) (μ : am_M) (r : (Int × am_M) ⊕ (Int × am_M)), L143_21 l0 l2 l3 l4 l5 n l6 μ = some r → (∀ q, r = .inl q → Q = am_E X C 143 q.1 q.2) → (∀ t, r = .inr t → am_W X C 143 Q 0 0 62 [(0, .inr (.inr (10, l0))), (2, .inl l2), (3, .inl l3), (4, .inl l4), (5, .inl l5)] [] t.2) → am_W X C 143 Q 0 0 21 [(0, .inr (.inr (10, l0))), (2, .inl l2), (3, .inl l3), (4, .inl l4), (5, .inl l5), (6, .inl l6)] [] μ := by
  intro n
  induction n with
  | zero => intro l6 μ r h; cases h
  | succ n ih =>
    intro l6 μ r h hI hX
    unfold L143_21 at h
    exact (am_c_iload hG (pc := 21) d143_21 rfl (am_c_iconst hG (pc := 23) d143_23 (by decide) (x_icmp_ge (tgt := 62) hG (pc := 24) d143_24 rfl h (fun h => (am_lvw (lv2 := [(0, .inr (.inr (10, l0))), (2, .inl l2), (3, .inl l3), (4, .inl l4), (5, .inl l5)]) [0, 1, 2, 3, 4] rfl (hX (l6, μ) (Option.some.inj h).symm))) (fun h => (am_c_iload hG (pc := 27) d143_27 rfl (am_c_iconst hG (pc := 29) d143_29 (by decide) (am_c_iload hG (pc := 30) d143_30 rfl (am_c_imul hG (pc := 32) d143_32 (am_c_iload hG (pc := 33) d143_33 rfl (am_c_iadd hG (pc := 35) d143_35 (am_c_ishr hG (pc := 36) d143_36 (am_c_iconst hG (pc := 37) d143_37 (by decide) (am_c_iand hG (pc := 38) d143_38 (am_c_iconst hG (pc := 39) d143_39 (by decide) (x_icmp_ne (tgt := 56) hG (pc := 40) d143_40 rfl h (fun h => (x_iinc (lv' := [(6, .inl (w32 (l6 + 1))), (0, .inr (.inr (10, l0))), (2, .inl l2), (3, .inl l3), (4, .inl l4), (5, .inl l5)]) hG (pc := 56) d143_56 rfl (ml143 _ (by decide)) rfl (x_goto (tgt := 21) hG (pc := 59) d143_59 rfl (am_lvw (lv2 := [(0, .inr (.inr (10, l0))), (2, .inl l2), (3, .inl l3), (4, .inl l4), (5, .inl l5), (6, .inl (w32 (l6 + 1)))]) [1, 2, 3, 4, 5, 0] rfl (ih _ _ _ h hI hX))))) (fun h => (am_c_aload_n hG (pc := 43) d143_43 rfl (am_c_iload_n hG (pc := 44) d143_44 rfl (am_c_iload hG (pc := 45) d143_45 rfl (am_c_iadd hG (pc := 47) d143_47 (am_c_iload_n hG (pc := 48) d143_48 rfl (am_c_iload hG (pc := 49) d143_49 rfl (am_c_iadd hG (pc := 51) d143_51 (am_c_iconst hG (pc := 52) d143_52 (by decide) (x_virtual_v (t := 10) (o := l0) (as2 := [.inl (w32 (l2 + l6)), .inl (w32 (l3 + l5)), .inl 2]) (rest := []) hG (pc := 53) d143_53 mo143 m10_32 (by decide) dp143_137 rfl rfl (Nat.le_of_ble_eq_true rfl) (Nat.le_of_ble_eq_true rfl) rg137 sd137 (e137 _ _ _ _ _) h (fun z1 h => (x_iinc (lv' := [(6, .inl (w32 (l6 + 1))), (0, .inr (.inr (10, l0))), (2, .inl l2), (3, .inl l3), (4, .inl l4), (5, .inl l5)]) hG (pc := 56) d143_56 rfl (ml143 _ (by decide)) rfl (x_goto (tgt := 21) hG (pc := 59) d143_59 rfl (am_lvw (lv2 := [(0, .inr (.inr (10, l0))), (2, .inl l2), (3, .inl l3), (4, .inl l4), (5, .inl l5), (6, .inl (w32 (l6 + 1)))]) [1, 2, 3, 4, 5, 0] rfl (ih _ _ _ h hI hX))))))))))))))))))))))))))))))
def L143_12 (l0 : Nat) (l2 : Int) (l3 : Int) (l4 : Int) : Nat → Int → am_M → Option ((Int × am_M) ⊕ (Int × am_M))
  | 0, _, _ => none
  | n + 1, l5, μ => (if l5 < 5 then (am_op (L143_21 l0 l2 l3 l4 l5 am_fuel 0 μ) (fun s => am_lp s (fun q1 => some (.inl q1)) (fun t1 => (L143_12 l0 l2 l3 l4 n (w32 (l5 + 1)) t1.2)))) else (some (.inr (l5, μ))))
theorem w143_12 {X : am_K} {C : am_C} {Q : State → Prop} (hG : am_G X C 143 0 0 (0, fun _ => 0)) (hr : match X with | (_, _, _, _, _, _, _, _, meth, _) => meth.sig.returnType = am_mr 143 ∧ meth.locks = false) (l0 : Nat) (l2 : Int) (l3 : Int) (l4 : Int) : ∀ (n : Nat) (l5 : Int) (μ : am_M) (r : (Int × am_M) ⊕ (Int × am_M)), L143_12 l0 l2 l3 l4 n l5 μ = some r → (∀ q, r = .inl q → Q = am_E X C 143 q.1 q.2) → (∀ t, r = .inr t → am_W X C 143 Q 0 0 68 [] [] t.2) → am_W X C 143 Q 0 0 12 [(0, .inr (.inr (10, l0))), (2, .inl l2), (3, .inl l3), (4, .inl l4), (5, .inl l5)] [] μ := by
  intro n
  induction n with
  | zero => intro l5 μ r h; cases h
  | succ n ih =>
    intro l5 μ r h hI hX
    unfold L143_12 at h
    exact (am_c_iload hG (pc := 12) d143_12 rfl (am_c_iconst hG (pc := 14) d143_14 (by decide) (x_icmp_ge (tgt := 68) hG (pc := 15) d143_15 rfl h (fun h => (am_lvw (lv2 := []) [] rfl (hX (l5, μ) (Option.some.inj h).symm))) (fun h => (am_c_iconst hG (pc := 18) d143_18 (by decide) (x_istore (lv' := [(6, .inl 0), (0, .inr (.inr (10, l0))), (2, .inl l2), (3, .inl l3), (4, .inl l4), (5, .inl l5)]) hG (pc := 19) d143_19 (ml143 _ (by decide)) rfl (x_lp h (fun r h1 h2 => (am_lvw (lv2 := [(0, .inr (.inr (10, l0))), (2, .inl l2), (3, .inl l3), (4, .inl l4), (5, .inl l5), (6, .inl 0)]) [1, 2, 3, 4, 5, 0] rfl (w143_21 hG hr _ _ _ _ _ _ _ _ _ h1 (fun q1 e => am_q1 e h2 (fun h => hI _ (Option.some.inj h).symm)) (fun t1 e => am_q2 e h2 (fun h => (x_iinc (lv' := [(5, .inl (w32 (l5 + 1))), (0, .inr (.inr (10, l0))), (2, .inl l2), (3, .inl l3), (4, .inl l4)]) hG (pc := 62) d143_62 rfl (ml143 _ (by decide)) rfl (x_goto (tgt := 12) hG (pc := 65) d143_65 rfl (am_lvw (lv2 := [(0, .inr (.inr (10, l0))), (2, .inl l2), (3, .inl l3), (4, .inl l4), (5, .inl (w32 (l5 + 1)))]) [1, 2, 3, 4, 0] rfl (ih _ _ _ h hI hX))))))))))))))))
def fn143 (o : Nat) (a : Int) (b : Int) (c : Int) (μ : am_M) : Option (Int × am_M) := (am_op (L143_12 o b c (o_shr (w32 (a * 7919)) 3) am_fuel 0 μ) (fun s => am_lp s (fun q2 => some q2) (fun t2 => some (0, t2.2))))
def sp143 : am_F := fun vs μ => am_aR 10 vs fun o vs => am_aI vs fun a vs => am_aI vs fun b vs => am_aI vs fun c vs => am_a0 vs (fn143 o a b c μ)
theorem e143 (o : Nat) (a : Int) (b : Int) (c : Int) (μ : am_M) : sp143 [.inr (.inr (10, o)), .inl a, .inl b, .inl c] μ = fn143 o a b c μ := am_aR_c.trans (am_aI_c.trans (am_aI_c.trans (am_aI_c.trans am_a0_c)))
theorem sd143 : am_Sd 143 sp143 := by
  refine am_Sd_of (by decide) (fun vs μ μ' x h hv hM => ?_)
  obtain ⟨o, vs0, rfl, h0⟩ := am_aR_s h
  obtain ⟨a, vs1, rfl, h1⟩ := am_aI_s h0
  obtain ⟨b, vs2, rfl, h2⟩ := am_aI_s h1
  obtain ⟨c, vs3, rfl, h3⟩ := am_aI_s h2
  obtain ⟨rfl, hz⟩ := am_a0_s h3
  refine ⟨Nat.le_of_ble_eq_true rfl, fun X C hG hr => ?_⟩
  have h := hz
  unfold fn143 at h
  exact (show am_W X C 143 _ 0 0 0 [(0, .inr (.inr (10, o))), (1, .inl a), (2, .inl b), (3, .inl c)] [] μ from (am_c_iload_n hG (pc := 0) d143_0 rfl (am_c_sipush hG (pc := 1) d143_1 (by decide) (am_c_imul hG (pc := 4) d143_4 (am_c_iconst hG (pc := 5) d143_5 (by decide) (am_c_ishr hG (pc := 6) d143_6 (x_istore (lv' := [(4, .inl (o_shr (w32 (a * 7919)) 3)), (0, .inr (.inr (10, o))), (1, .inl a), (2, .inl b), (3, .inl c)]) hG (pc := 7) d143_7 (ml143 _ (by decide)) rfl (am_c_iconst hG (pc := 9) d143_9 (by decide) (x_istore (lv' := [(5, .inl 0), (4, .inl (o_shr (w32 (a * 7919)) 3)), (0, .inr (.inr (10, o))), (1, .inl a), (2, .inl b), (3, .inl c)]) hG (pc := 10) d143_10 (ml143 _ (by decide)) rfl (x_lp h (fun r h1 h2 => (am_lvw (lv2 := [(0, .inr (.inr (10, o))), (2, .inl b), (3, .inl c), (4, .inl (o_shr (w32 (a * 7919)) 3)), (5, .inl 0)]) [2, 4, 5, 1, 0] rfl (w143_12 hG hr _ _ _ _ _ _ _ _ h1 (fun q2 e => am_q1 e h2 (fun h => am_q0 h)) (fun t2 e => am_q2 e h2 (fun h => (xq_vret hG (by decide) hr (pc := 68) d143_68 rk143 (am_q0 h)))))))))))))))))
/-! ChartPress$Sheet.write(LChartPress$Letters;II)V -/
theorem D144 (k : Nat) {pc : Nat} {i : Instr} (h : tbi144[k]? = some (pc, i)) (hs : am_isw i = false) {n : Nat} (hn : am_il i = n) : decode (am_mc 144) pc = .ok (i, n) := am_d2 (by decide) (by decide) rfl h hs hn
theorem d144_0 : decode (am_mc 144) 0 = .ok (.iconst 0, 1) := D144 0 rfl rfl rfl
theorem d144_1 : decode (am_mc 144) 1 = .ok (.istore 4, 2) := D144 1 rfl rfl rfl
theorem d144_3 : decode (am_mc 144) 3 = .ok (.iload 4, 2) := D144 2 rfl rfl rfl
theorem d144_5 : decode (am_mc 144) 5 = .ok (.aload_n 1, 1) := D144 3 rfl rfl rfl
theorem d144_6 : decode (am_mc 144) 6 = .ok (.invokevirtual 36, 3) := D144 4 rfl rfl rfl
theorem d144_9 : decode (am_mc 144) 9 = .ok (.if_icmp .ge 26, 3) := D144 5 rfl rfl rfl
theorem d144_12 : decode (am_mc 144) 12 = .ok (.aload_n 0, 1) := D144 6 rfl rfl rfl
theorem d144_13 : decode (am_mc 144) 13 = .ok (.aload_n 1, 1) := D144 7 rfl rfl rfl
theorem d144_14 : decode (am_mc 144) 14 = .ok (.iload 4, 2) := D144 8 rfl rfl rfl
theorem d144_16 : decode (am_mc 144) 16 = .ok (.invokevirtual 42, 3) := D144 9 rfl rfl rfl
theorem d144_19 : decode (am_mc 144) 19 = .ok (.iload_n 2, 1) := D144 10 rfl rfl rfl
theorem d144_20 : decode (am_mc 144) 20 = .ok (.iconst 4, 1) := D144 11 rfl rfl rfl
theorem d144_21 : decode (am_mc 144) 21 = .ok (.iload 4, 2) := D144 12 rfl rfl rfl
theorem d144_23 : decode (am_mc 144) 23 = .ok (.imul, 1) := D144 13 rfl rfl rfl
theorem d144_24 : decode (am_mc 144) 24 = .ok (.iadd, 1) := D144 14 rfl rfl rfl
theorem d144_25 : decode (am_mc 144) 25 = .ok (.iload_n 3, 1) := D144 15 rfl rfl rfl
theorem d144_26 : decode (am_mc 144) 26 = .ok (.invokevirtual 46, 3) := D144 16 rfl rfl rfl
theorem d144_29 : decode (am_mc 144) 29 = .ok (.iinc 4 1, 3) := D144 17 rfl rfl rfl
theorem d144_32 : decode (am_mc 144) 32 = .ok (.goto (-29), 3) := D144 18 rfl rfl rfl
theorem d144_35 : decode (am_mc 144) 35 = .ok (.return_, 1) := D144 19 rfl rfl rfl
theorem ml144 : ∀ n, n < 5 → n < am_ml 144 := fun _ h => h
theorem mo144 : am_mo 144 = 10 := by decide +kernel
theorem rk144 : am_rk 144 = 0 := by decide +kernel
theorem rg144 : am_rcg 144 = 11 := by decide +kernel
theorem m10_36 : tb_m 10 36 = some (21, 1, 1, 0) := by decide +kernel
theorem m10_42 : tb_m 10 42 = some (30, 2, 1, 0) := by decide +kernel
theorem m10_46 : tb_m 10 46 = some (143, 4, 0, 0) := by decide +kernel
theorem dp144_21 : am_md 21 + 1 ≤ am_md 144 ∧ 8 + (am_ml 21 + 11) + am_lr 21 ≤ am_lr 144 := by decide +kernel
theorem dp144_30 : am_md 30 + 1 ≤ am_md 144 ∧ 8 + (am_ml 30 + 11) + am_lr 30 ≤ am_lr 144 := by decide +kernel
theorem dp144_143 : am_md 143 + 1 ≤ am_md 144 ∧ 8 + (am_ml 143 + 11) + am_lr 143 ≤ am_lr 144 := by decide +kernel
def L144_3 (l0 : Nat) (l1 : Nat) (l2 : Int) (l3 : Int) : Nat → Int → am_M → Option ((Int × am_M) ⊕ (Int × am_M))
  | 0, _, _ => none
  | n + 1, l4, μ => (am_op (fn21 l1 μ) (fun z1 => (if l4 < z1.1 then (am_op (fn30 l1 l4 z1.2) (fun z2 => (am_op (fn143 l0 z2.1 (w32 (l2 + (w32 (4 * l4)))) l3 z2.2) (fun z3 => (L144_3 l0 l1 l2 l3 n (w32 (l4 + 1)) z3.2))))) else (some (.inr (l4, z1.2))))))
theorem w144_3 {X : am_K} {C : am_C} {Q : State → Prop} (hG : am_G X C 144 0 0 (0, fun _ => 0)) (hr : match X with | (_, _, _, _, _, _, _, _, meth, _) => meth.sig.returnType = am_mr 144 ∧ meth.locks = false) (l0 : Nat) (l1 : Nat) (l2 : Int) (l3 : Int) : ∀ (n : Nat) (l4 : Int) (μ : am_M) (r : (Int × am_M) ⊕ (Int × am_M)), L144_3 l0 l1 l2 l3 n l4 μ = some r → (∀ q, r = .inl q → Q = am_E X C 144 q.1 q.2) → (∀ t, r = .inr t → am_W X C 144 Q 0 0 35 [] [] t.2) → am_W X C 144 Q 0 0 3 [(0, .inr (.inr (10, l0))), (1, .inr (.inr (3, l1))), (2, .inl l2), (3, .inl l3), (4, .inl l4)] [] μ := by
  intro n
  induction n with
  | zero => intro l4 μ r h; cases h
  | succ n ih =>
    intro l4 μ r h hI hX
    unfold L144_3 at h
    exact (am_c_iload hG (pc := 3) d144_3 rfl (am_c_aload_n hG (pc := 5) d144_5 rfl (x_virtual_i (t := 3) (o := l1) (as2 := []) (rest := [.inl l4]) hG (pc := 6) d144_6 mo144 m10_36 (by decide) dp144_21 rfl rfl (Nat.le_of_ble_eq_true rfl) (Nat.le_of_ble_eq_true rfl) rg21 sd21 (e21 _ _) h (fun z1 h => (x_icmp_ge (tgt := 35) hG (pc := 9) d144_9 rfl h (fun h => (am_lvw (lv2 := []) [] rfl (hX (l4, z1.2) (Option.some.inj h).symm))) (fun h => (am_c_aload_n hG (pc := 12) d144_12 rfl (am_c_aload_n hG (pc := 13) d144_13 rfl (am_c_iload hG (pc := 14) d144_14 rfl (x_virtual_i (t := 3) (o := l1) (as2 := [.inl l4]) (rest := [.inr (.inr (10, l0))]) hG (pc := 16) d144_16 mo144 m10_42 (by decide) dp144_30 rfl rfl (Nat.le_of_ble_eq_true rfl) (Nat.le_of_ble_eq_true rfl) rg30 sd30 (e30 _ _ _) h (fun z2 h => (am_c_iload_n hG (pc := 19) d144_19 rfl (am_c_iconst hG (pc := 20) d144_20 (by decide) (am_c_iload hG (pc := 21) d144_21 rfl (am_c_imul hG (pc := 23) d144_23 (am_c_iadd hG (pc := 24) d144_24 (am_c_iload_n hG (pc := 25) d144_25 rfl (x_virtual_v (t := 10) (o := l0) (as2 := [.inl z2.1, .inl (w32 (l2 + (w32 (4 * l4)))), .inl l3]) (rest := []) hG (pc := 26) d144_26 mo144 m10_46 (by decide) dp144_143 rfl rfl (Nat.le_of_ble_eq_true rfl) (Nat.le_of_ble_eq_true rfl) rg143 sd143 (e143 _ _ _ _ _) h (fun z3 h => (x_iinc (lv' := [(4, .inl (w32 (l4 + 1))), (0, .inr (.inr (10, l0))), (1, .inr (.inr (3, l1))), (2, .inl l2), (3, .inl l3)]) hG (pc := 29) d144_29 rfl (ml144 _ (by decide)) rfl (x_goto (tgt := 3) hG (pc := 32) d144_32 rfl (am_lvw (lv2 := [(0, .inr (.inr (10, l0))), (1, .inr (.inr (3, l1))), (2, .inl l2), (3, .inl l3), (4, .inl (w32 (l4 + 1)))]) [1, 2, 3, 4, 0] rfl (ih _ _ _ h hI hX)))))))))))))))))))))))
def fn144 (o : Nat) (a : Nat) (b : Int) (c : Int) (μ : am_M) : Option (Int × am_M) := (am_op (L144_3 o a b c am_fuel 0 μ) (fun s => am_lp s (fun q1 => some q1) (fun t1 => some (0, t1.2))))
def sp144 : am_F := fun vs μ => am_aR 10 vs fun o vs => am_aR 3 vs fun a vs => am_aI vs fun b vs => am_aI vs fun c vs => am_a0 vs (fn144 o a b c μ)
theorem e144 (o : Nat) (a : Nat) (b : Int) (c : Int) (μ : am_M) : sp144 [.inr (.inr (10, o)), .inr (.inr (3, a)), .inl b, .inl c] μ = fn144 o a b c μ := am_aR_c.trans (am_aR_c.trans (am_aI_c.trans (am_aI_c.trans am_a0_c)))
theorem sd144 : am_Sd 144 sp144 := by
  refine am_Sd_of (by decide) (fun vs μ μ' x h hv hM => ?_)
  obtain ⟨o, vs0, rfl, h0⟩ := am_aR_s h
  obtain ⟨a, vs1, rfl, h1⟩ := am_aR_s h0
  obtain ⟨b, vs2, rfl, h2⟩ := am_aI_s h1
  obtain ⟨c, vs3, rfl, h3⟩ := am_aI_s h2
  obtain ⟨rfl, hz⟩ := am_a0_s h3
  refine ⟨Nat.le_of_ble_eq_true rfl, fun X C hG hr => ?_⟩
  have h := hz
  unfold fn144 at h
  exact (show am_W X C 144 _ 0 0 0 [(0, .inr (.inr (10, o))), (1, .inr (.inr (3, a))), (2, .inl b), (3, .inl c)] [] μ from (am_c_iconst hG (pc := 0) d144_0 (by decide) (x_istore (lv' := [(4, .inl 0), (0, .inr (.inr (10, o))), (1, .inr (.inr (3, a))), (2, .inl b), (3, .inl c)]) hG (pc := 1) d144_1 (ml144 _ (by decide)) rfl (x_lp h (fun r h1 h2 => (am_lvw (lv2 := [(0, .inr (.inr (10, o))), (1, .inr (.inr (3, a))), (2, .inl b), (3, .inl c), (4, .inl 0)]) [1, 2, 3, 4, 0] rfl (w144_3 hG hr _ _ _ _ _ _ _ _ h1 (fun q1 e => am_q1 e h2 (fun h => am_q0 h)) (fun t1 e => am_q2 e h2 (fun h => (xq_vret hG (by decide) hr (pc := 35) d144_35 rk144 (am_q0 h)))))))))))
/-! ChartPress.paintTickLabels()V -/
theorem D145 (k : Nat) {pc : Nat} {i : Instr} (h : tbi145[k]? = some (pc, i)) (hs : am_isw i = false) {n : Nat} (hn : am_il i = n) : decode (am_mc 145) pc = .ok (i, n) := am_d2 (by decide) (by decide) rfl h hs hn
theorem d145_0 : decode (am_mc 145) 0 = .ok (.aload_n 0, 1) := D145 0 rfl rfl rfl
theorem d145_1 : decode (am_mc 145) 1 = .ok (.getfield 59, 3) := D145 1 rfl rfl rfl
theorem d145_4 : decode (am_mc 145) 4 = .ok (.invokevirtual 237, 3) := D145 2 rfl rfl rfl
theorem d145_7 : decode (am_mc 145) 7 = .ok (.istore_n 1, 1) := D145 3 rfl rfl rfl
theorem d145_8 : decode (am_mc 145) 8 = .ok (.iconst 0, 1) := D145 4 rfl rfl rfl
theorem d145_9 : decode (am_mc 145) 9 = .ok (.istore_n 2, 1) := D145 5 rfl rfl rfl
theorem d145_10 : decode (am_mc 145) 10 = .ok (.iload_n 2, 1) := D145 6 rfl rfl rfl
theorem d145_11 : decode (am_mc 145) 11 = .ok (.aload_n 0, 1) := D145 7 rfl rfl rfl
theorem d145_12 : decode (am_mc 145) 12 = .ok (.getfield 45, 3) := D145 8 rfl rfl rfl
theorem d145_15 : decode (am_mc 145) 15 = .ok (.invokevirtual 186, 3) := D145 9 rfl rfl rfl
theorem d145_18 : decode (am_mc 145) 18 = .ok (.if_icmp .ge 82, 3) := D145 10 rfl rfl rfl
theorem d145_21 : decode (am_mc 145) 21 = .ok (.aload_n 0, 1) := D145 11 rfl rfl rfl
theorem d145_22 : decode (am_mc 145) 22 = .ok (.iload_n 2, 1) := D145 12 rfl rfl rfl
theorem d145_23 : decode (am_mc 145) 23 = .ok (.invokevirtual 230, 3) := D145 13 rfl rfl rfl
theorem d145_26 : decode (am_mc 145) 26 = .ok (.iconst 2, 1) := D145 14 rfl rfl rfl
theorem d145_27 : decode (am_mc 145) 27 = .ok (.isub, 1) := D145 15 rfl rfl rfl
theorem d145_28 : decode (am_mc 145) 28 = .ok (.istore_n 3, 1) := D145 16 rfl rfl rfl
theorem d145_29 : decode (am_mc 145) 29 = .ok (.iload_n 3, 1) := D145 17 rfl rfl rfl
theorem d145_30 : decode (am_mc 145) 30 = .ok (.iconst 5, 1) := D145 18 rfl rfl rfl
theorem d145_31 : decode (am_mc 145) 31 = .ok (.iadd, 1) := D145 19 rfl rfl rfl
theorem d145_32 : decode (am_mc 145) 32 = .ok (.iconst 1, 1) := D145 20 rfl rfl rfl
theorem d145_33 : decode (am_mc 145) 33 = .ok (.isub, 1) := D145 21 rfl rfl rfl
theorem d145_34 : decode (am_mc 145) 34 = .ok (.istore 4, 2) := D145 22 rfl rfl rfl
theorem d145_36 : decode (am_mc 145) 36 = .ok (.iload_n 3, 1) := D145 23 rfl rfl rfl
theorem d145_37 : decode (am_mc 145) 37 = .ok (.ifCond .lt 57, 3) := D145 24 rfl rfl rfl
theorem d145_40 : decode (am_mc 145) 40 = .ok (.iload 4, 2) := D145 25 rfl rfl rfl
theorem d145_42 : decode (am_mc 145) 42 = .ok (.iload_n 1, 1) := D145 26 rfl rfl rfl
theorem d145_43 : decode (am_mc 145) 43 = .ok (.if_icmp .ge 51, 3) := D145 27 rfl rfl rfl
theorem d145_46 : decode (am_mc 145) 46 = .ok (.aload_n 0, 1) := D145 28 rfl rfl rfl
theorem d145_47 : decode (am_mc 145) 47 = .ok (.getfield 68, 3) := D145 29 rfl rfl rfl
theorem d145_50 : decode (am_mc 145) 50 = .ok (.aload_n 0, 1) := D145 30 rfl rfl rfl
theorem d145_51 : decode (am_mc 145) 51 = .ok (.getfield 45, 3) := D145 31 rfl rfl rfl
theorem d145_54 : decode (am_mc 145) 54 = .ok (.iload_n 2, 1) := D145 32 rfl rfl rfl
theorem d145_55 : decode (am_mc 145) 55 = .ok (.invokevirtual 240, 3) := D145 33 rfl rfl rfl
theorem d145_58 : decode (am_mc 145) 58 = .ok (.invokevirtual 243, 3) := D145 34 rfl rfl rfl
theorem d145_61 : decode (am_mc 145) 61 = .ok (.aload_n 0, 1) := D145 35 rfl rfl rfl
theorem d145_62 : decode (am_mc 145) 62 = .ok (.getfield 59, 3) := D145 36 rfl rfl rfl
theorem d145_65 : decode (am_mc 145) 65 = .ok (.aload_n 0, 1) := D145 37 rfl rfl rfl
theorem d145_66 : decode (am_mc 145) 66 = .ok (.getfield 68, 3) := D145 38 rfl rfl rfl
theorem d145_69 : decode (am_mc 145) 69 = .ok (.aload_n 0, 1) := D145 39 rfl rfl rfl
theorem d145_70 : decode (am_mc 145) 70 = .ok (.getfield 52, 3) := D145 40 rfl rfl rfl
theorem d145_73 : decode (am_mc 145) 73 = .ok (.invokevirtual 173, 3) := D145 41 rfl rfl rfl
theorem d145_76 : decode (am_mc 145) 76 = .ok (.iconst 2, 1) := D145 42 rfl rfl rfl
theorem d145_77 : decode (am_mc 145) 77 = .ok (.isub, 1) := D145 43 rfl rfl rfl
theorem d145_78 : decode (am_mc 145) 78 = .ok (.aload_n 0, 1) := D145 44 rfl rfl rfl
theorem d145_79 : decode (am_mc 145) 79 = .ok (.getfield 68, 3) := D145 45 rfl rfl rfl
theorem d145_82 : decode (am_mc 145) 82 = .ok (.invokevirtual 247, 3) := D145 46 rfl rfl rfl
theorem d145_85 : decode (am_mc 145) 85 = .ok (.isub, 1) := D145 47 rfl rfl rfl
theorem d145_86 : decode (am_mc 145) 86 = .ok (.iload_n 3, 1) := D145 48 rfl rfl rfl
theorem d145_87 : decode (am_mc 145) 87 = .ok (.invokevirtual 250, 3) := D145 49 rfl rfl rfl
theorem d145_90 : decode (am_mc 145) 90 = .ok (.iload_n 3, 1) := D145 50 rfl rfl rfl
theorem d145_91 : decode (am_mc 145) 91 = .ok (.iconst 1, 1) := D145 51 rfl rfl rfl
theorem d145_92 : decode (am_mc 145) 92 = .ok (.isub, 1) := D145 52 rfl rfl rfl
theorem d145_93 : decode (am_mc 145) 93 = .ok (.istore_n 1, 1) := D145 53 rfl rfl rfl
theorem d145_94 : decode (am_mc 145) 94 = .ok (.iinc 2 1, 3) := D145 54 rfl rfl rfl
theorem d145_97 : decode (am_mc 145) 97 = .ok (.goto (-87), 3) := D145 55 rfl rfl rfl
theorem d145_100 : decode (am_mc 145) 100 = .ok (.return_, 1) := D145 56 rfl rfl rfl
theorem ml145 : ∀ n, n < 5 → n < am_ml 145 := fun _ h => h
theorem mo145 : am_mo 145 = 0 := by decide +kernel
theorem rk145 : am_rk 145 = 0 := by decide +kernel
theorem rg145 : am_rcg 145 = 1 := by decide +kernel
theorem f0_68 : tb_f 0 68 = some (0, 8, 5, 3) := by decide +kernel
theorem m0_243 : tb_m 0 243 = some (119, 2, 0, 0) := by decide +kernel
theorem m0_247 : tb_m 0 247 = some (120, 1, 1, 0) := by decide +kernel
theorem m0_250 : tb_m 0 250 = some (144, 4, 0, 0) := by decide +kernel
theorem dp145_115 : am_md 115 + 1 ≤ am_md 145 ∧ 8 + (am_ml 115 + 11) + am_lr 115 ≤ am_lr 145 := by decide +kernel
theorem dp145_116 : am_md 116 + 1 ≤ am_md 145 ∧ 8 + (am_ml 116 + 11) + am_lr 116 ≤ am_lr 145 := by decide +kernel
theorem dp145_119 : am_md 119 + 1 ≤ am_md 145 ∧ 8 + (am_ml 119 + 11) + am_lr 119 ≤ am_lr 145 := by decide +kernel
theorem dp145_120 : am_md 120 + 1 ≤ am_md 145 ∧ 8 + (am_ml 120 + 11) + am_lr 120 ≤ am_lr 145 := by decide +kernel
theorem dp145_135 : am_md 135 + 1 ≤ am_md 145 ∧ 8 + (am_ml 135 + 11) + am_lr 135 ≤ am_lr 145 := by decide +kernel
theorem dp145_139 : am_md 139 + 1 ≤ am_md 145 ∧ 8 + (am_ml 139 + 11) + am_lr 139 ≤ am_lr 145 := by decide +kernel
theorem dp145_141 : am_md 141 + 1 ≤ am_md 145 ∧ 8 + (am_ml 141 + 11) + am_lr 141 ≤ am_lr 145 := by decide +kernel
theorem dp145_144 : am_md 144 + 1 ≤ am_md 145 ∧ 8 + (am_ml 144 + 11) + am_lr 144 ≤ am_lr 145 := by decide +kernel
def L145_10 (l0 : Nat) : Nat → Int → Int → am_M → Option ((Int × am_M) ⊕ (Int × Int × am_M))
  | 0, _, _, _ => none
  | n + 1, l1, l2, μ => (am_op (fn115 (am_ref l0 5) μ) (fun z2 => (if l2 < z2.1 then (am_op (fn141 l0 l2 z2.2) (fun z3 => (if w32 (z3.1 - 2) < 0 then (L145_10 l0 n l1 (w32 (l2 + 1)) z3.2) else (if w32 ((w32 ((w32 (z3.1 - 2)) + 5)) - 1) < l1 then (am_op (fn116 (am_ref l0 5) l2 z3.2) (fun z4 => (am_op (fn119 (am_ref l0 8) z4.1 z4.2) (fun z5 => (am_op (fn135 (am_ref l0 6) z5.2) (fun z6 => (am_op (fn120 (am_ref l0 8) z6.2) (fun z7 => (am_op (fn144 (am_ref l0 7) (am_ref l0 8) (w32 ((w32 (z6.1 - 2)) - z7.1)) (w32 (z3.1 - 2)) z7.2) (fun z8 => (L145_10 l0 n (w32 ((w32 (z3.1 - 2)) - 1)) (w32 (l2 + 1)) z8.2))))))))))) else (L145_10 l0 n l1 (w32 (l2 + 1)) z3.2))))) else (some (.inr (l1, l2, z2.2))))))
theorem w145_10 {X : am_K} {C : am_C} {Q : State → Prop} (hG : am_G X C 145 0 0 (0, fun _ => 0)) (hr : match X with | (_, _, _, _, _, _, _, _, meth, _) => meth.sig.returnType = am_mr 145 ∧ meth.locks = false) (l0 : Nat) : ∀ (n : Nat) (l1 : Int) (l2 : Int) (μ : am_M) (r : (Int × am_M) ⊕ (Int × Int × am_M)), L145_10 l0 n l1 l2 μ = some r → (∀ q, r = .inl q → Q = am_E X C 145 q.1 q.2) → (∀ t, r = .inr t → am_W X C 145 Q 0 0 100 [] [] t.2.2) → am_W X C 145 Q 0 0 10 [(0, .inr (.inr (0, l0))), (1, .inl l1), (2, .inl l2)] [] μ := by
  intro n
  induction n with
  | zero => intro l1 l2 μ r h; cases h
  | succ n ih =>
    intro l1 l2 μ r h hI hX
    unfold L145_10 at h
    exact (am_c_iload_n hG (pc := 10) d145_10 rfl (am_c_aload_n hG (pc := 11) d145_11 rfl (x_get_n (v := .inr (.inr (8, am_ref l0 5))) hG (pc := 12) d145_12 mo145 f0_45 rfl (x_virtual_i (t := 8) (o := am_ref l0 5) (as2 := []) (rest := [.inl l2]) hG (pc := 15) d145_15 mo145 m0_186 (by decide) dp145_115 rfl rfl (Nat.le_of_ble_eq_true rfl) (Nat.le_of_ble_eq_true rfl) rg115 sd115 (e115 _ _) h (fun z2 h => (x_icmp_ge (tgt := 100) hG (pc := 18) d145_18 rfl h (fun h => (am_lvw (lv2 := []) [] rfl (hX (l1, l2, z2.2) (Option.some.inj h).symm))) (fun h => (am_c_aload_n hG (pc := 21) d145_21 rfl (am_c_iload_n hG (pc := 22) d145_22 rfl (x_virtual_i (t := 0) (o := l0) (as2 := [.inl l2]) (rest := []) hG (pc := 23) d145_23 mo145 m0_230 (by decide) dp145_141 rfl rfl (Nat.le_of_ble_eq_true rfl) (Nat.le_of_ble_eq_true rfl) rg141 sd141 (e141 _ _ _) h (fun z3 h => (am_c_iconst hG (pc := 26) d145_26 (by decide) (am_c_isub hG (pc := 27) d145_27 (x_istore_n (lv' := [(3, .inl (w32 (z3.1 - 2))), (0, .inr (.inr (0, l0))), (1, .inl l1), (2, .inl l2)]) hG (pc := 28) d145_28 (ml145 _ (by decide)) rfl (am_c_iload_n hG (pc := 29) d145_29 rfl (am_c_iconst hG (pc := 30) d145_30 (by decide) (am_c_iadd hG (pc := 31) d145_31 (am_c_iconst hG (pc := 32) d145_32 (by decide) (am_c_isub hG (pc := 33) d145_33 (x_istore (lv' := [(4, .inl (w32 ((w32 ((w32 (z3.1 - 2)) + 5)) - 1))), (3, .inl (w32 (z3.1 - 2))), (0, .inr (.inr (0, l0))), (1, .inl l1), (2, .inl l2)]) hG (pc := 34) d145_34 (ml145 _ (by decide)) rfl (am_c_iload_n hG (pc := 36) d145_36 rfl (x_if_lt (tgt := 94) hG (pc := 37) d145_37 rfl h (fun h => (x_iinc (lv' := [(2, .inl (w32 (l2 + 1))), (4, .inl (w32 ((w32 ((w32 (z3.1 - 2)) + 5)) - 1))), (3, .inl (w32 (z3.1 - 2))), (0, .inr (.inr (0, l0))), (1, .inl l1)]) hG (pc := 94) d145_94 rfl (ml145 _ (by decide)) rfl (x_goto (tgt := 10) hG (pc := 97) d145_97 rfl (am_lvw (lv2 := [(0, .inr (.inr (0, l0))), (1, .inl l1), (2, .inl (w32 (l2 + 1)))]) [3, 4, 0] rfl (ih _ _ _ _ h hI hX))))) (fun h => (am_c_iload hG (pc := 40) d145_40 rfl (am_c_iload_n hG (pc := 42) d145_42 rfl (x_icmp_ge (tgt := 94) hG (pc := 43) d145_43 rfl h (fun h => (x_iinc (lv' := [(2, .inl (w32 (l2 + 1))), (4, .inl (w32 ((w32 ((w32 (z3.1 - 2)) + 5)) - 1))), (3, .inl (w32 (z3.1 - 2))), (0, .inr (.inr (0, l0))), (1, .inl l1)]) hG (pc := 94) d145_94 rfl (ml145 _ (by decide)) rfl (x_goto (tgt := 10) hG (pc := 97) d145_97 rfl (am_lvw (lv2 := [(0, .inr (.inr (0, l0))), (1, .inl l1), (2, .inl (w32 (l2 + 1)))]) [3, 4, 0] rfl (ih _ _ _ _ h hI hX))))) (fun h => (am_c_aload_n hG (pc := 46) d145_46 rfl (x_get_n (v := .inr (.inr (3, am_ref l0 8))) hG (pc := 47) d145_47 mo145 f0_68 rfl (am_c_aload_n hG (pc := 50) d145_50 rfl (x_get_n (v := .inr (.inr (8, am_ref l0 5))) hG (pc := 51) d145_51 mo145 f0_45 rfl (am_c_iload_n hG (pc := 54) d145_54 rfl (x_virtual_l (t := 8) (o := am_ref l0 5) (as2 := [.inl l2]) (rest := [.inr (.inr (3, am_ref l0 8))]) hG (pc := 55) d145_55 mo145 m0_240 (by decide) dp145_116 rfl rfl (Nat.le_of_ble_eq_true rfl) (Nat.le_of_ble_eq_true rfl) rg116 sd116 (e116 _ _ _) h (fun z4 h => (x_virtual_v (t := 3) (o := am_ref l0 8) (as2 := [.inr (.inl z4.1)]) (rest := []) hG (pc := 58) d145_58 mo145 m0_243 (by decide) dp145_119 rfl rfl (Nat.le_of_ble_eq_true rfl) (Nat.le_of_ble_eq_true rfl) rg119 sd119 (e119 _ _ _) h (fun z5 h => (am_c_aload_n hG (pc := 61) d145_61 rfl (x_get_n (v := .inr (.inr (10, am_ref l0 7))) hG (pc := 62) d145_62 mo145 f0_59 rfl (am_c_aload_n hG (pc := 65) d145_65 rfl (x_get_n (v := .inr (.inr (3, am_ref l0 8))) hG (pc := 66) d145_66 mo145 f0_68 rfl (am_c_aload_n hG (pc := 69) d145_69 rfl (x_get_n (v := .inr (.inr (9, am_ref l0 6))) hG (pc := 70) d145_70 mo145 f0_52 rfl (x_virtual_i (t := 9) (o := am_ref l0 6) (as2 := []) (rest := [.inr (.inr (3, am_ref l0 8)), .inr (.inr (10, am_ref l0 7))]) hG (pc := 73) d145_73 mo145 m0_173 (by decide) dp145_135 rfl rfl (Nat.le_of_ble_eq_true rfl) (Nat.le_of_ble_eq_true rfl) rg135 sd135 (e135 _ _) h (fun z6 h => (am_c_iconst hG (pc := 76) d145_76 (by decide) (am_c_isub hG (pc := 77) d145_77 (am_c_aload_n hG (pc := 78) d145_78 rfl (x_get_n (v := .inr (.inr (3, am_ref l0 8))) hG (pc := 79) d145_79 mo145 f0_68 rfl (x_virtual_i (t := 3) (o := am_ref l0 8) (as2 := []) (rest := [.inl (w32 (z6.1 - 2)), .inr (.inr (3, am_ref l0 8)), .inr (.inr (10, am_ref l0 7))]) hG (pc := 82) d145_82 mo145 m0_247 (by decide) dp145_120 rfl rfl (Nat.le_of_ble_eq_true rfl) (Nat.le_of_ble_eq_true rfl) rg120 sd120 (e120 _ _) h (fun z7 h => (am_c_isub hG (pc := 85) d145_85 (am_c_iload_n hG (pc := 86) d145_86 rfl (x_virtual_v (t := 10) (o := am_ref l0 7) (as2 := [.inr (.inr (3, am_ref l0 8)), .inl (w32 ((w32 (z6.1 - 2)) - z7.1)), .inl (w32 (z3.1 - 2))]) (rest := []) hG (pc := 87) d145_87 mo145 m0_250 (by decide) dp145_144 rfl rfl (Nat.le_of_ble_eq_true rfl) (Nat.le_of_ble_eq_true rfl) rg144 sd144 (e144 _ _ _ _ _) h (fun z8 h => (am_c_iload_n hG (pc := 90) d145_90 rfl (am_c_iconst hG (pc := 91) d145_91 (by decide) (am_c_isub hG (pc := 92) d145_92 (x_istore_n (lv' := [(1, .inl (w32 ((w32 (z3.1 - 2)) - 1))), (4, .inl (w32 ((w32 ((w32 (z3.1 - 2)) + 5)) - 1))), (3, .inl (w32 (z3.1 - 2))), (0, .inr (.inr (0, l0))), (2, .inl l2)]) hG (pc := 93) d145_93 (ml145 _ (by decide)) rfl (x_iinc (lv' := [(2, .inl (w32 (l2 + 1))), (1, .inl (w32 ((w32 (z3.1 - 2)) - 1))), (4, .inl (w32 ((w32 ((w32 (z3.1 - 2)) + 5)) - 1))), (3, .inl (w32 (z3.1 - 2))), (0, .inr (.inr (0, l0)))]) hG (pc := 94) d145_94 rfl (ml145 _ (by decide)) rfl (x_goto (tgt := 10) hG (pc := 97) d145_97 rfl (am_lvw (lv2 := [(0, .inr (.inr (0, l0))), (1, .inl (w32 ((w32 (z3.1 - 2)) - 1))), (2, .inl (w32 (l2 + 1)))]) [4, 1, 0] rfl (ih _ _ _ _ h hI hX))))))))))))))))))))))))))))))))))))))))))))))))))))))))))))))
def fn145 (o : Nat) (μ : am_M) : Option (Int × am_M) := (am_op (fn139 (am_ref o 7) μ) (fun z1 => (am_op (L145_10 o am_fuel z1.1 0 z1.2) (fun s => am_lp s (fun q1 => some q1) (fun t1 => some (0, t1.2.2))))))
def sp145 : am_F := fun vs μ => am_aR 0 vs fun o vs => am_a0 vs (fn145 o μ)
theorem e145 (o : Nat) (μ : am_M) : sp145 [.inr (.inr (0, o))] μ = fn145 o μ := am_aR_c.trans am_a0_c
theorem sd145 : am_Sd 145 sp145 := by
  refine am_Sd_of (by decide) (fun vs μ μ' x h hv hM => ?_)
  obtain ⟨o, vs0, rfl, h0⟩ := am_aR_s h
  obtain ⟨rfl, hz⟩ := am_a0_s h0
  refine ⟨Nat.le_of_ble_eq_true rfl, fun X C hG hr => ?_⟩
  have h := hz
  unfold fn145 at h
  exact (show am_W X C 145 _ 0 0 0 [(0, .inr (.inr (0, o)))] [] μ from (am_c_aload_n hG (pc := 0) d145_0 rfl (x_get_n (v := .inr (.inr (10, am_ref o 7))) hG (pc := 1) d145_1 mo145 f0_59 rfl (x_virtual_i (t := 10) (o := am_ref o 7) (as2 := []) (rest := []) hG (pc := 4) d145_4 mo145 m0_237 (by decide) dp145_139 rfl rfl (Nat.le_of_ble_eq_true rfl) (Nat.le_of_ble_eq_true rfl) rg139 sd139 (e139 _ _) h (fun z1 h => (x_istore_n (lv' := [(1, .inl z1.1), (0, .inr (.inr (0, o)))]) hG (pc := 7) d145_7 (ml145 _ (by decide)) rfl (am_c_iconst hG (pc := 8) d145_8 (by decide) (x_istore_n (lv' := [(2, .inl 0), (1, .inl z1.1), (0, .inr (.inr (0, o)))]) hG (pc := 9) d145_9 (ml145 _ (by decide)) rfl (x_lp h (fun r h1 h2 => (am_lvw (lv2 := [(0, .inr (.inr (0, o))), (1, .inl z1.1), (2, .inl 0)]) [2, 1, 0] rfl (w145_10 hG hr _ _ _ _ _ _ h1 (fun q1 e => am_q1 e h2 (fun h => am_q0 h)) (fun t1 e => am_q2 e h2 (fun h => (xq_vret hG (by decide) hr (pc := 100) d145_100 rk145 (am_q0 h))))))))))))))))
/-! ChartPress$Layout.labelStride()I -/
theorem D146 (k : Nat) {pc : Nat} {i : Instr} (h : tbi146[k]? = some (pc, i)) (hs : am_isw i = false) {n : Nat} (hn : am_il i = n) : decode (am_mc 146) pc = .ok (i, n) := am_d2 (by decide) (by decide) rfl h hs hn
theorem d146_0 : decode (am_mc 146) 0 = .ok (.aload_n 0, 1) := D146 0 rfl rfl rfl
theorem d146_1 : decode (am_mc 146) 1 = .ok (.getfield 85, 3) := D146 1 rfl rfl rfl
theorem d146_4 : decode (am_mc 146) 4 = .ok (.ireturn, 1) := D146 2 rfl rfl rfl
theorem ml146 : ∀ n, n < 1 → n < am_ml 146 := fun _ h => h
theorem mo146 : am_mo 146 = 9 := by decide +kernel
theorem mr146 : am_mr 146 = some .int := by decide +kernel
theorem rg146 : am_rcg 146 = 10 := by decide +kernel
def fn146 (o : Nat) (μ : am_M) : Option (Int × am_M) := some (μ o 5, μ)
def sp146 : am_F := fun vs μ => am_aR 9 vs fun o vs => am_a0 vs (fn146 o μ)
theorem e146 (o : Nat) (μ : am_M) : sp146 [.inr (.inr (9, o))] μ = fn146 o μ := am_aR_c.trans am_a0_c
theorem sd146 : am_Sd 146 sp146 := by
  refine am_Sd_of (by decide) (fun vs μ μ' x h hv hM => ?_)
  obtain ⟨o, vs0, rfl, h0⟩ := am_aR_s h
  obtain ⟨rfl, hz⟩ := am_a0_s h0
  refine ⟨Nat.le_of_ble_eq_true rfl, fun X C hG hr => ?_⟩
  have h := hz
  unfold fn146 at h
  exact (show am_W X C 146 _ 0 0 0 [(0, .inr (.inr (9, o)))] [] μ from (am_c_aload_n hG (pc := 0) d146_0 rfl (x_get_n (v := .inl (μ o 5)) hG (pc := 1) d146_1 mo146 f9_85 rfl (xq_iret hG (by decide) hr (pc := 4) d146_4 mr146 (am_q0 h)))))
/-! ChartPress$Layout.labelStart(I)I -/
theorem D147 (k : Nat) {pc : Nat} {i : Instr} (h : tbi147[k]? = some (pc, i)) (hs : am_isw i = false) {n : Nat} (hn : am_il i = n) : decode (am_mc 147) pc = .ok (i, n) := am_d2 (by decide) (by decide) rfl h hs hn
theorem d147_0 : decode (am_mc 147) 0 = .ok (.iload_n 1, 1) := D147 0 rfl rfl rfl
theorem d147_1 : decode (am_mc 147) 1 = .ok (.ifCond .lt 21, 3) := D147 1 rfl rfl rfl
theorem d147_4 : decode (am_mc 147) 4 = .ok (.iload_n 1, 1) := D147 2 rfl rfl rfl
theorem d147_5 : decode (am_mc 147) 5 = .ok (.aload_n 0, 1) := D147 3 rfl rfl rfl
theorem d147_6 : decode (am_mc 147) 6 = .ok (.getfield 9, 3) := D147 4 rfl rfl rfl
theorem d147_9 : decode (am_mc 147) 9 = .ok (.arraylength, 1) := D147 5 rfl rfl rfl
theorem d147_10 : decode (am_mc 147) 10 = .ok (.if_icmp .ge 12, 3) := D147 6 rfl rfl rfl
theorem d147_13 : decode (am_mc 147) 13 = .ok (.aload_n 0, 1) := D147 7 rfl rfl rfl
theorem d147_14 : decode (am_mc 147) 14 = .ok (.getfield 9, 3) := D147 8 rfl rfl rfl
theorem d147_17 : decode (am_mc 147) 17 = .ok (.iload_n 1, 1) := D147 9 rfl rfl rfl
theorem d147_18 : decode (am_mc 147) 18 = .ok (.iaload, 1) := D147 10 rfl rfl rfl
theorem d147_19 : decode (am_mc 147) 19 = .ok (.goto 4, 3) := D147 11 rfl rfl rfl
theorem d147_22 : decode (am_mc 147) 22 = .ok (.iconst 0, 1) := D147 12 rfl rfl rfl
theorem d147_23 : decode (am_mc 147) 23 = .ok (.ireturn, 1) := D147 13 rfl rfl rfl
theorem ml147 : ∀ n, n < 2 → n < am_ml 147 := fun _ h => h
theorem mo147 : am_mo 147 = 9 := by decide +kernel
theorem mr147 : am_mr 147 = some .int := by decide +kernel
theorem rg147 : am_rcg 147 = 10 := by decide +kernel
def fn147 (o : Nat) (a : Int) (μ : am_M) : Option (Int × am_M) := (if a < 0 then some (0, μ) else (if a < ((am_len (am_ref o 0) : Nat) : Int) then (if (0 : Int) ≤ a ∧ a < ((am_len (am_ref o 0) : Nat) : Int) then some (μ (am_ref o 0) (a : Int).toNat, μ) else none) else some (0, μ)))
def sp147 : am_F := fun vs μ => am_aR 9 vs fun o vs => am_aI vs fun a vs => am_a0 vs (fn147 o a μ)
theorem e147 (o : Nat) (a : Int) (μ : am_M) : sp147 [.inr (.inr (9, o)), .inl a] μ = fn147 o a μ := am_aR_c.trans (am_aI_c.trans am_a0_c)
theorem sd147 : am_Sd 147 sp147 := by
  refine am_Sd_of (by decide) (fun vs μ μ' x h hv hM => ?_)
  obtain ⟨o, vs0, rfl, h0⟩ := am_aR_s h
  obtain ⟨a, vs1, rfl, h1⟩ := am_aI_s h0
  obtain ⟨rfl, hz⟩ := am_a0_s h1
  refine ⟨Nat.le_of_ble_eq_true rfl, fun X C hG hr => ?_⟩
  have h := hz
  unfold fn147 at h
  exact (show am_W X C 147 _ 0 0 0 [(0, .inr (.inr (9, o))), (1, .inl a)] [] μ from (am_c_iload_n hG (pc := 0) d147_0 rfl (x_if_lt (tgt := 22) hG (pc := 1) d147_1 rfl h (fun h => (am_c_iconst hG (pc := 22) d147_22 (by decide) (xq_iret hG (by decide) hr (pc := 23) d147_23 mr147 (am_q0 h)))) (fun h => (am_c_iload_n hG (pc := 4) d147_4 rfl (am_c_aload_n hG (pc := 5) d147_5 rfl (x_get_n (v := .inr (.inr (16, am_ref o 0))) hG (pc := 6) d147_6 mo147 f9_9 rfl (am_c_len hG (pc := 9) d147_9 (by decide) (x_icmp_ge (tgt := 22) hG (pc := 10) d147_10 rfl h (fun h => (am_c_iconst hG (pc := 22) d147_22 (by decide) (xq_iret hG (by decide) hr (pc := 23) d147_23 mr147 (am_q0 h)))) (fun h => (am_c_aload_n hG (pc := 13) d147_13 rfl (x_get_n (v := .inr (.inr (16, am_ref o 0))) hG (pc := 14) d147_14 mo147 f9_9 rfl (am_c_iload_n hG (pc := 17) d147_17 rfl (x_iaload hG (pc := 18) d147_18 h (fun h => (x_goto (tgt := 23) hG (pc := 19) d147_19 rfl (xq_iret hG (by decide) hr (pc := 23) d147_23 mr147 (am_q0 h))))))))))))))))))
/-! ChartPress$Sheet.labelRow()I -/
theorem D148 (k : Nat) {pc : Nat} {i : Instr} (h : tbi148[k]? = some (pc, i)) (hs : am_isw i = false) {n : Nat} (hn : am_il i = n) : decode (am_mc 148) pc = .ok (i, n) := am_d2 (by decide) (by decide) rfl h hs hn
theorem d148_0 : decode (am_mc 148) 0 = .ok (.aload_n 0, 1) := D148 0 rfl rfl rfl
theorem d148_1 : decode (am_mc 148) 1 = .ok (.getfield 19, 3) := D148 1 rfl rfl rfl
theorem d148_4 : decode (am_mc 148) 4 = .ok (.bipush 6, 2) := D148 2 rfl rfl rfl
theorem d148_6 : decode (am_mc 148) 6 = .ok (.isub, 1) := D148 3 rfl rfl rfl
theorem d148_7 : decode (am_mc 148) 7 = .ok (.ireturn, 1) := D148 4 rfl rfl rfl
theorem ml148 : ∀ n, n < 1 → n < am_ml 148 := fun _ h => h
theorem mo148 : am_mo 148 = 10 := by decide +kernel
theorem mr148 : am_mr 148 = some .int := by decide +kernel
theorem rg148 : am_rcg 148 = 11 := by decide +kernel
def fn148 (o : Nat) (μ : am_M) : Option (Int × am_M) := some (w32 ((μ o 2) - 6), μ)
def sp148 : am_F := fun vs μ => am_aR 10 vs fun o vs => am_a0 vs (fn148 o μ)
theorem e148 (o : Nat) (μ : am_M) : sp148 [.inr (.inr (10, o))] μ = fn148 o μ := am_aR_c.trans am_a0_c
theorem sd148 : am_Sd 148 sp148 := by
  refine am_Sd_of (by decide) (fun vs μ μ' x h hv hM => ?_)
  obtain ⟨o, vs0, rfl, h0⟩ := am_aR_s h
  obtain ⟨rfl, hz⟩ := am_a0_s h0
  refine ⟨Nat.le_of_ble_eq_true rfl, fun X C hG hr => ?_⟩
  have h := hz
  unfold fn148 at h
  exact (show am_W X C 148 _ 0 0 0 [(0, .inr (.inr (10, o)))] [] μ from (am_c_aload_n hG (pc := 0) d148_0 rfl (x_get_n (v := .inl (μ o 2)) hG (pc := 1) d148_1 mo148 f10_19 rfl (am_c_bipush hG (pc := 4) d148_4 (by decide) (am_c_isub hG (pc := 6) d148_6 (xq_iret hG (by decide) hr (pc := 7) d148_7 mr148 (am_q0 h)))))))
/-! ChartPress.paintGroupLabels()V -/
theorem D149 (k : Nat) {pc : Nat} {i : Instr} (h : tbi149[k]? = some (pc, i)) (hs : am_isw i = false) {n : Nat} (hn : am_il i = n) : decode (am_mc 149) pc = .ok (i, n) := am_d2 (by decide) (by decide) rfl h hs hn
theorem d149_0 : decode (am_mc 149) 0 = .ok (.aload_n 0, 1) := D149 0 rfl rfl rfl
theorem d149_1 : decode (am_mc 149) 1 = .ok (.getfield 52, 3) := D149 1 rfl rfl rfl
theorem d149_4 : decode (am_mc 149) 4 = .ok (.invokevirtual 189, 3) := D149 2 rfl rfl rfl
theorem d149_7 : decode (am_mc 149) 7 = .ok (.istore_n 1, 1) := D149 3 rfl rfl rfl
theorem d149_8 : decode (am_mc 149) 8 = .ok (.iconst 0, 1) := D149 4 rfl rfl rfl
theorem d149_9 : decode (am_mc 149) 9 = .ok (.istore_n 2, 1) := D149 5 rfl rfl rfl
theorem d149_10 : decode (am_mc 149) 10 = .ok (.iload_n 2, 1) := D149 6 rfl rfl rfl
theorem d149_11 : decode (am_mc 149) 11 = .ok (.aload_n 0, 1) := D149 7 rfl rfl rfl
theorem d149_12 : decode (am_mc 149) 12 = .ok (.getfield 38, 3) := D149 8 rfl rfl rfl
theorem d149_15 : decode (am_mc 149) 15 = .ok (.invokevirtual 129, 3) := D149 9 rfl rfl rfl
theorem d149_18 : decode (am_mc 149) 18 = .ok (.if_icmp .ge 49, 3) := D149 10 rfl rfl rfl
theorem d149_21 : decode (am_mc 149) 21 = .ok (.iload_n 1, 1) := D149 11 rfl rfl rfl
theorem d149_22 : decode (am_mc 149) 22 = .ok (.ifCond .le 39, 3) := D149 12 rfl rfl rfl
theorem d149_25 : decode (am_mc 149) 25 = .ok (.iload_n 2, 1) := D149 13 rfl rfl rfl
theorem d149_26 : decode (am_mc 149) 26 = .ok (.iload_n 1, 1) := D149 14 rfl rfl rfl
theorem d149_27 : decode (am_mc 149) 27 = .ok (.irem, 1) := D149 15 rfl rfl rfl
theorem d149_28 : decode (am_mc 149) 28 = .ok (.ifCond .ne 33, 3) := D149 16 rfl rfl rfl
theorem d149_31 : decode (am_mc 149) 31 = .ok (.aload_n 0, 1) := D149 17 rfl rfl rfl
theorem d149_32 : decode (am_mc 149) 32 = .ok (.getfield 59, 3) := D149 18 rfl rfl rfl
theorem d149_35 : decode (am_mc 149) 35 = .ok (.aload_n 0, 1) := D149 19 rfl rfl rfl
theorem d149_36 : decode (am_mc 149) 36 = .ok (.getfield 38, 3) := D149 20 rfl rfl rfl
theorem d149_39 : decode (am_mc 149) 39 = .ok (.iload_n 2, 1) := D149 21 rfl rfl rfl
theorem d149_40 : decode (am_mc 149) 40 = .ok (.invokevirtual 254, 3) := D149 22 rfl rfl rfl
theorem d149_43 : decode (am_mc 149) 43 = .ok (.aload_n 0, 1) := D149 23 rfl rfl rfl
theorem d149_44 : decode (am_mc 149) 44 = .ok (.getfield 52, 3) := D149 24 rfl rfl rfl
theorem d149_47 : decode (am_mc 149) 47 = .ok (.iload_n 2, 1) := D149 25 rfl rfl rfl
theorem d149_48 : decode (am_mc 149) 48 = .ok (.invokevirtual 258, 3) := D149 26 rfl rfl rfl
theorem d149_51 : decode (am_mc 149) 51 = .ok (.aload_n 0, 1) := D149 27 rfl rfl rfl
theorem d149_52 : decode (am_mc 149) 52 = .ok (.getfield 59, 3) := D149 28 rfl rfl rfl
theorem d149_55 : decode (am_mc 149) 55 = .ok (.invokevirtual 261, 3) := D149 29 rfl rfl rfl
theorem d149_58 : decode (am_mc 149) 58 = .ok (.invokevirtual 250, 3) := D149 30 rfl rfl rfl
theorem d149_61 : decode (am_mc 149) 61 = .ok (.iinc 2 1, 3) := D149 31 rfl rfl rfl
theorem d149_64 : decode (am_mc 149) 64 = .ok (.goto (-54), 3) := D149 32 rfl rfl rfl
theorem d149_67 : decode (am_mc 149) 67 = .ok (.return_, 1) := D149 33 rfl rfl rfl
theorem ml149 : ∀ n, n < 3 → n < am_ml 149 := fun _ h => h
theorem mo149 : am_mo 149 = 0 := by decide +kernel
theorem rk149 : am_rk 149 = 0 := by decide +kernel
theorem rg149 : am_rcg 149 = 1 := by decide +kernel
theorem f0_38 : tb_f 0 38 = some (0, 4, 5, 6) := by decide +kernel
theorem m0_129 : tb_m 0 129 = some (101, 1, 1, 0) := by decide +kernel
theorem m0_189 : tb_m 0 189 = some (146, 1, 1, 0) := by decide +kernel
theorem m0_254 : tb_m 0 254 = some (124, 2, 3, 3) := by decide +kernel
theorem m0_258 : tb_m 0 258 = some (147, 2, 1, 0) := by decide +kernel
theorem m0_261 : tb_m 0 261 = some (148, 1, 1, 0) := by decide +kernel
theorem dp149_101 : am_md 101 + 1 ≤ am_md 149 ∧ 8 + (am_ml 101 + 11) + am_lr 101 ≤ am_lr 149 := by decide +kernel
theorem dp149_124 : am_md 124 + 1 ≤ am_md 149 ∧ 8 + (am_ml 124 + 11) + am_lr 124 ≤ am_lr 149 := by decide +kernel
theorem dp149_144 : am_md 144 + 1 ≤ am_md 149 ∧ 8 + (am_ml 144 + 11) + am_lr 144 ≤ am_lr 149 := by decide +kernel
theorem dp149_146 : am_md 146 + 1 ≤ am_md 149 ∧ 8 + (am_ml 146 + 11) + am_lr 146 ≤ am_lr 149 := by decide +kernel
theorem dp149_147 : am_md 147 + 1 ≤ am_md 149 ∧ 8 + (am_ml 147 + 11) + am_lr 147 ≤ am_lr 149 := by decide +kernel
theorem dp149_148 : am_md 148 + 1 ≤ am_md 149 ∧ 8 + (am_ml 148 + 11) + am_lr 148 ≤ am_lr 149 := by decide +kernel
def L149_10 (l0 : Nat) (l1 : Int) : Nat → Int → am_M → Option ((Int × am_M) ⊕ (Int × am_M))
  | 0, _, _ => none
  | n + 1, l2, μ => (am_op (fn101 (am_ref l0 4) μ) (fun z2 => (if l2 < z2.1 then (if 0 < l1 then (if l1 = 0 then none else (if o_rem l2 l1 = 0 then (am_op (fn124 (am_ref l0 4) l2 z2.2) (fun z3 => (am_op (fn147 (am_ref l0 6) l2 z3.2) (fun z4 => (am_op (fn148 (am_ref l0 7) z4.2) (fun z5 => (am_op (fn144 (am_ref l0 7) z3.1.toNat z4.1 z5.1 z5.2) (fun z6 => (L149_10 l0 l1 n (w32 (l2 + 1)) z6.2))))))))) else (L149_10 l0 l1 n (w32 (l2 + 1)) z2.2))) else (L149_10 l0 l1 n (w32 (l2 + 1)) z2.2)) else (some (.inr (l2, z2.2))))))
theorem w149_10 {X : am_K} {C : am_C} {Q : State → Prop} (hG : am_G X C 149 0 0 (0, fun _ => 0)) (hr : match X with | (_, _, _, _, _, _, _, _, meth, _) => meth.sig.returnType = am_mr 149 ∧ meth.locks = false) (l0 : Nat) (l1 : Int) : ∀ (n : Nat) (l2 : Int) (μ : am_M) (r : (Int × am_M) ⊕ (Int × am_M)), L149_10 l0 l1 n l2 μ = some r → (∀ q, r = .inl q → Q = am_E X C 149 q.1 q.2) → (∀ t, r = .inr t → am_W X C 149 Q 0 0 67 [] [] t.2) → am_W X C 149 Q 0 0 10 [(0, .inr (.inr (0, l0))), (1, .inl l1), (2, .inl l2)] [] μ := by
  intro n
  induction n with
  | zero => intro l2 μ r h; cases h
  | succ n ih =>
    intro l2 μ r h hI hX
    unfold L149_10 at h
    exact (am_c_iload_n hG (pc := 10) d149_10 rfl (am_c_aload_n hG (pc := 11) d149_11 rfl (x_get_n (v := .inr (.inr (6, am_ref l0 4))) hG (pc := 12) d149_12 mo149 f0_38 rfl (x_virtual_i (t := 6) (o := am_ref l0 4) (as2 := []) (rest := [.inl l2]) hG (pc := 15) d149_15 mo149 m0_129 (by decide) dp149_101 rfl rfl (Nat.le_of_ble_eq_true rfl) (Nat.le_of_ble_eq_true rfl) rg101 sd101 (e101 _ _) h (fun z2 h => (x_icmp_ge (tgt := 67) hG (pc := 18) d149_18 rfl h (fun h => (am_lvw (lv2 := []) [] rfl (hX (l2, z2.2) (Option.some.inj h).symm))) (fun h => (am_c_iload_n hG (pc := 21) d149_21 rfl (x_if_le (tgt := 61) hG (pc := 22) d149_22 rfl h (fun h => (x_iinc (lv' := [(2, .inl (w32 (l2 + 1))), (0, .inr (.inr (0, l0))), (1, .inl l1)]) hG (pc := 61) d149_61 rfl (ml149 _ (by decide)) rfl (x_goto (tgt := 10) hG (pc := 64) d149_64 rfl (am_lvw (lv2 := [(0, .inr (.inr (0, l0))), (1, .inl l1), (2, .inl (w32 (l2 + 1)))]) [1, 2, 0] rfl (ih _ _ _ h hI hX))))) (fun h => (am_c_iload_n hG (pc := 25) d149_25 rfl (am_c_iload_n hG (pc := 26) d149_26 rfl (x_irem hG (pc := 27) d149_27 h (fun h => (x_if_ne (tgt := 61) hG (pc := 28) d149_28 rfl h (fun h => (x_iinc (lv' := [(2, .inl (w32 (l2 + 1))), (0, .inr (.inr (0, l0))), (1, .inl l1)]) hG (pc := 61) d149_61 rfl (ml149 _ (by decide)) rfl (x_goto (tgt := 10) hG (pc := 64) d149_64 rfl (am_lvw (lv2 := [(0, .inr (.inr (0, l0))), (1, .inl l1), (2, .inl (w32 (l2 + 1)))]) [1, 2, 0] rfl (ih _ _ _ h hI hX))))) (fun h => (am_c_aload_n hG (pc := 31) d149_31 rfl (x_get_n (v := .inr (.inr (10, am_ref l0 7))) hG (pc := 32) d149_32 mo149 f0_59 rfl (am_c_aload_n hG (pc := 35) d149_35 rfl (x_get_n (v := .inr (.inr (6, am_ref l0 4))) hG (pc := 36) d149_36 mo149 f0_38 rfl (am_c_iload_n hG (pc := 39) d149_39 rfl (x_virtual_r (t := 6) (o := am_ref l0 4) (as2 := [.inl l2]) (rest := [.inr (.inr (10, am_ref l0 7))]) hG (pc := 40) d149_40 mo149 m0_254 (by decide) dp149_124 rfl rfl (Nat.le_of_ble_eq_true rfl) (Nat.le_of_ble_eq_true rfl) rg124 sd124 (e124 _ _ _) h (fun z3 h => (am_c_aload_n hG (pc := 43) d149_43 rfl (x_get_n (v := .inr (.inr (9, am_ref l0 6))) hG (pc := 44) d149_44 mo149 f0_52 rfl (am_c_iload_n hG (pc := 47) d149_47 rfl (x_virtual_i (t := 9) (o := am_ref l0 6) (as2 := [.inl l2]) (rest := [.inr (.inr (3, z3.1.toNat)), .inr (.inr (10, am_ref l0 7))]) hG (pc := 48) d149_48 mo149 m0_258 (by decide) dp149_147 rfl rfl (Nat.le_of_ble_eq_true rfl) (Nat.le_of_ble_eq_true rfl) rg147 sd147 (e147 _ _ _) h (fun z4 h => (am_c_aload_n hG (pc := 51) d149_51 rfl (x_get_n (v := .inr (.inr (10, am_ref l0 7))) hG (pc := 52) d149_52 mo149 f0_59 rfl (x_virtual_i (t := 10) (o := am_ref l0 7) (as2 := []) (rest := [.inl z4.1, .inr (.inr (3, z3.1.toNat)), .inr (.inr (10, am_ref l0 7))]) hG (pc := 55) d149_55 mo149 m0_261 (by decide) dp149_148 rfl rfl (Nat.le_of_ble_eq_true rfl) (Nat.le_of_ble_eq_true rfl) rg148 sd148 (e148 _ _) h (fun z5 h => (x_virtual_v (t := 10) (o := am_ref l0 7) (as2 := [.inr (.inr (3, z3.1.toNat)), .inl z4.1, .inl z5.1]) (rest := []) hG (pc := 58) d149_58 mo149 m0_250 (by decide) dp149_144 rfl rfl (Nat.le_of_ble_eq_true rfl) (Nat.le_of_ble_eq_true rfl) rg144 sd144 (e144 _ _ _ _ _) h (fun z6 h => (x_iinc (lv' := [(2, .inl (w32 (l2 + 1))), (0, .inr (.inr (0, l0))), (1, .inl l1)]) hG (pc := 61) d149_61 rfl (ml149 _ (by decide)) rfl (x_goto (tgt := 10) hG (pc := 64) d149_64 rfl (am_lvw (lv2 := [(0, .inr (.inr (0, l0))), (1, .inl l1), (2, .inl (w32 (l2 + 1)))]) [1, 2, 0] rfl (ih _ _ _ h hI hX))))))))))))))))))))))))))))))))))))))
def fn149 (o : Nat) (μ : am_M) : Option (Int × am_M) := (am_op (fn146 (am_ref o 6) μ) (fun z1 => (am_op (L149_10 o z1.1 am_fuel 0 z1.2) (fun s => am_lp s (fun q1 => some q1) (fun t1 => some (0, t1.2))))))
def sp149 : am_F := fun vs μ => am_aR 0 vs fun o vs => am_a0 vs (fn149 o μ)
theorem e149 (o : Nat) (μ : am_M) : sp149 [.inr (.inr (0, o))] μ = fn149 o μ := am_aR_c.trans am_a0_c
theorem sd149 : am_Sd 149 sp149 := by
  refine am_Sd_of (by decide) (fun vs μ μ' x h hv hM => ?_)
  obtain ⟨o, vs0, rfl, h0⟩ := am_aR_s h
  obtain ⟨rfl, hz⟩ := am_a0_s h0
  refine ⟨Nat.le_of_ble_eq_true rfl, fun X C hG hr => ?_⟩
  have h := hz
  unfold fn149 at h
  exact (show am_W X C 149 _ 0 0 0 [(0, .inr (.inr (0, o)))] [] μ from (am_c_aload_n hG (pc := 0) d149_0 rfl (x_get_n (v := .inr (.inr (9, am_ref o 6))) hG (pc := 1) d149_1 mo149 f0_52 rfl (x_virtual_i (t := 9) (o := am_ref o 6) (as2 := []) (rest := []) hG (pc := 4) d149_4 mo149 m0_189 (by decide) dp149_146 rfl rfl (Nat.le_of_ble_eq_true rfl) (Nat.le_of_ble_eq_true rfl) rg146 sd146 (e146 _ _) h (fun z1 h => (x_istore_n (lv' := [(1, .inl z1.1), (0, .inr (.inr (0, o)))]) hG (pc := 7) d149_7 (ml149 _ (by decide)) rfl (am_c_iconst hG (pc := 8) d149_8 (by decide) (x_istore_n (lv' := [(2, .inl 0), (1, .inl z1.1), (0, .inr (.inr (0, o)))]) hG (pc := 9) d149_9 (ml149 _ (by decide)) rfl (x_lp h (fun r h1 h2 => (am_lvw (lv2 := [(0, .inr (.inr (0, o))), (1, .inl z1.1), (2, .inl 0)]) [2, 1, 0] rfl (w149_10 hG hr _ _ _ _ _ _ h1 (fun q1 e => am_q1 e h2 (fun h => am_q0 h)) (fun t1 e => am_q2 e h2 (fun h => (xq_vret hG (by decide) hr (pc := 67) d149_67 rk149 (am_q0 h))))))))))))))))
/-! ChartPress.paintSegment(IJJI)V -/
theorem D150 (k : Nat) {pc : Nat} {i : Instr} (h : tbi150[k]? = some (pc, i)) (hs : am_isw i = false) {n : Nat} (hn : am_il i = n) : decode (am_mc 150) pc = .ok (i, n) := am_d2 (by decide) (by decide) rfl h hs hn
theorem d150_0 : decode (am_mc 150) 0 = .ok (.aload_n 0, 1) := D150 0 rfl rfl rfl
theorem d150_1 : decode (am_mc 150) 1 = .ok (.getfield 45, 3) := D150 1 rfl rfl rfl
theorem d150_4 : decode (am_mc 150) 4 = .ok (.lload_n 2, 1) := D150 2 rfl rfl rfl
theorem d150_5 : decode (am_mc 150) 5 = .ok (.aload_n 0, 1) := D150 3 rfl rfl rfl
theorem d150_6 : decode (am_mc 150) 6 = .ok (.getfield 59, 3) := D150 4 rfl rfl rfl
theorem d150_9 : decode (am_mc 150) 9 = .ok (.invokevirtual 237, 3) := D150 5 rfl rfl rfl
theorem d150_12 : decode (am_mc 150) 12 = .ok (.invokevirtual 275, 3) := D150 6 rfl rfl rfl
theorem d150_15 : decode (am_mc 150) 15 = .ok (.istore 7, 2) := D150 7 rfl rfl rfl
theorem d150_17 : decode (am_mc 150) 17 = .ok (.aload_n 0, 1) := D150 8 rfl rfl rfl
theorem d150_18 : decode (am_mc 150) 18 = .ok (.getfield 45, 3) := D150 9 rfl rfl rfl
theorem d150_21 : decode (am_mc 150) 21 = .ok (.lload 4, 2) := D150 10 rfl rfl rfl
theorem d150_23 : decode (am_mc 150) 23 = .ok (.aload_n 0, 1) := D150 11 rfl rfl rfl
theorem d150_24 : decode (am_mc 150) 24 = .ok (.getfield 59, 3) := D150 12 rfl rfl rfl
theorem d150_27 : decode (am_mc 150) 27 = .ok (.invokevirtual 237, 3) := D150 13 rfl rfl rfl
theorem d150_30 : decode (am_mc 150) 30 = .ok (.invokevirtual 275, 3) := D150 14 rfl rfl rfl
theorem d150_33 : decode (am_mc 150) 33 = .ok (.istore 8, 2) := D150 15 rfl rfl rfl
theorem d150_35 : decode (am_mc 150) 35 = .ok (.lload_n 2, 1) := D150 16 rfl rfl rfl
theorem d150_36 : decode (am_mc 150) 36 = .ok (.lconst 0, 1) := D150 17 rfl rfl rfl
theorem d150_37 : decode (am_mc 150) 37 = .ok (.lcmp, 1) := D150 18 rfl rfl rfl
theorem d150_38 : decode (am_mc 150) 38 = .ok (.ifCond .eq 27, 3) := D150 19 rfl rfl rfl
theorem d150_41 : decode (am_mc 150) 41 = .ok (.iload 7, 2) := D150 20 rfl rfl rfl
theorem d150_43 : decode (am_mc 150) 43 = .ok (.iload 8, 2) := D150 21 rfl rfl rfl
theorem d150_45 : decode (am_mc 150) 45 = .ok (.if_icmp .eq 20, 3) := D150 22 rfl rfl rfl
theorem d150_48 : decode (am_mc 150) 48 = .ok (.iload 7, 2) := D150 23 rfl rfl rfl
theorem d150_50 : decode (am_mc 150) 50 = .ok (.iload 8, 2) := D150 24 rfl rfl rfl
theorem d150_52 : decode (am_mc 150) 52 = .ok (.iload 7, 2) := D150 25 rfl rfl rfl
theorem d150_54 : decode (am_mc 150) 54 = .ok (.if_icmp .ge 7, 3) := D150 26 rfl rfl rfl
theorem d150_57 : decode (am_mc 150) 57 = .ok (.iconst (-1), 1) := D150 27 rfl rfl rfl
theorem d150_58 : decode (am_mc 150) 58 = .ok (.goto 4, 3) := D150 28 rfl rfl rfl
theorem d150_61 : decode (am_mc 150) 61 = .ok (.iconst 1, 1) := D150 29 rfl rfl rfl
theorem d150_62 : decode (am_mc 150) 62 = .ok (.iadd, 1) := D150 30 rfl rfl rfl
theorem d150_63 : decode (am_mc 150) 63 = .ok (.istore 7, 2) := D150 31 rfl rfl rfl
theorem d150_65 : decode (am_mc 150) 65 = .ok (.aload_n 0, 1) := D150 32 rfl rfl rfl
theorem d150_66 : decode (am_mc 150) 66 = .ok (.getfield 52, 3) := D150 33 rfl rfl rfl
theorem d150_69 : decode (am_mc 150) 69 = .ok (.iload_n 1, 1) := D150 34 rfl rfl rfl
theorem d150_70 : decode (am_mc 150) 70 = .ok (.invokevirtual 279, 3) := D150 35 rfl rfl rfl
theorem d150_73 : decode (am_mc 150) 73 = .ok (.istore 9, 2) := D150 36 rfl rfl rfl
theorem d150_75 : decode (am_mc 150) 75 = .ok (.aload_n 0, 1) := D150 37 rfl rfl rfl
theorem d150_76 : decode (am_mc 150) 76 = .ok (.getfield 52, 3) := D150 38 rfl rfl rfl
theorem d150_79 : decode (am_mc 150) 79 = .ok (.iload_n 1, 1) := D150 39 rfl rfl rfl
theorem d150_80 : decode (am_mc 150) 80 = .ok (.invokevirtual 282, 3) := D150 40 rfl rfl rfl
theorem d150_83 : decode (am_mc 150) 83 = .ok (.istore 10, 2) := D150 41 rfl rfl rfl
theorem d150_85 : decode (am_mc 150) 85 = .ok (.iload 10, 2) := D150 42 rfl rfl rfl
theorem d150_87 : decode (am_mc 150) 87 = .ok (.iload 9, 2) := D150 43 rfl rfl rfl
theorem d150_89 : decode (am_mc 150) 89 = .ok (.if_icmp .le 10, 3) := D150 44 rfl rfl rfl
theorem d150_92 : decode (am_mc 150) 92 = .ok (.iload 10, 2) := D150 45 rfl rfl rfl
theorem d150_94 : decode (am_mc 150) 94 = .ok (.iconst 1, 1) := D150 46 rfl rfl rfl
theorem d150_95 : decode (am_mc 150) 95 = .ok (.isub, 1) := D150 47 rfl rfl rfl
theorem d150_96 : decode (am_mc 150) 96 = .ok (.goto 5, 3) := D150 48 rfl rfl rfl
theorem d150_99 : decode (am_mc 150) 99 = .ok (.iload 10, 2) := D150 49 rfl rfl rfl
theorem d150_101 : decode (am_mc 150) 101 = .ok (.istore 11, 2) := D150 50 rfl rfl rfl
theorem d150_103 : decode (am_mc 150) 103 = .ok (.aload_n 0, 1) := D150 51 rfl rfl rfl
theorem d150_104 : decode (am_mc 150) 104 = .ok (.getfield 59, 3) := D150 52 rfl rfl rfl
theorem d150_107 : decode (am_mc 150) 107 = .ok (.iload 9, 2) := D150 53 rfl rfl rfl
theorem d150_109 : decode (am_mc 150) 109 = .ok (.iload 11, 2) := D150 54 rfl rfl rfl
theorem d150_111 : decode (am_mc 150) 111 = .ok (.iload 7, 2) := D150 55 rfl rfl rfl
theorem d150_113 : decode (am_mc 150) 113 = .ok (.iload 8, 2) := D150 56 rfl rfl rfl
theorem d150_115 : decode (am_mc 150) 115 = .ok (.invokestatic 285, 3) := D150 57 rfl rfl rfl
theorem d150_118 : decode (am_mc 150) 118 = .ok (.iload 7, 2) := D150 58 rfl rfl rfl
theorem d150_120 : decode (am_mc 150) 120 = .ok (.iload 8, 2) := D150 59 rfl rfl rfl
theorem d150_122 : decode (am_mc 150) 122 = .ok (.invokestatic 290, 3) := D150 60 rfl rfl rfl
theorem d150_125 : decode (am_mc 150) 125 = .ok (.iload 6, 2) := D150 61 rfl rfl rfl
theorem d150_127 : decode (am_mc 150) 127 = .ok (.invokevirtual 223, 3) := D150 62 rfl rfl rfl
theorem d150_130 : decode (am_mc 150) 130 = .ok (.return_, 1) := D150 63 rfl rfl rfl
theorem ml150 : ∀ n, n < 12 → n < am_ml 150 := fun _ h => h
theorem mo150 : am_mo 150 = 0 := by decide +kernel
theorem rk150 : am_rk 150 = 0 := by decide +kernel
theorem rg150 : am_rcg 150 = 1 := by decide +kernel
theorem m0_279 : tb_m 0 279 = some (126, 2, 1, 0) := by decide +kernel
theorem m0_282 : tb_m 0 282 = some (127, 2, 1, 0) := by decide +kernel
theorem m0_285 : tb_m 0 285 = some (78, 2, 1, 0) := by decide +kernel
theorem m0_290 : tb_m 0 290 = some (121, 2, 1, 0) := by decide +kernel
theorem dp150_78 : am_md 78 + 1 ≤ am_md 150 ∧ 8 + (am_ml 78 + 11) + am_lr 78 ≤ am_lr 150 := by decide +kernel
theorem dp150_121 : am_md 121 + 1 ≤ am_md 150 ∧ 8 + (am_ml 121 + 11) + am_lr 121 ≤ am_lr 150 := by decide +kernel
theorem dp150_126 : am_md 126 + 1 ≤ am_md 150 ∧ 8 + (am_ml 126 + 11) + am_lr 126 ≤ am_lr 150 := by decide +kernel
theorem dp150_127 : am_md 127 + 1 ≤ am_md 150 ∧ 8 + (am_ml 127 + 11) + am_lr 127 ≤ am_lr 150 := by decide +kernel
theorem dp150_138 : am_md 138 + 1 ≤ am_md 150 ∧ 8 + (am_ml 138 + 11) + am_lr 138 ≤ am_lr 150 := by decide +kernel
theorem dp150_139 : am_md 139 + 1 ≤ am_md 150 ∧ 8 + (am_ml 139 + 11) + am_lr 139 ≤ am_lr 150 := by decide +kernel
theorem dp150_140 : am_md 140 + 1 ≤ am_md 150 ∧ 8 + (am_ml 140 + 11) + am_lr 140 ≤ am_lr 150 := by decide +kernel
def fn150 (o : Nat) (a : Int) (b : Int) (c : Int) (d : Int) (μ : am_M) : Option (Int × am_M) := (am_op (fn139 (am_ref o 7) μ) (fun z1 => (am_op (fn140 (am_ref o 5) b z1.1 z1.2) (fun z2 => (am_op (fn139 (am_ref o 7) z2.2) (fun z3 => (am_op (fn140 (am_ref o 5) c z3.1 z3.2) (fun z4 => (if o_cmp b 0 = 0 then (am_op (fn126 (am_ref o 6) a z4.2) (fun z5 => (am_op (fn127 (am_ref o 6) a z5.2) (fun z6 => (if z5.1 < z6.1 then (am_op (fn78 z2.1 z4.1 z6.2) (fun z10 => (am_op (fn121 z2.1 z4.1 z10.2) (fun z11 => (am_op (fn138 (am_ref o 7) z5.1 (w32 (z6.1 - 1)) z10.1 z11.1 d z11.2) (fun z12 => some (0, z12.2))))))) else (am_op (fn78 z2.1 z4.1 z6.2) (fun z7 => (am_op (fn121 z2.1 z4.1 z7.2) (fun z8 => (am_op (fn138 (am_ref o 7) z5.1 z6.1 z7.1 z8.1 d z8.2) (fun z9 => some (0, z9.2)))))))))))) else (if z2.1 = z4.1 then (am_op (fn126 (am_ref o 6) a z4.2) (fun z13 => (am_op (fn127 (am_ref o 6) a z13.2) (fun z14 => (if z13.1 < z14.1 then (am_op (fn78 z2.1 z4.1 z14.2) (fun z18 => (am_op (fn121 z2.1 z4.1 z18.2) (fun z19 => (am_op (fn138 (am_ref o 7) z13.1 (w32 (z14.1 - 1)) z18.1 z19.1 d z19.2) (fun z20 => some (0, z20.2))))))) else (am_op (fn78 z2.1 z4.1 z14.2) (fun z15 => (am_op (fn121 z2.1 z4.1 z15.2) (fun z16 => (am_op (fn138 (am_ref o 7) z13.1 z14.1 z15.1 z16.1 d z16.2) (fun z17 => some (0, z17.2)))))))))))) else (if z4.1 < z2.1 then (am_op (fn126 (am_ref o 6) a z4.2) (fun z29 => (am_op (fn127 (am_ref o 6) a z29.2) (fun z30 => (if z29.1 < z30.1 then (am_op (fn78 (w32 (z2.1 + ((-1)))) z4.1 z30.2) (fun z34 => (am_op (fn121 (w32 (z2.1 + ((-1)))) z4.1 z34.2) (fun z35 => (am_op (fn138 (am_ref o 7) z29.1 (w32 (z30.1 - 1)) z34.1 z35.1 d z35.2) (fun z36 => some (0, z36.2))))))) else (am_op (fn78 (w32 (z2.1 + ((-1)))) z4.1 z30.2) (fun z31 => (am_op (fn121 (w32 (z2.1 + ((-1)))) z4.1 z31.2) (fun z32 => (am_op (fn138 (am_ref o 7) z29.1 z30.1 z31.1 z32.1 d z32.2) (fun z33 => some (0, z33.2)))))))))))) else (am_op (fn126 (am_ref o 6) a z4.2) (fun z21 => (am_op (fn127 (am_ref o 6) a z21.2) (fun z22 => (if z21.1 < z22.1 then (am_op (fn78 (w32 (z2.1 + 1)) z4.1 z22.2) (fun z26 => (am_op (fn121 (w32 (z2.1 + 1)) z4.1 z26.2) (fun z27 => (am_op (fn138 (am_ref o 7) z21.1 (w32 (z22.1 - 1)) z26.1 z27.1 d z27.2) (fun z28 => some (0, z28.2))))))) else (am_op (fn78 (w32 (z2.1 + 1)) z4.1 z22.2) (fun z23 => (am_op (fn121 (w32 (z2.1 + 1)) z4.1 z23.2) (fun z24 => (am_op (fn138 (am_ref o 7) z21.1 z22.1 z23.1 z24.1 d z24.2) (fun z25 => some (0, z25.2)))))))))))))))))))))))
def sp150 : am_F := fun vs μ => am_aR 0 vs fun o vs => am_aI vs fun a vs => am_aJ vs fun b vs => am_aJ vs fun c vs => am_aI vs fun d vs => am_a0 vs (fn150 o a b c d μ)
theorem e150 (o : Nat) (a : Int) (b : Int) (c : Int) (d : Int) (μ : am_M) : sp150 [.inr (.inr (0, o)), .inl a, .inr (.inl b), .inr (.inl c), .inl d] μ = fn150 o a b c d μ := am_aR_c.trans (am_aI_c.trans (am_aJ_c.trans (am_aJ_c.trans (am_aI_c.trans am_a0_c))))
theorem sd150 : am_Sd 150 sp150 := by
  refine am_Sd_of (by decide) (fun vs μ μ' x h hv hM => ?_)
  obtain ⟨o, vs0, rfl, h0⟩ := am_aR_s h
  obtain ⟨a, vs1, rfl, h1⟩ := am_aI_s h0
  obtain ⟨b, vs2, rfl, h2⟩ := am_aJ_s h1
  obtain ⟨c, vs3, rfl, h3⟩ := am_aJ_s h2
  obtain ⟨d, vs4, rfl, h4⟩ := am_aI_s h3
  obtain ⟨rfl, hz⟩ := am_a0_s h4
  refine ⟨Nat.le_of_ble_eq_true rfl, fun X C hG hr => ?_⟩
  have h := hz
  unfold fn150 at h
  exact (show am_W X C 150 _ 0 0 0 [(0, .inr (.inr (0, o))), (1, .inl a), (2, .inr (.inl b)), (4, .inr (.inl c)), (6, .inl d)] [] μ from (am_c_aload_n hG (pc := 0) d150_0 rfl (x_get_n (v := .inr (.inr (8, am_ref o 5))) hG (pc := 1) d150_1 mo150 f0_45 rfl (am_c_lload_n hG (pc := 4) d150_4 rfl (am_c_aload_n hG (pc := 5) d150_5 rfl (x_get_n (v := .inr (.inr (10, am_ref o 7))) hG (pc := 6) d150_6 mo150 f0_59 rfl (x_virtual_i (t := 10) (o := am_ref o 7) (as2 := []) (rest := [.inr (.inl b), .inr (.inr (8, am_ref o 5))]) hG (pc := 9) d150_9 mo150 m0_237 (by decide) dp150_139 rfl rfl (Nat.le_of_ble_eq_true rfl) (Nat.le_of_ble_eq_true rfl) rg139 sd139 (e139 _ _) h (fun z1 h => (x_virtual_i (t := 8) (o := am_ref o 5) (as2 := [.inr (.inl b), .inl z1.1]) (rest := []) hG (pc := 12) d150_12 mo150 m0_275 (by decide) dp150_140 rfl rfl (Nat.le_of_ble_eq_true rfl) (Nat.le_of_ble_eq_true rfl) rg140 sd140 (e140 _ _ _ _) h (fun z2 h => (x_istore (lv' := [(7, .inl z2.1), (0, .inr (.inr (0, o))), (1, .inl a), (2, .inr (.inl b)), (4, .inr (.inl c)), (6, .inl d)]) hG (pc := 15) d150_15 (ml150 _ (by decide)) rfl (am_c_aload_n hG (pc := 17) d150_17 rfl (x_get_n (v := .inr (.inr (8, am_ref o 5))) hG (pc := 18) d150_18 mo150 f0_45 rfl (am_c_lload hG (pc := 21) d150_21 rfl (am_c_aload_n hG (pc := 23) d150_23 rfl (x_get_n (v := .inr (.inr (10, am_ref o 7))) hG (pc := 24) d150_24 mo150 f0_59 rfl (x_virtual_i (t := 10) (o := am_ref o 7) (as2 := []) (rest := [.inr (.inl c), .inr (.inr (8, am_ref o 5))]) hG (pc := 27) d150_27 mo150 m0_237 (by decide) dp150_139 rfl rfl (Nat.le_of_ble_eq_true rfl) (Nat.le_of_ble_eq_true rfl) rg139 sd139 (e139 _ _) h (fun z3 h => (x_virtual_i (t := 8) (o := am_ref o 5) (as2 := [.inr (.inl c), .inl z3.1]) (rest := []) hG (pc := 30) d150_30 mo150 m0_275 (by decide) dp150_140 rfl rfl (Nat.le_of_ble_eq_true rfl) (Nat.le_of_ble_eq_true rfl) rg140 sd140 (e140 _ _ _ _) h (fun z4 h => (x_istore (lv' := [(8, .inl z4.1), (7, .inl z2.1), (0, .inr (.inr (0, o))), (1, .inl a), (2, .inr (.inl b)), (4, .inr (.inl c)), (6, .inl d)]) hG (pc := 33) d150_33 (ml150 _ (by decide)) rfl (am_c_lload_n hG (pc := 35) d150_35 rfl (am_c_lconst hG (pc := 36) d150_36 (am_c_lcmp hG (pc := 37) d150_37 (x_if_eq (tgt := 65) hG (pc := 38) d150_38 rfl h (fun h => (am_c_aload_n hG (pc := 65) d150_65 rfl (x_get_n (v := .inr (.inr (9, am_ref o 6))) hG (pc := 66) d150_66 mo150 f0_52 rfl (am_c_iload_n hG (pc := 69) d150_69 rfl (x_virtual_i (t := 9) (o := am_ref o 6) (as2 := [.inl a]) (rest := []) hG (pc := 70) d150_70 mo150 m0_279 (by decide) dp150_126 rfl rfl (Nat.le_of_ble_eq_true rfl) (Nat.le_of_ble_eq_true rfl) rg126 sd126 (e126 _ _ _) h (fun z5 h => (x_istore (lv' := [(9, .inl z5.1), (8, .inl z4.1), (7, .inl z2.1), (0, .inr (.inr (0, o))), (1, .inl a), (2, .inr (.inl b)), (4, .inr (.inl c)), (6, .inl d)]) hG (pc := 73) d150_73 (ml150 _ (by decide)) rfl (am_c_aload_n hG (pc := 75) d150_75 rfl (x_get_n (v := .inr (.inr (9, am_ref o 6))) hG (pc := 76) d150_76 mo150 f0_52 rfl (am_c_iload_n hG (pc := 79) d150_79 rfl (x_virtual_i (t := 9) (o := am_ref o 6) (as2 := [.inl a]) (rest := []) hG (pc := 80) d150_80 mo150 m0_282 (by decide) dp150_127 rfl rfl (Nat.le_of_ble_eq_true rfl) (Nat.le_of_ble_eq_true rfl) rg127 sd127 (e127 _ _ _) h (fun z6 h => (x_istore (lv' := [(10, .inl z6.1), (9, .inl z5.1), (8, .inl z4.1), (7, .inl z2.1), (0, .inr (.inr (0, o))), (1, .inl a), (2, .inr (.inl b)), (4, .inr (.inl c)), (6, .inl d)]) hG (pc := 83) d150_83 (ml150 _ (by decide)) rfl (am_c_iload hG (pc := 85) d150_85 rfl (am_c_iload hG (pc := 87) d150_87 rfl (x_icmp_le (tgt := 99) hG (pc := 89) d150_89 rfl h (fun h => (am_c_iload hG (pc := 99) d150_99 rfl (x_istore (lv' := [(11, .inl z6.1), (10, .inl z6.1), (9, .inl z5.1), (8, .inl z4.1), (7, .inl z2.1), (0, .inr (.inr (0, o))), (1, .inl a), (2, .inr (.inl b)), (4, .inr (.inl c)), (6, .inl d)]) hG (pc := 101) d150_101 (ml150 _ (by decide)) rfl (am_c_aload_n hG (pc := 103) d150_103 rfl (x_get_n (v := .inr (.inr (10, am_ref o 7))) hG (pc := 104) d150_104 mo150 f0_59 rfl (am_c_iload hG (pc := 107) d150_107 rfl (am_c_iload hG (pc := 109) d150_109 rfl (am_c_iload hG (pc := 111) d150_111 rfl (am_c_iload hG (pc := 113) d150_113 rfl (x_static_i (as := [.inl z2.1, .inl z4.1]) (rest := [.inl z6.1, .inl z5.1, .inr (.inr (10, am_ref o 7))]) hG (pc := 115) d150_115 mo150 m0_285 (by decide) dp150_78 rfl rfl (Nat.le_of_ble_eq_true rfl) (Nat.le_of_ble_eq_true rfl) rg78 sd78 (e78 _ _ _) h (fun z7 h => (am_c_iload hG (pc := 118) d150_118 rfl (am_c_iload hG (pc := 120) d150_120 rfl (x_static_i (as := [.inl z2.1, .inl z4.1]) (rest := [.inl z7.1, .inl z6.1, .inl z5.1, .inr (.inr (10, am_ref o 7))]) hG (pc := 122) d150_122 mo150 m0_290 (by decide) dp150_121 rfl rfl (Nat.le_of_ble_eq_true rfl) (Nat.le_of_ble_eq_true rfl) rg121 sd121 (e121 _ _ _) h (fun z8 h => (am_c_iload hG (pc := 125) d150_125 rfl (x_virtual_v (t := 10) (o := am_ref o 7) (as2 := [.inl z5.1, .inl z6.1, .inl z7.1, .inl z8.1, .inl d]) (rest := []) hG (pc := 127) d150_127 mo150 m0_223 (by decide) dp150_138 rfl rfl (Nat.le_of_ble_eq_true rfl) (Nat.le_of_ble_eq_true rfl) rg138 sd138 (e138 _ _ _ _ _ _ _) h (fun z9 h => (xq_vret hG (by decide) hr (pc := 130) d150_130 rk150 (am_q0 h)))))))))))))))))))) (fun h => (am_c_iload hG (pc := 92) d150_92 rfl (am_c_iconst hG (pc := 94) d150_94 (by decide) (am_c_isub hG (pc := 95) d150_95 (x_goto (tgt := 101) hG (pc := 96) d150_96 rfl (x_istore (lv' := [(11, .inl (w32 (z6.1 - 1))), (10, .inl z6.1), (9, .inl z5.1), (8, .inl z4.1), (7, .inl z2.1), (0, .inr (.inr (0, o))), (1, .inl a), (2, .inr (.inl b)), (4, .inr (.inl c)), (6, .inl d)]) hG (pc := 101) d150_101 (ml150 _ (by decide)) rfl (am_c_aload_n hG (pc := 103) d150_103 rfl (x_get_n (v := .inr (.inr (10, am_ref o 7))) hG (pc := 104) d150_104 mo150 f0_59 rfl (am_c_iload hG (pc := 107) d150_107 rfl (am_c_iload hG (pc := 109) d150_109 rfl (am_c_iload hG (pc := 111) d150_111 rfl (am_c_iload hG (pc := 113) d150_113 rfl (x_static_i (as := [.inl z2.1, .inl z4.1]) (rest := [.inl (w32 (z6.1 - 1)), .inl z5.1, .inr (.inr (10, am_ref o 7))]) hG (pc := 115) d150_115 mo150 m0_285 (by decide) dp150_78 rfl rfl (Nat.le_of_ble_eq_true rfl) (Nat.le_of_ble_eq_true rfl) rg78 sd78 (e78 _ _ _) h (fun z10 h => (am_c_iload hG (pc := 118) d150_118 rfl (am_c_iload hG (pc := 120) d150_120 rfl (x_static_i (as := [.inl z2.1, .inl z4.1]) (rest := [.inl z10.1, .inl (w32 (z6.1 - 1)), .inl z5.1, .inr (.inr (10, am_ref o 7))]) hG (pc := 122) d150_122 mo150 m0_290 (by decide) dp150_121 rfl rfl (Nat.le_of_ble_eq_true rfl) (Nat.le_of_ble_eq_true rfl) rg121 sd121 (e121 _ _ _) h (fun z11 h => (am_c_iload hG (pc := 125) d150_125 rfl (x_virtual_v (t := 10) (o := am_ref o 7) (as2 := [.inl z5.1, .inl (w32 (z6.1 - 1)), .inl z10.1, .inl z11.1, .inl d]) (rest := []) hG (pc := 127) d150_127 mo150 m0_223 (by decide) dp150_138 rfl rfl (Nat.le_of_ble_eq_true rfl) (Nat.le_of_ble_eq_true rfl) rg138 sd138 (e138 _ _ _ _ _ _ _) h (fun z12 h => (xq_vret hG (by decide) hr (pc := 130) d150_130 rk150 (am_q0 h))))))))))))))))))))))))))))))))))))))) (fun h => (am_c_iload hG (pc := 41) d150_41 rfl (am_c_iload hG (pc := 43) d150_43 rfl (x_icmp_eq (tgt := 65) hG (pc := 45) d150_45 rfl h (fun h => (am_c_aload_n hG (pc := 65) d150_65 rfl (x_get_n (v := .inr (.inr (9, am_ref o 6))) hG (pc := 66) d150_66 mo150 f0_52 rfl (am_c_iload_n hG (pc := 69) d150_69 rfl (x_virtual_i (t := 9) (o := am_ref o 6) (as2 := [.inl a]) (rest := []) hG (pc := 70) d150_70 mo150 m0_279 (by decide) dp150_126 rfl rfl (Nat.le_of_ble_eq_true rfl) (Nat.le_of_ble_eq_true rfl) rg126 sd126 (e126 _ _ _) h (fun z13 h => (x_istore (lv' := [(9, .inl z13.1), (8, .inl z4.1), (7, .inl z2.1), (0, .inr (.inr (0, o))), (1, .inl a), (2, .inr (.inl b)), (4, .inr (.inl c)), (6, .inl d)]) hG (pc := 73) d150_73 (ml150 _ (by decide)) rfl (am_c_aload_n hG (pc := 75) d150_75 rfl (x_get_n (v := .inr (.inr (9, am_ref o 6))) hG (pc := 76) d150_76 mo150 f0_52 rfl (am_c_iload_n hG (pc := 79) d150_79 rfl (x_virtual_i (t := 9) (o := am_ref o 6) (as2 := [.inl a]) (rest := []) hG (pc := 80) d150_80 mo150 m0_282 (by decide) dp150_127 rfl rfl (Nat.le_of_ble_eq_true rfl) (Nat.le_of_ble_eq_true rfl) rg127 sd127 (e127 _ _ _) h (fun z14 h => (x_istore (lv' := [(10, .inl z14.1), (9, .inl z13.1), (8, .inl z4.1), (7, .inl z2.1), (0, .inr (.inr (0, o))), (1, .inl a), (2, .inr (.inl b)), (4, .inr (.inl c)), (6, .inl d)]) hG (pc := 83) d150_83 (ml150 _ (by decide)) rfl (am_c_iload hG (pc := 85) d150_85 rfl (am_c_iload hG (pc := 87) d150_87 rfl (x_icmp_le (tgt := 99) hG (pc := 89) d150_89 rfl h (fun h => (am_c_iload hG (pc := 99) d150_99 rfl (x_istore (lv' := [(11, .inl z14.1), (10, .inl z14.1), (9, .inl z13.1), (8, .inl z4.1), (7, .inl z2.1), (0, .inr (.inr (0, o))), (1, .inl a), (2, .inr (.inl b)), (4, .inr (.inl c)), (6, .inl d)]) hG (pc := 101) d150_101 (ml150 _ (by decide)) rfl (am_c_aload_n hG (pc := 103) d150_103 rfl (x_get_n (v := .inr (.inr (10, am_ref o 7))) hG (pc := 104) d150_104 mo150 f0_59 rfl (am_c_iload hG (pc := 107) d150_107 rfl (am_c_iload hG (pc := 109) d150_109 rfl (am_c_iload hG (pc := 111) d150_111 rfl (am_c_iload hG (pc := 113) d150_113 rfl (x_static_i (as := [.inl z2.1, .inl z4.1]) (rest := [.inl z14.1, .inl z13.1, .inr (.inr (10, am_ref o 7))]) hG (pc := 115) d150_115 mo150 m0_285 (by decide) dp150_78 rfl rfl (Nat.le_of_ble_eq_true rfl) (Nat.le_of_ble_eq_true rfl) rg78 sd78 (e78 _ _ _) h (fun z15 h => (am_c_iload hG (pc := 118) d150_118 rfl (am_c_iload hG (pc := 120) d150_120 rfl (x_static_i (as := [.inl z2.1, .inl z4.1]) (rest := [.inl z15.1, .inl z14.1, .inl z13.1, .inr (.inr (10, am_ref o 7))]) hG (pc := 122) d150_122 mo150 m0_290 (by decide) dp150_121 rfl rfl (Nat.le_of_ble_eq_true rfl) (Nat.le_of_ble_eq_true rfl) rg121 sd121 (e121 _ _ _) h (fun z16 h => (am_c_iload hG (pc := 125) d150_125 rfl (x_virtual_v (t := 10) (o := am_ref o 7) (as2 := [.inl z13.1, .inl z14.1, .inl z15.1, .inl z16.1, .inl d]) (rest := []) hG (pc := 127) d150_127 mo150 m0_223 (by decide) dp150_138 rfl rfl (Nat.le_of_ble_eq_true rfl) (Nat.le_of_ble_eq_true rfl) rg138 sd138 (e138 _ _ _ _ _ _ _) h (fun z17 h => (xq_vret hG (by decide) hr (pc := 130) d150_130 rk150 (am_q0 h)))))))))))))))))))) (fun h => (am_c_iload hG (pc := 92) d150_92 rfl (am_c_iconst hG (pc := 94) d150_94 (by decide) (am_c_isub hG (pc := 95) d150_95 (x_goto (tgt := 101) hG (pc := 96) d150_96 rfl (x_istore (lv' := [(11, .inl (w32 (z14.1 - 1))), (10, .inl z14.1), (9, .inl z13.1), (8, .inl z4.1), (7, .inl z2.1), (0, .inr (.inr (0, o))), (1, .inl a), (2, .inr (.inl b)), (4, .inr (.inl c)), (6, .inl d)]) hG (pc := 101) d150_101 (ml150 _ (by decide)) rfl (am_c_aload_n hG (pc := 103) d150_103 rfl (x_get_n (v := .inr (.inr (10, am_ref o 7))) hG (pc := 104) d150_104 mo150 f0_59 rfl (am_c_iload hG (pc := 107) d150_107 rfl (am_c_iload hG (pc := 109) d150_109 rfl (am_c_iload hG (pc := 111) d150_111 rfl (am_c_iload hG (pc := 113) d150_113 rfl (x_static_i (as := [.inl z2.1, .inl z4.1]) (rest := [.inl (w32 (z14.1 - 1)), .inl z13.1, .inr (.inr (10, am_ref o 7))]) hG (pc := 115) d150_115 mo150 m0_285 (by decide) dp150_78 rfl rfl (Nat.le_of_ble_eq_true rfl) (Nat.le_of_ble_eq_true rfl) rg78 sd78 (e78 _ _ _) h (fun z18 h => (am_c_iload hG (pc := 118) d150_118 rfl (am_c_iload hG (pc := 120) d150_120 rfl (x_static_i (as := [.inl z2.1, .inl z4.1]) (rest := [.inl z18.1, .inl (w32 (z14.1 - 1)), .inl z13.1, .inr (.inr (10, am_ref o 7))]) hG (pc := 122) d150_122 mo150 m0_290 (by decide) dp150_121 rfl rfl (Nat.le_of_ble_eq_true rfl) (Nat.le_of_ble_eq_true rfl) rg121 sd121 (e121 _ _ _) h (fun z19 h => (am_c_iload hG (pc := 125) d150_125 rfl (x_virtual_v (t := 10) (o := am_ref o 7) (as2 := [.inl z13.1, .inl (w32 (z14.1 - 1)), .inl z18.1, .inl z19.1, .inl d]) (rest := []) hG (pc := 127) d150_127 mo150 m0_223 (by decide) dp150_138 rfl rfl (Nat.le_of_ble_eq_true rfl) (Nat.le_of_ble_eq_true rfl) rg138 sd138 (e138 _ _ _ _ _ _ _) h (fun z20 h => (xq_vret hG (by decide) hr (pc := 130) d150_130 rk150 (am_q0 h))))))))))))))))))))))))))))))))))))))) (fun h => (am_c_iload hG (pc := 48) d150_48 rfl (am_c_iload hG (pc := 50) d150_50 rfl (am_c_iload hG (pc := 52) d150_52 rfl (x_icmp_ge (tgt := 61) hG (pc := 54) d150_54 rfl h (fun h => (am_c_iconst hG (pc := 61) d150_61 (by decide) (am_c_iadd hG (pc := 62) d150_62 (x_istore (lv' := [(7, .inl (w32 (z2.1 + 1))), (8, .inl z4.1), (0, .inr (.inr (0, o))), (1, .inl a), (2, .inr (.inl b)), (4, .inr (.inl c)), (6, .inl d)]) hG (pc := 63) d150_63 (ml150 _ (by decide)) rfl (am_c_aload_n hG (pc := 65) d150_65 rfl (x_get_n (v := .inr (.inr (9, am_ref o 6))) hG (pc := 66) d150_66 mo150 f0_52 rfl (am_c_iload_n hG (pc := 69) d150_69 rfl (x_virtual_i (t := 9) (o := am_ref o 6) (as2 := [.inl a]) (rest := []) hG (pc := 70) d150_70 mo150 m0_279 (by decide) dp150_126 rfl rfl (Nat.le_of_ble_eq_true rfl) (Nat.le_of_ble_eq_true rfl) rg126 sd126 (e126 _ _ _) h (fun z21 h => (x_istore (lv' := [(9, .inl z21.1), (7, .inl (w32 (z2.1 + 1))), (8, .inl z4.1), (0, .inr (.inr (0, o))), (1, .inl a), (2, .inr (.inl b)), (4, .inr (.inl c)), (6, .inl d)]) hG (pc := 73) d150_73 (ml150 _ (by decide)) rfl (am_c_aload_n hG (pc := 75) d150_75 rfl (x_get_n (v := .inr (.inr (9, am_ref o 6))) hG (pc := 76) d150_76 mo150 f0_52 rfl (am_c_iload_n hG (pc := 79) d150_79 rfl (x_virtual_i (t := 9) (o := am_ref o 6) (as2 := [.inl a]) (rest := []) hG (pc := 80) d150_80 mo150 m0_282 (by decide) dp150_127 rfl rfl (Nat.le_of_ble_eq_true rfl) (Nat.le_of_ble_eq_true rfl) rg127 sd127 (e127 _ _ _) h (fun z22 h => (x_istore (lv' := [(10, .inl z22.1), (9, .inl z21.1), (7, .inl (w32 (z2.1 + 1))), (8, .inl z4.1), (0, .inr (.inr (0, o))), (1, .inl a), (2, .inr (.inl b)), (4, .inr (.inl c)), (6, .inl d)]) hG (pc := 83) d150_83 (ml150 _ (by decide)) rfl (am_c_iload hG (pc := 85) d150_85 rfl (am_c_iload hG (pc := 87) d150_87 rfl (x_icmp_le (tgt := 99) hG (pc := 89) d150_89 rfl h (fun h => (am_c_iload hG (pc := 99) d150_99 rfl (x_istore (lv' := [(11, .inl z22.1), (10, .inl z22.1), (9, .inl z21.1), (7, .inl (w32 (z2.1 + 1))), (8, .inl z4.1), (0, .inr (.inr (0, o))), (1, .inl a), (2, .inr (.inl b)), (4, .inr (.inl c)), (6, .inl d)]) hG (pc := 101) d150_101 (ml150 _ (by decide)) rfl (am_c_aload_n hG (pc := 103) d150_103 rfl (x_get_n (v := .inr (.inr (10, am_ref o 7))) hG (pc := 104) d150_104 mo150 f0_59 rfl (am_c_iload hG (pc := 107) d150_107 rfl (am_c_iload hG (pc := 109) d150_109 rfl (am_c_iload hG (pc := 111) d150_111 rfl (am_c_iload hG (pc := 113) d150_113 rfl (x_static_i (as := [.inl (w32 (z2.1 + 1)), .inl z4.1]) (rest := [.inl z22.1, .inl z21.1, .inr (.inr (10, am_ref o 7))]) hG (pc := 115) d150_115 mo150 m0_285 (by decide) dp150_78 rfl rfl (Nat.le_of_ble_eq_true rfl) (Nat.le_of_ble_eq_true rfl) rg78 sd78 (e78 _ _ _) h (fun z23 h => (am_c_iload hG (pc := 118) d150_118 rfl (am_c_iload hG (pc := 120) d150_120 rfl (x_static_i (as := [.inl (w32 (z2.1 + 1)), .inl z4.1]) (rest := [.inl z23.1, .inl z22.1, .inl z21.1, .inr (.inr (10, am_ref o 7))]) hG (pc := 122) d150_122 mo150 m0_290 (by decide) dp150_121 rfl rfl (Nat.le_of_ble_eq_true rfl) (Nat.le_of_ble_eq_true rfl) rg121 sd121 (e121 _ _ _) h (fun z24 h => (am_c_iload hG (pc := 125) d150_125 rfl (x_virtual_v (t := 10) (o := am_ref o 7) (as2 := [.inl z21.1, .inl z22.1, .inl z23.1, .inl z24.1, .inl d]) (rest := []) hG (pc := 127) d150_127 mo150 m0_223 (by decide) dp150_138 rfl rfl (Nat.le_of_ble_eq_true rfl) (Nat.le_of_ble_eq_true rfl) rg138 sd138 (e138 _ _ _ _ _ _ _) h (fun z25 h => (xq_vret hG (by decide) hr (pc := 130) d150_130 rk150 (am_q0 h)))))))))))))))))))) (fun h => (am_c_iload hG (pc := 92) d150_92 rfl (am_c_iconst hG (pc := 94) d150_94 (by decide) (am_c_isub hG (pc := 95) d150_95 (x_goto (tgt := 101) hG (pc := 96) d150_96 rfl (x_istore (lv' := [(11, .inl (w32 (z22.1 - 1))), (10, .inl z22.1), (9, .inl z21.1), (7, .inl (w32 (z2.1 + 1))), (8, .inl z4.1), (0, .inr (.inr (0, o))), (1, .inl a), (2, .inr (.inl b)), (4, .inr (.inl c)), (6, .inl d)]) hG (pc := 101) d150_101 (ml150 _ (by decide)) rfl (am_c_aload_n hG (pc := 103) d150_103 rfl (x_get_n (v := .inr (.inr (10, am_ref o 7))) hG (pc := 104) d150_104 mo150 f0_59 rfl (am_c_iload hG (pc := 107) d150_107 rfl (am_c_iload hG (pc := 109) d150_109 rfl (am_c_iload hG (pc := 111) d150_111 rfl (am_c_iload hG (pc := 113) d150_113 rfl (x_static_i (as := [.inl (w32 (z2.1 + 1)), .inl z4.1]) (rest := [.inl (w32 (z22.1 - 1)), .inl z21.1, .inr (.inr (10, am_ref o 7))]) hG (pc := 115) d150_115 mo150 m0_285 (by decide) dp150_78 rfl rfl (Nat.le_of_ble_eq_true rfl) (Nat.le_of_ble_eq_true rfl) rg78 sd78 (e78 _ _ _) h (fun z26 h => (am_c_iload hG (pc := 118) d150_118 rfl (am_c_iload hG (pc := 120) d150_120 rfl (x_static_i (as := [.inl (w32 (z2.1 + 1)), .inl z4.1]) (rest := [.inl z26.1, .inl (w32 (z22.1 - 1)), .inl z21.1, .inr (.inr (10, am_ref o 7))]) hG (pc := 122) d150_122 mo150 m0_290 (by decide) dp150_121 rfl rfl (Nat.le_of_ble_eq_true rfl) (Nat.le_of_ble_eq_true rfl) rg121 sd121 (e121 _ _ _) h (fun z27 h => (am_c_iload hG (pc := 125) d150_125 rfl (x_virtual_v (t := 10) (o := am_ref o 7) (as2 := [.inl z21.1, .inl (w32 (z22.1 - 1)), .inl z26.1, .inl z27.1, .inl d]) (rest := []) hG (pc := 127) d150_127 mo150 m0_223 (by decide) dp150_138 rfl rfl (Nat.le_of_ble_eq_true rfl) (Nat.le_of_ble_eq_true rfl) rg138 sd138 (e138 _ _ _ _ _ _ _) h (fun z28 h => (xq_vret hG (by decide) hr (pc := 130) d150_130 rk150 (am_q0 h)))))))))))))))))))))))))))))))))))))))))) (fun h => (am_c_iconst hG (pc := 57) d150_57 (by decide) (x_goto (tgt := 62) hG (pc := 58) d150_58 rfl (am_c_iadd hG (pc := 62) d150_62 (x_istore (lv' := [(7, .inl (w32 (z2.1 + ((-1))))), (8, .inl z4.1), (0, .inr (.inr (0, o))), (1, .inl a), (2, .inr (.inl b)), (4, .inr (.inl c)), (6, .inl d)]) hG (pc := 63) d150_63 (ml150 _ (by decide)) rfl (am_c_aload_n hG (pc := 65) d150_65 rfl (x_get_n (v := .inr (.inr (9, am_ref o 6))) hG (pc := 66) d150_66 mo150 f0_52 rfl (am_c_iload_n hG (pc := 69) d150_69 rfl (x_virtual_i (t := 9) (o := am_ref o 6) (as2 := [.inl a]) (rest := []) hG (pc := 70) d150_70 mo150 m0_279 (by decide) dp150_126 rfl rfl (Nat.le_of_ble_eq_true rfl) (Nat.le_of_ble_eq_true rfl) rg126 sd126 (e126 _ _ _) h (fun z29 h => (x_istore (lv' := [(9, .inl z29.1), (7, .inl (w32 (z2.1 + ((-1))))), (8, .inl z4.1), (0, .inr (.inr (0, o))), (1, .inl a), (2, .inr (.inl b)), (4, .inr (.inl c)), (6, .inl d)]) hG (pc := 73) d150_73 (ml150 _ (by decide)) rfl (am_c_aload_n hG (pc := 75) d150_75 rfl (x_get_n (v := .inr (.inr (9, am_ref o 6))) hG (pc := 76) d150_76 mo150 f0_52 rfl (am_c_iload_n hG (pc := 79) d150_79 rfl (x_virtual_i (t := 9) (o := am_ref o 6) (as2 := [.inl a]) (rest := []) hG (pc := 80) d150_80 mo150 m0_282 (by decide) dp150_127 rfl rfl (Nat.le_of_ble_eq_true rfl) (Nat.le_of_ble_eq_true rfl) rg127 sd127 (e127 _ _ _) h (fun z30 h => (x_istore (lv' := [(10, .inl z30.1), (9, .inl z29.1), (7, .inl (w32 (z2.1 + ((-1))))), (8, .inl z4.1), (0, .inr (.inr (0, o))), (1, .inl a), (2, .inr (.inl b)), (4, .inr (.inl c)), (6, .inl d)]) hG (pc := 83) d150_83 (ml150 _ (by decide)) rfl (am_c_iload hG (pc := 85) d150_85 rfl (am_c_iload hG (pc := 87) d150_87 rfl (x_icmp_le (tgt := 99) hG (pc := 89) d150_89 rfl h (fun h => (am_c_iload hG (pc := 99) d150_99 rfl (x_istore (lv' := [(11, .inl z30.1), (10, .inl z30.1), (9, .inl z29.1), (7, .inl (w32 (z2.1 + ((-1))))), (8, .inl z4.1), (0, .inr (.inr (0, o))), (1, .inl a), (2, .inr (.inl b)), (4, .inr (.inl c)), (6, .inl d)]) hG (pc := 101) d150_101 (ml150 _ (by decide)) rfl (am_c_aload_n hG (pc := 103) d150_103 rfl (x_get_n (v := .inr (.inr (10, am_ref o 7))) hG (pc := 104) d150_104 mo150 f0_59 rfl (am_c_iload hG (pc := 107) d150_107 rfl (am_c_iload hG (pc := 109) d150_109 rfl (am_c_iload hG (pc := 111) d150_111 rfl (am_c_iload hG (pc := 113) d150_113 rfl (x_static_i (as := [.inl (w32 (z2.1 + ((-1)))), .inl z4.1]) (rest := [.inl z30.1, .inl z29.1, .inr (.inr (10, am_ref o 7))]) hG (pc := 115) d150_115 mo150 m0_285 (by decide) dp150_78 rfl rfl (Nat.le_of_ble_eq_true rfl) (Nat.le_of_ble_eq_true rfl) rg78 sd78 (e78 _ _ _) h (fun z31 h => (am_c_iload hG (pc := 118) d150_118 rfl (am_c_iload hG (pc := 120) d150_120 rfl (x_static_i (as := [.inl (w32 (z2.1 + ((-1)))), .inl z4.1]) (rest := [.inl z31.1, .inl z30.1, .inl z29.1, .inr (.inr (10, am_ref o 7))]) hG (pc := 122) d150_122 mo150 m0_290 (by decide) dp150_121 rfl rfl (Nat.le_of_ble_eq_true rfl) (Nat.le_of_ble_eq_true rfl) rg121 sd121 (e121 _ _ _) h (fun z32 h => (am_c_iload hG (pc := 125) d150_125 rfl (x_virtual_v (t := 10) (o := am_ref o 7) (as2 := [.inl z29.1, .inl z30.1, .inl z31.1, .inl z32.1, .inl d]) (rest := []) hG (pc := 127) d150_127 mo150 m0_223 (by decide) dp150_138 rfl rfl (Nat.le_of_ble_eq_true rfl) (Nat.le_of_ble_eq_true rfl) rg138 sd138 (e138 _ _ _ _ _ _ _) h (fun z33 h => (xq_vret hG (by decide) hr (pc := 130) d150_130 rk150 (am_q0 h)))))))))))))))))))) (fun h => (am_c_iload hG (pc := 92) d150_92 rfl (am_c_iconst hG (pc := 94) d150_94 (by decide) (am_c_isub hG (pc := 95) d150_95 (x_goto (tgt := 101) hG (pc := 96) d150_96 rfl (x_istore (lv' := [(11, .inl (w32 (z30.1 - 1))), (10, .inl z30.1), (9, .inl z29.1), (7, .inl (w32 (z2.1 + ((-1))))), (8, .inl z4.1), (0, .inr (.inr (0, o))), (1, .inl a), (2, .inr (.inl b)), (4, .inr (.inl c)), (6, .inl d)]) hG (pc := 101) d150_101 (ml150 _ (by decide)) rfl (am_c_aload_n hG (pc := 103) d150_103 rfl (x_get_n (v := .inr (.inr (10, am_ref o 7))) hG (pc := 104) d150_104 mo150 f0_59 rfl (am_c_iload hG (pc := 107) d150_107 rfl (am_c_iload hG (pc := 109) d150_109 rfl (am_c_iload hG (pc := 111) d150_111 rfl (am_c_iload hG (pc := 113) d150_113 rfl (x_static_i (as := [.inl (w32 (z2.1 + ((-1)))), .inl z4.1]) (rest := [.inl (w32 (z30.1 - 1)), .inl z29.1, .inr (.inr (10, am_ref o 7))]) hG (pc := 115) d150_115 mo150 m0_285 (by decide) dp150_78 rfl rfl (Nat.le_of_ble_eq_true rfl) (Nat.le_of_ble_eq_true rfl) rg78 sd78 (e78 _ _ _) h (fun z34 h => (am_c_iload hG (pc := 118) d150_118 rfl (am_c_iload hG (pc := 120) d150_120 rfl (x_static_i (as := [.inl (w32 (z2.1 + ((-1)))), .inl z4.1]) (rest := [.inl z34.1, .inl (w32 (z30.1 - 1)), .inl z29.1, .inr (.inr (10, am_ref o 7))]) hG (pc := 122) d150_122 mo150 m0_290 (by decide) dp150_121 rfl rfl (Nat.le_of_ble_eq_true rfl) (Nat.le_of_ble_eq_true rfl) rg121 sd121 (e121 _ _ _) h (fun z35 h => (am_c_iload hG (pc := 125) d150_125 rfl (x_virtual_v (t := 10) (o := am_ref o 7) (as2 := [.inl z29.1, .inl (w32 (z30.1 - 1)), .inl z34.1, .inl z35.1, .inl d]) (rest := []) hG (pc := 127) d150_127 mo150 m0_223 (by decide) dp150_138 rfl rfl (Nat.le_of_ble_eq_true rfl) (Nat.le_of_ble_eq_true rfl) rg138 sd138 (e138 _ _ _ _ _ _ _) h (fun z36 h => (xq_vret hG (by decide) hr (pc := 130) d150_130 rk150 (am_q0 h)))))))))))))))))))))))))))))))))))))))))))))))))))))))))))))))))))))))))))))
/-! ChartPress.paintBars()V -/
theorem D151 (k : Nat) {pc : Nat} {i : Instr} (h : tbi151[k]? = some (pc, i)) (hs : am_isw i = false) {n : Nat} (hn : am_il i = n) : decode (am_mc 151) pc = .ok (i, n) := am_d2 (by decide) (by decide) rfl h hs hn
theorem d151_0 : decode (am_mc 151) 0 = .ok (.iconst 0, 1) := D151 0 rfl rfl rfl
theorem d151_1 : decode (am_mc 151) 1 = .ok (.istore_n 1, 1) := D151 1 rfl rfl rfl
theorem d151_2 : decode (am_mc 151) 2 = .ok (.iload_n 1, 1) := D151 2 rfl rfl rfl
theorem d151_3 : decode (am_mc 151) 3 = .ok (.aload_n 0, 1) := D151 3 rfl rfl rfl
theorem d151_4 : decode (am_mc 151) 4 = .ok (.getfield 38, 3) := D151 4 rfl rfl rfl
theorem d151_7 : decode (am_mc 151) 7 = .ok (.invokevirtual 129, 3) := D151 5 rfl rfl rfl
theorem d151_10 : decode (am_mc 151) 10 = .ok (.if_icmp .ge 110, 3) := D151 6 rfl rfl rfl
theorem d151_13 : decode (am_mc 151) 13 = .ok (.lconst 0, 1) := D151 7 rfl rfl rfl
theorem d151_14 : decode (am_mc 151) 14 = .ok (.lstore_n 2, 1) := D151 8 rfl rfl rfl
theorem d151_15 : decode (am_mc 151) 15 = .ok (.lconst 0, 1) := D151 9 rfl rfl rfl
theorem d151_16 : decode (am_mc 151) 16 = .ok (.lstore 4, 2) := D151 10 rfl rfl rfl
theorem d151_18 : decode (am_mc 151) 18 = .ok (.iconst 0, 1) := D151 11 rfl rfl rfl
theorem d151_19 : decode (am_mc 151) 19 = .ok (.istore 6, 2) := D151 12 rfl rfl rfl
theorem d151_21 : decode (am_mc 151) 21 = .ok (.iload 6, 2) := D151 13 rfl rfl rfl
theorem d151_23 : decode (am_mc 151) 23 = .ok (.aload_n 0, 1) := D151 14 rfl rfl rfl
theorem d151_24 : decode (am_mc 151) 24 = .ok (.getfield 38, 3) := D151 15 rfl rfl rfl
theorem d151_27 : decode (am_mc 151) 27 = .ok (.invokevirtual 264, 3) := D151 16 rfl rfl rfl
theorem d151_30 : decode (am_mc 151) 30 = .ok (.if_icmp .ge 84, 3) := D151 17 rfl rfl rfl
theorem d151_33 : decode (am_mc 151) 33 = .ok (.aload_n 0, 1) := D151 18 rfl rfl rfl
theorem d151_34 : decode (am_mc 151) 34 = .ok (.getfield 38, 3) := D151 19 rfl rfl rfl
theorem d151_37 : decode (am_mc 151) 37 = .ok (.iload_n 1, 1) := D151 20 rfl rfl rfl
theorem d151_38 : decode (am_mc 151) 38 = .ok (.iload 6, 2) := D151 21 rfl rfl rfl
theorem d151_40 : decode (am_mc 151) 40 = .ok (.invokevirtual 267, 3) := D151 22 rfl rfl rfl
theorem d151_43 : decode (am_mc 151) 43 = .ok (.lstore 7, 2) := D151 23 rfl rfl rfl
theorem d151_45 : decode (am_mc 151) 45 = .ok (.iconst 3, 1) := D151 24 rfl rfl rfl
theorem d151_46 : decode (am_mc 151) 46 = .ok (.iload 6, 2) := D151 25 rfl rfl rfl
theorem d151_48 : decode (am_mc 151) 48 = .ok (.iconst 4, 1) := D151 26 rfl rfl rfl
theorem d151_49 : decode (am_mc 151) 49 = .ok (.irem, 1) := D151 27 rfl rfl rfl
theorem d151_50 : decode (am_mc 151) 50 = .ok (.iadd, 1) := D151 28 rfl rfl rfl
theorem d151_51 : decode (am_mc 151) 51 = .ok (.istore 9, 2) := D151 29 rfl rfl rfl
theorem d151_53 : decode (am_mc 151) 53 = .ok (.lload 7, 2) := D151 30 rfl rfl rfl
theorem d151_55 : decode (am_mc 151) 55 = .ok (.lconst 0, 1) := D151 31 rfl rfl rfl
theorem d151_56 : decode (am_mc 151) 56 = .ok (.lcmp, 1) := D151 32 rfl rfl rfl
theorem d151_57 : decode (am_mc 151) 57 = .ok (.ifCond .le 23, 3) := D151 33 rfl rfl rfl
theorem d151_60 : decode (am_mc 151) 60 = .ok (.aload_n 0, 1) := D151 34 rfl rfl rfl
theorem d151_61 : decode (am_mc 151) 61 = .ok (.iload_n 1, 1) := D151 35 rfl rfl rfl
theorem d151_62 : decode (am_mc 151) 62 = .ok (.lload_n 2, 1) := D151 36 rfl rfl rfl
theorem d151_63 : decode (am_mc 151) 63 = .ok (.lload_n 2, 1) := D151 37 rfl rfl rfl
theorem d151_64 : decode (am_mc 151) 64 = .ok (.lload 7, 2) := D151 38 rfl rfl rfl
theorem d151_66 : decode (am_mc 151) 66 = .ok (.ladd, 1) := D151 39 rfl rfl rfl
theorem d151_67 : decode (am_mc 151) 67 = .ok (.iload 9, 2) := D151 40 rfl rfl rfl
theorem d151_69 : decode (am_mc 151) 69 = .ok (.invokevirtual 271, 3) := D151 41 rfl rfl rfl
theorem d151_72 : decode (am_mc 151) 72 = .ok (.lload_n 2, 1) := D151 42 rfl rfl rfl
theorem d151_73 : decode (am_mc 151) 73 = .ok (.lload 7, 2) := D151 43 rfl rfl rfl
theorem d151_75 : decode (am_mc 151) 75 = .ok (.ladd, 1) := D151 44 rfl rfl rfl
theorem d151_76 : decode (am_mc 151) 76 = .ok (.lstore_n 2, 1) := D151 45 rfl rfl rfl
theorem d151_77 : decode (am_mc 151) 77 = .ok (.goto 31, 3) := D151 46 rfl rfl rfl
theorem d151_80 : decode (am_mc 151) 80 = .ok (.lload 7, 2) := D151 47 rfl rfl rfl
theorem d151_82 : decode (am_mc 151) 82 = .ok (.lconst 0, 1) := D151 48 rfl rfl rfl
theorem d151_83 : decode (am_mc 151) 83 = .ok (.lcmp, 1) := D151 49 rfl rfl rfl
theorem d151_84 : decode (am_mc 151) 84 = .ok (.ifCond .ge 24, 3) := D151 50 rfl rfl rfl
theorem d151_87 : decode (am_mc 151) 87 = .ok (.aload_n 0, 1) := D151 51 rfl rfl rfl
theorem d151_88 : decode (am_mc 151) 88 = .ok (.iload_n 1, 1) := D151 52 rfl rfl rfl
theorem d151_89 : decode (am_mc 151) 89 = .ok (.lload 4, 2) := D151 53 rfl rfl rfl
theorem d151_91 : decode (am_mc 151) 91 = .ok (.lload 4, 2) := D151 54 rfl rfl rfl
theorem d151_93 : decode (am_mc 151) 93 = .ok (.lload 7, 2) := D151 55 rfl rfl rfl
theorem d151_95 : decode (am_mc 151) 95 = .ok (.ladd, 1) := D151 56 rfl rfl rfl
theorem d151_96 : decode (am_mc 151) 96 = .ok (.iload 9, 2) := D151 57 rfl rfl rfl
theorem d151_98 : decode (am_mc 151) 98 = .ok (.invokevirtual 271, 3) := D151 58 rfl rfl rfl
theorem d151_101 : decode (am_mc 151) 101 = .ok (.lload 4, 2) := D151 59 rfl rfl rfl
theorem d151_103 : decode (am_mc 151) 103 = .ok (.lload 7, 2) := D151 60 rfl rfl rfl
theorem d151_105 : decode (am_mc 151) 105 = .ok (.ladd, 1) := D151 61 rfl rfl rfl
theorem d151_106 : decode (am_mc 151) 106 = .ok (.lstore 4, 2) := D151 62 rfl rfl rfl
theorem d151_108 : decode (am_mc 151) 108 = .ok (.iinc 6 1, 3) := D151 63 rfl rfl rfl
theorem d151_111 : decode (am_mc 151) 111 = .ok (.goto (-90), 3) := D151 64 rfl rfl rfl
theorem d151_114 : decode (am_mc 151) 114 = .ok (.iinc 1 1, 3) := D151 65 rfl rfl rfl
theorem d151_117 : decode (am_mc 151) 117 = .ok (.goto (-115), 3) := D151 66 rfl rfl rfl
theorem d151_120 : decode (am_mc 151) 120 = .ok (.return_, 1) := D151 67 rfl rfl rfl
theorem ml151 : ∀ n, n < 10 → n < am_ml 151 := fun _ h => h
theorem mo151 : am_mo 151 = 0 := by decide +kernel
theorem rk151 : am_rk 151 = 0 := by decide +kernel
theorem rg151 : am_rcg 151 = 1 := by decide +kernel
theorem m0_264 : tb_m 0 264 = some (103, 1, 1, 0) := by decide +kernel
theorem m0_267 : tb_m 0 267 = some (105, 3, 2, 0) := by decide +kernel
theorem m0_271 : tb_m 0 271 = some (150, 5, 0, 0) := by decide +kernel
theorem dp151_101 : am_md 101 + 1 ≤ am_md 151 ∧ 8 + (am_ml 101 + 11) + am_lr 101 ≤ am_lr 151 := by decide +kernel
theorem dp151_103 : am_md 103 + 1 ≤ am_md 151 ∧ 8 + (am_ml 103 + 11) + am_lr 103 ≤ am_lr 151 := by decide +kernel
theorem dp151_105 : am_md 105 + 1 ≤ am_md 151 ∧ 8 + (am_ml 105 + 11) + am_lr 105 ≤ am_lr 151 := by decide +kernel
theorem dp151_150 : am_md 150 + 1 ≤ am_md 151 ∧ 8 + (am_ml 150 + 11) + am_lr 150 ≤ am_lr 151 := by decide +kernel
def L151_21 (l0 : Nat) (l1 : Int) : Nat → Int → Int → Int → am_M → Option ((Int × am_M) ⊕ (Int × Int × Int × am_M))
  | 0, _, _, _, _ => none
  | n + 1, l2, l4, l6, μ => (am_op (fn103 (am_ref l0 4) μ) (fun z2 => (if l6 < z2.1 then (am_op (fn105 (am_ref l0 4) l1 l6 z2.2) (fun z3 => (if 0 < o_cmp z3.1 0 then (am_op (fn150 l0 l1 l2 (w64 (l2 + z3.1)) (w32 (3 + (o_rem l6 4))) z3.2) (fun z5 => (L151_21 l0 l1 n (w64 (l2 + z3.1)) l4 (w32 (l6 + 1)) z5.2))) else (if o_cmp z3.1 0 < 0 then (am_op (fn150 l0 l1 l4 (w64 (l4 + z3.1)) (w32 (3 + (o_rem l6 4))) z3.2) (fun z4 => (L151_21 l0 l1 n l2 (w64 (l4 + z3.1)) (w32 (l6 + 1)) z4.2))) else (L151_21 l0 l1 n l2 l4 (w32 (l6 + 1)) z3.2))))) else (some (.inr (l2, l4, l6, z2.2))))))
theorem w151_21 {X : am_K} {C : am_C} {Q : State → Prop} (hG : am_G X C 151 0 0 (0, fun _ => 0)) (hr : match X with | (_, _, _, _, _, _, _, _, meth, _) => meth.sig.returnType = am_mr 151 ∧ meth.locks = false) (l0 : Nat) (l1 : Int) : ∀ (n : Nat) (l2 : Int) (l4 : Int) (l6 : Int) (μ : am_M) (r : (Int × am_M) ⊕ (Int × Int × Int × am_M)), L151_21 l0 l1 n l2 l4 l6 μ = some r → (∀ q, r = .inl q → Q = am_E X C 151 q.1 q.2) → (∀ t, r = .inr t → am_W X C 151 Q 0 0 114 [(0, .inr (.inr (0, l0))), (1, .inl l1)] [] t.2.2.2) → am_W X C 151 Q 0 0 21 [(0, .inr (.inr (0, l0))), (1, .inl l1), (2, .inr (.inl l2)), (4, .inr (.inl l4)), (6, .inl l6)] [] μ := by
  intro n
  induction n with
  | zero => intro l2 l4 l6 μ r h; cases h
  | succ n ih =>
    intro l2 l4 l6 μ r h hI hX
    unfold L151_21 at h
    exact (am_c_iload hG (pc := 21) d151_21 rfl (am_c_aload_n hG (pc := 23) d151_23 rfl (x_get_n (v := .inr (.inr (6, am_ref l0 4))) hG (pc := 24) d151_24 mo151 f0_38 rfl (x_virtual_i (t := 6) (o := am_ref l0 4) (as2 := []) (rest := [.inl l6]) hG (pc := 27) d151_27 mo151 m0_264 (by decide) dp151_103 rfl rfl (Nat.le_of_ble_eq_true rfl) (Nat.le_of_ble_eq_true rfl) rg103 sd103 (e103 _ _) h (fun z2 h => (x_icmp_ge (tgt := 114) hG (pc := 30) d151_30 rfl h (fun h => (am_lvw (lv2 := [(0, .inr (.inr (0, l0))), (1, .inl l1)]) [0, 1] rfl (hX (l2, l4, l6, z2.2) (Option.some.inj h).symm))) (fun h => (am_c_aload_n hG (pc := 33) d151_33 rfl (x_get_n (v := .inr (.inr (6, am_ref l0 4))) hG (pc := 34) d151_34 mo151 f0_38 rfl (am_c_iload_n hG (pc := 37) d151_37 rfl (am_c_iload hG (pc := 38) d151_38 rfl (x_virtual_l (t := 6) (o := am_ref l0 4) (as2 := [.inl l1, .inl l6]) (rest := []) hG (pc := 40) d151_40 mo151 m0_267 (by decide) dp151_105 rfl rfl (Nat.le_of_ble_eq_true rfl) (Nat.le_of_ble_eq_true rfl) rg105 sd105 (e105 _ _ _ _) h (fun z3 h => (x_lstore (lv' := [(7, .inr (.inl z3.1)), (0, .inr (.inr (0, l0))), (1, .inl l1), (2, .inr (.inl l2)), (4, .inr (.inl l4)), (6, .inl l6)]) hG (pc := 43) d151_43 (ml151 _ (by decide)) rfl (am_c_iconst hG (pc := 45) d151_45 (by decide) (am_c_iload hG (pc := 46) d151_46 rfl (am_c_iconst hG (pc := 48) d151_48 (by decide) (am_c_irem hG (pc := 49) d151_49 (by decide) (am_c_iadd hG (pc := 50) d151_50 (x_istore (lv' := [(9, .inl (w32 (3 + (o_rem l6 4)))), (7, .inr (.inl z3.1)), (0, .inr (.inr (0, l0))), (1, .inl l1), (2, .inr (.inl l2)), (4, .inr (.inl l4)), (6, .inl l6)]) hG (pc := 51) d151_51 (ml151 _ (by decide)) rfl (am_c_lload hG (pc := 53) d151_53 rfl (am_c_lconst hG (pc := 55) d151_55 (am_c_lcmp hG (pc := 56) d151_56 (x_if_le (tgt := 80) hG (pc := 57) d151_57 rfl h (fun h => (am_c_lload hG (pc := 80) d151_80 rfl (am_c_lconst hG (pc := 82) d151_82 (am_c_lcmp hG (pc := 83) d151_83 (x_if_ge (tgt := 108) hG (pc := 84) d151_84 rfl h (fun h => (x_iinc (lv' := [(6, .inl (w32 (l6 + 1))), (9, .inl (w32 (3 + (o_rem l6 4)))), (7, .inr (.inl z3.1)), (0, .inr (.inr (0, l0))), (1, .inl l1), (2, .inr (.inl l2)), (4, .inr (.inl l4))]) hG (pc := 108) d151_108 rfl (ml151 _ (by decide)) rfl (x_goto (tgt := 21) hG (pc := 111) d151_111 rfl (am_lvw (lv2 := [(0, .inr (.inr (0, l0))), (1, .inl l1), (2, .inr (.inl l2)), (4, .inr (.inl l4)), (6, .inl (w32 (l6 + 1)))]) [3, 4, 5, 6, 0] rfl (ih _ _ _ _ _ h hI hX))))) (fun h => (am_c_aload_n hG (pc := 87) d151_87 rfl (am_c_iload_n hG (pc := 88) d151_88 rfl (am_c_lload hG (pc := 89) d151_89 rfl (am_c_lload hG (pc := 91) d151_91 rfl (am_c_lload hG (pc := 93) d151_93 rfl (am_c_ladd hG (pc := 95) d151_95 (am_c_iload hG (pc := 96) d151_96 rfl (x_virtual_v (t := 0) (o := l0) (as2 := [.inl l1, .inr (.inl l4), .inr (.inl (w64 (l4 + z3.1))), .inl (w32 (3 + (o_rem l6 4)))]) (rest := []) hG (pc := 98) d151_98 mo151 m0_271 (by decide) dp151_150 rfl rfl (Nat.le_of_ble_eq_true rfl) (Nat.le_of_ble_eq_true rfl) rg150 sd150 (e150 _ _ _ _ _ _) h (fun z4 h => (am_c_lload hG (pc := 101) d151_101 rfl (am_c_lload hG (pc := 103) d151_103 rfl (am_c_ladd hG (pc := 105) d151_105 (x_lstore (lv' := [(4, .inr (.inl (w64 (l4 + z3.1)))), (9, .inl (w32 (3 + (o_rem l6 4)))), (7, .inr (.inl z3.1)), (0, .inr (.inr (0, l0))), (1, .inl l1), (2, .inr (.inl l2)), (6, .inl l6)]) hG (pc := 106) d151_106 (ml151 _ (by decide)) rfl (x_iinc (lv' := [(6, .inl (w32 (l6 + 1))), (4, .inr (.inl (w64 (l4 + z3.1)))), (9, .inl (w32 (3 + (o_rem l6 4)))), (7, .inr (.inl z3.1)), (0, .inr (.inr (0, l0))), (1, .inl l1), (2, .inr (.inl l2))]) hG (pc := 108) d151_108 rfl (ml151 _ (by decide)) rfl (x_goto (tgt := 21) hG (pc := 111) d151_111 rfl (am_lvw (lv2 := [(0, .inr (.inr (0, l0))), (1, .inl l1), (2, .inr (.inl l2)), (4, .inr (.inl (w64 (l4 + z3.1)))), (6, .inl (w32 (l6 + 1)))]) [4, 5, 6, 1, 0] rfl (ih _ _ _ _ _ h hI hX))))))))))))))))))))))) (fun h => (am_c_aload_n hG (pc := 60) d151_60 rfl (am_c_iload_n hG (pc := 61) d151_61 rfl (am_c_lload_n hG (pc := 62) d151_62 rfl (am_c_lload_n hG (pc := 63) d151_63 rfl (am_c_lload hG (pc := 64) d151_64 rfl (am_c_ladd hG (pc := 66) d151_66 (am_c_iload hG (pc := 67) d151_67 rfl (x_virtual_v (t := 0) (o := l0) (as2 := [.inl l1, .inr (.inl l2), .inr (.inl (w64 (l2 + z3.1))), .inl (w32 (3 + (o_rem l6 4)))]) (rest := []) hG (pc := 69) d151_69 mo151 m0_271 (by decide) dp151_150 rfl rfl (Nat.le_of_ble_eq_true rfl) (Nat.le_of_ble_eq_true rfl) rg150 sd150 (e150 _ _ _ _ _ _) h (fun z5 h => (am_c_lload_n hG (pc := 72) d151_72 rfl (am_c_lload hG (pc := 73) d151_73 rfl (am_c_ladd hG (pc := 75) d151_75 (x_lstore_n (lv' := [(2, .inr (.inl (w64 (l2 + z3.1)))), (9, .inl (w32 (3 + (o_rem l6 4)))), (7, .inr (.inl z3.1)), (0, .inr (.inr (0, l0))), (1, .inl l1), (4, .inr (.inl l4)), (6, .inl l6)]) hG (pc := 76) d151_76 (ml151 _ (by decide)) rfl (x_goto (tgt := 108) hG (pc := 77) d151_77 rfl (x_iinc (lv' := [(6, .inl (w32 (l6 + 1))), (2, .inr (.inl (w64 (l2 + z3.1)))), (9, .inl (w32 (3 + (o_rem l6 4)))), (7, .inr (.inl z3.1)), (0, .inr (.inr (0, l0))), (1, .inl l1), (4, .inr (.inl l4))]) hG (pc := 108) d151_108 rfl (ml151 _ (by decide)) rfl (x_goto (tgt := 21) hG (pc := 111) d151_111 rfl (am_lvw (lv2 := [(0, .inr (.inr (0, l0))), (1, .inl l1), (2, .inr (.inl (w64 (l2 + z3.1)))), (4, .inr (.inl l4)), (6, .inl (w32 (l6 + 1)))]) [4, 5, 1, 6, 0] rfl (ih _ _ _ _ _ h hI hX)))))))))))))))))))))))))))))))))))))))))))
def L151_2 (l0 : Nat) : Nat → Int → am_M → Option ((Int × am_M) ⊕ (Int × am_M))
  | 0, _, _ => none
  | n + 1, l1, μ => (am_op (fn101 (am_ref l0 4) μ) (fun z1 => (if l1 < z1.1 then (am_op (L151_21 l0 l1 am_fuel 0 0 0 z1.2) (fun s => am_lp s (fun q1 => some (.inl q1)) (fun t1 => (L151_2 l0 n (w32 (l1 + 1)) t1.2.2.2)))) else (some (.inr (l1, z1.2))))))
theorem w151_2 {X : am_K} {C : am_C} {Q : State → Prop} (hG : am_G X C 151 0 0 (0, fun _ => 0)) (hr : match X with | (_, _, _, _, _, _, _, _, meth, _) => meth.sig.returnType = am_mr 151 ∧ meth.locks = false) (l0 : Nat) : ∀ (n : Nat) (l1 : Int) (μ : am_M) (r : (Int × am_M) ⊕ (Int × am_M)), L151_2 l0 n l1 μ = some r → (∀ q, r = .inl q → Q = am_E X C 151 q.1 q.2) → (∀ t, r = .inr t → am_W X C 151 Q 0 0 120 [] [] t.2) → am_W X C 151 Q 0 0 2 [(0, .inr (.inr (0, l0))), (1, .inl l1)] [] μ := by
  intro n
  induction n with
  | zero => intro l1 μ r h; cases h
  | succ n ih =>
    intro l1 μ r h hI hX
    unfold L151_2 at h
    exact (am_c_iload_n hG (pc := 2) d151_2 rfl (am_c_aload_n hG (pc := 3) d151_3 rfl (x_get_n (v := .inr (.inr (6, am_ref l0 4))) hG (pc := 4) d151_4 mo151 f0_38 rfl (x_virtual_i (t := 6) (o := am_ref l0 4) (as2 := []) (rest := [.inl l1]) hG (pc := 7) d151_7 mo151 m0_129 (by decide) dp151_101 rfl rfl (Nat.le_of_ble_eq_true rfl) (Nat.le_of_ble_eq_true rfl) rg101 sd101 (e101 _ _) h (fun z1 h => (x_icmp_ge (tgt := 120) hG (pc := 10) d151_10 rfl h (fun h => (am_lvw (lv2 := []) [] rfl (hX (l1, z1.2) (Option.some.inj h).symm))) (fun h => (am_c_lconst hG (pc := 13) d151_13 (x_lstore_n (lv' := [(2, .inr (.inl 0)), (0, .inr (.inr (0, l0))), (1, .inl l1)]) hG (pc := 14) d151_14 (ml151 _ (by decide)) rfl (am_c_lconst hG (pc := 15) d151_15 (x_lstore (lv' := [(4, .inr (.inl 0)), (2, .inr (.inl 0)), (0, .inr (.inr (0, l0))), (1, .inl l1)]) hG (pc := 16) d151_16 (ml151 _ (by decide)) rfl (am_c_iconst hG (pc := 18) d151_18 (by decide) (x_istore (lv' := [(6, .inl 0), (4, .inr (.inl 0)), (2, .inr (.inl 0)), (0, .inr (.inr (0, l0))), (1, .inl l1)]) hG (pc := 19) d151_19 (ml151 _ (by decide)) rfl (x_lp h (fun r h1 h2 => (am_lvw (lv2 := [(0, .inr (.inr (0, l0))), (1, .inl l1), (2, .inr (.inl 0)), (4, .inr (.inl 0)), (6, .inl 0)]) [3, 4, 2, 1, 0] rfl (w151_21 hG hr _ _ _ _ _ _ _ _ h1 (fun q1 e => am_q1 e h2 (fun h => hI _ (Option.some.inj h).symm)) (fun t1 e => am_q2 e h2 (fun h => (x_iinc (lv' := [(1, .inl (w32 (l1 + 1))), (0, .inr (.inr (0, l0)))]) hG (pc := 114) d151_114 rfl (ml151 _ (by decide)) rfl (x_goto (tgt := 2) hG (pc := 117) d151_117 rfl (am_lvw (lv2 := [(0, .inr (.inr (0, l0))), (1, .inl (w32 (l1 + 1)))]) [1, 0] rfl (ih _ _ _ h hI hX)))))))))))))))))))))))
def fn151 (o : Nat) (μ : am_M) : Option (Int × am_M) := (am_op (L151_2 o am_fuel 0 μ) (fun s => am_lp s (fun q2 => some q2) (fun t2 => some (0, t2.2))))
def sp151 : am_F := fun vs μ => am_aR 0 vs fun o vs => am_a0 vs (fn151 o μ)
theorem e151 (o : Nat) (μ : am_M) : sp151 [.inr (.inr (0, o))] μ = fn151 o μ := am_aR_c.trans am_a0_c
theorem sd151 : am_Sd 151 sp151 := by
  refine am_Sd_of (by decide) (fun vs μ μ' x h hv hM => ?_)
  obtain ⟨o, vs0, rfl, h0⟩ := am_aR_s h
  obtain ⟨rfl, hz⟩ := am_a0_s h0
  refine ⟨Nat.le_of_ble_eq_true rfl, fun X C hG hr => ?_⟩
  have h := hz
  unfold fn151 at h
  exact (show am_W X C 151 _ 0 0 0 [(0, .inr (.inr (0, o)))] [] μ from (am_c_iconst hG (pc := 0) d151_0 (by decide) (x_istore_n (lv' := [(1, .inl 0), (0, .inr (.inr (0, o)))]) hG (pc := 1) d151_1 (ml151 _ (by decide)) rfl (x_lp h (fun r h1 h2 => (am_lvw (lv2 := [(0, .inr (.inr (0, o))), (1, .inl 0)]) [1, 0] rfl (w151_2 hG hr _ _ _ _ _ h1 (fun q2 e => am_q1 e h2 (fun h => am_q0 h)) (fun t2 e => am_q2 e h2 (fun h => (xq_vret hG (by decide) hr (pc := 120) d151_120 rk151 (am_q0 h)))))))))))
/-! ChartPress.groupRow(I)I -/
theorem D152 (k : Nat) {pc : Nat} {i : Instr} (h : tbi152[k]? = some (pc, i)) (hs : am_isw i = false) {n : Nat} (hn : am_il i = n) : decode (am_mc 152) pc = .ok (i, n) := am_d2 (by decide) (by decide) rfl h hs hn
theorem d152_0 : decode (am_mc 152) 0 = .ok (.aload_n 0, 1) := D152 0 rfl rfl rfl
theorem d152_1 : decode (am_mc 152) 1 = .ok (.getfield 45, 3) := D152 1 rfl rfl rfl
theorem d152_4 : decode (am_mc 152) 4 = .ok (.aload_n 0, 1) := D152 2 rfl rfl rfl
theorem d152_5 : decode (am_mc 152) 5 = .ok (.getfield 38, 3) := D152 3 rfl rfl rfl
theorem d152_8 : decode (am_mc 152) 8 = .ok (.iload_n 1, 1) := D152 4 rfl rfl rfl
theorem d152_9 : decode (am_mc 152) 9 = .ok (.invokevirtual 192, 3) := D152 5 rfl rfl rfl
theorem d152_12 : decode (am_mc 152) 12 = .ok (.aload_n 0, 1) := D152 6 rfl rfl rfl
theorem d152_13 : decode (am_mc 152) 13 = .ok (.getfield 59, 3) := D152 7 rfl rfl rfl
theorem d152_16 : decode (am_mc 152) 16 = .ok (.invokevirtual 237, 3) := D152 8 rfl rfl rfl
theorem d152_19 : decode (am_mc 152) 19 = .ok (.invokevirtual 275, 3) := D152 9 rfl rfl rfl
theorem d152_22 : decode (am_mc 152) 22 = .ok (.ireturn, 1) := D152 10 rfl rfl rfl
theorem ml152 : ∀ n, n < 2 → n < am_ml 152 := fun _ h => h
theorem mo152 : am_mo 152 = 0 := by decide +kernel
theorem mr152 : am_mr 152 = some .int := by decide +kernel
theorem rg152 : am_rcg 152 = 1 := by decide +kernel
theorem m0_192 : tb_m 0 192 = some (109, 2, 2, 0) := by decide +kernel
theorem dp152_109 : am_md 109 + 1 ≤ am_md 152 ∧ 8 + (am_ml 109 + 11) + am_lr 109 ≤ am_lr 152 := by decide +kernel
theorem dp152_139 : am_md 139 + 1 ≤ am_md 152 ∧ 8 + (am_ml 139 + 11) + am_lr 139 ≤ am_lr 152 := by decide +kernel
theorem dp152_140 : am_md 140 + 1 ≤ am_md 152 ∧ 8 + (am_ml 140 + 11) + am_lr 140 ≤ am_lr 152 := by decide +kernel
def fn152 (o : Nat) (a : Int) (μ : am_M) : Option (Int × am_M) := (am_op (fn109 (am_ref o 4) a μ) (fun z1 => (am_op (fn139 (am_ref o 7) z1.2) (fun z2 => (am_op (fn140 (am_ref o 5) z1.1 z2.1 z2.2) (fun z3 => some (z3.1, z3.2)))))))
def sp152 : am_F := fun vs μ => am_aR 0 vs fun o vs => am_aI vs fun a vs => am_a0 vs (fn152 o a μ)
theorem e152 (o : Nat) (a : Int) (μ : am_M) : sp152 [.inr (.inr (0, o)), .inl a] μ = fn152 o a μ := am_aR_c.trans (am_aI_c.trans am_a0_c)
theorem sd152 : am_Sd 152 sp152 := by
  refine am_Sd_of (by decide) (fun vs μ μ' x h hv hM => ?_)
  obtain ⟨o, vs0, rfl, h0⟩ := am_aR_s h
  obtain ⟨a, vs1, rfl, h1⟩ := am_aI_s h0
  obtain ⟨rfl, hz⟩ := am_a0_s h1
  refine ⟨Nat.le_of_ble_eq_true rfl, fun X C hG hr => ?_⟩
  have h := hz
  unfold fn152 at h
  exact (show am_W X C 152 _ 0 0 0 [(0, .inr (.inr (0, o))), (1, .inl a)] [] μ from (am_c_aload_n hG (pc := 0) d152_0 rfl (x_get_n (v := .inr (.inr (8, am_ref o 5))) hG (pc := 1) d152_1 mo152 f0_45 rfl (am_c_aload_n hG (pc := 4) d152_4 rfl (x_get_n (v := .inr (.inr (6, am_ref o 4))) hG (pc := 5) d152_5 mo152 f0_38 rfl (am_c_iload_n hG (pc := 8) d152_8 rfl (x_virtual_l (t := 6) (o := am_ref o 4) (as2 := [.inl a]) (rest := [.inr (.inr (8, am_ref o 5))]) hG (pc := 9) d152_9 mo152 m0_192 (by decide) dp152_109 rfl rfl (Nat.le_of_ble_eq_true rfl) (Nat.le_of_ble_eq_true rfl) rg109 sd109 (e109 _ _ _) h (fun z1 h => (am_c_aload_n hG (pc := 12) d152_12 rfl (x_get_n (v := .inr (.inr (10, am_ref o 7))) hG (pc := 13) d152_13 mo152 f0_59 rfl (x_virtual_i (t := 10) (o := am_ref o 7) (as2 := []) (rest := [.inr (.inl z1.1), .inr (.inr (8, am_ref o 5))]) hG (pc := 16) d152_16 mo152 m0_237 (by decide) dp152_139 rfl rfl (Nat.le_of_ble_eq_true rfl) (Nat.le_of_ble_eq_true rfl) rg139 sd139 (e139 _ _) h (fun z2 h => (x_virtual_i (t := 8) (o := am_ref o 5) (as2 := [.inr (.inl z1.1), .inl z2.1]) (rest := []) hG (pc := 19) d152_19 mo152 m0_275 (by decide) dp152_140 rfl rfl (Nat.le_of_ble_eq_true rfl) (Nat.le_of_ble_eq_true rfl) rg140 sd140 (e140 _ _ _ _) h (fun z3 h => (xq_iret hG (by decide) hr (pc := 22) d152_22 mr152 (am_q0 h))))))))))))))))
/-! java/lang/Math.abs(I)I -/
theorem D153 (k : Nat) {pc : Nat} {i : Instr} (h : tbi153[k]? = some (pc, i)) (hs : am_isw i = false) {n : Nat} (hn : am_il i = n) : decode (am_mc 153) pc = .ok (i, n) := am_d2 (by decide) (by decide) rfl h hs hn
theorem d153_0 : decode (am_mc 153) 0 = .ok (.iload_n 0, 1) := D153 0 rfl rfl rfl
theorem d153_1 : decode (am_mc 153) 1 = .ok (.ifCond .ge 8, 3) := D153 1 rfl rfl rfl
theorem d153_4 : decode (am_mc 153) 4 = .ok (.iload_n 0, 1) := D153 2 rfl rfl rfl
theorem d153_5 : decode (am_mc 153) 5 = .ok (.ineg, 1) := D153 3 rfl rfl rfl
theorem d153_6 : decode (am_mc 153) 6 = .ok (.goto 4, 3) := D153 4 rfl rfl rfl
theorem d153_9 : decode (am_mc 153) 9 = .ok (.iload_n 0, 1) := D153 5 rfl rfl rfl
theorem d153_10 : decode (am_mc 153) 10 = .ok (.ireturn, 1) := D153 6 rfl rfl rfl
theorem ml153 : ∀ n, n < 1 → n < am_ml 153 := fun _ h => h
theorem mo153 : am_mo 153 = 13 := by decide +kernel
theorem mr153 : am_mr 153 = some .int := by decide +kernel
theorem rg153 : am_rcg 153 = 0 := by decide +kernel
def fn153 (a : Int) (μ : am_M) : Option (Int × am_M) := (if a < 0 then some (w32 (-a), μ) else some (a, μ))
def sp153 : am_F := fun vs μ => am_aI vs fun a vs => am_a0 vs (fn153 a μ)
theorem e153 (a : Int) (μ : am_M) : sp153 [.inl a] μ = fn153 a μ := am_aI_c.trans am_a0_c
theorem sd153 : am_Sd 153 sp153 := by
  refine am_Sd_of (by decide) (fun vs μ μ' x h hv hM => ?_)
  obtain ⟨a, vs0, rfl, h0⟩ := am_aI_s h
  obtain ⟨rfl, hz⟩ := am_a0_s h0
  refine ⟨Nat.le_of_ble_eq_true rfl, fun X C hG hr => ?_⟩
  have h := hz
  unfold fn153 at h
  exact (show am_W X C 153 _ 0 0 0 [(0, .inl a)] [] μ from (am_c_iload_n hG (pc := 0) d153_0 rfl (x_if_ge (tgt := 9) hG (pc := 1) d153_1 rfl h (fun h => (am_c_iload_n hG (pc := 9) d153_9 rfl (xq_iret hG (by decide) hr (pc := 10) d153_10 mr153 (am_q0 h)))) (fun h => (am_c_iload_n hG (pc := 4) d153_4 rfl (am_c_ineg hG (pc := 5) d153_5 (x_goto (tgt := 10) hG (pc := 6) d153_6 rfl (xq_iret hG (by decide) hr (pc := 10) d153_10 mr153 (am_q0 h)))))))))
/-! ChartPress$Sheet.line(IIIII)V -/
theorem D154 (k : Nat) {pc : Nat} {i : Instr} (h : tbi154[k]? = some (pc, i)) (hs : am_isw i = false) {n : Nat} (hn : am_il i = n) : decode (am_mc 154) pc = .ok (i, n) := am_d2 (by decide) (by decide) rfl h hs hn
theorem d154_0 : decode (am_mc 154) 0 = .ok (.iload_n 3, 1) := D154 0 rfl rfl rfl
theorem d154_1 : decode (am_mc 154) 1 = .ok (.iload_n 1, 1) := D154 1 rfl rfl rfl
theorem d154_2 : decode (am_mc 154) 2 = .ok (.isub, 1) := D154 2 rfl rfl rfl
theorem d154_3 : decode (am_mc 154) 3 = .ok (.invokestatic 50, 3) := D154 3 rfl rfl rfl
theorem d154_6 : decode (am_mc 154) 6 = .ok (.istore 6, 2) := D154 4 rfl rfl rfl
theorem d154_8 : decode (am_mc 154) 8 = .ok (.iload 4, 2) := D154 5 rfl rfl rfl
theorem d154_10 : decode (am_mc 154) 10 = .ok (.iload_n 2, 1) := D154 6 rfl rfl rfl
theorem d154_11 : decode (am_mc 154) 11 = .ok (.isub, 1) := D154 7 rfl rfl rfl
theorem d154_12 : decode (am_mc 154) 12 = .ok (.invokestatic 50, 3) := D154 8 rfl rfl rfl
theorem d154_15 : decode (am_mc 154) 15 = .ok (.ineg, 1) := D154 9 rfl rfl rfl
theorem d154_16 : decode (am_mc 154) 16 = .ok (.istore 7, 2) := D154 10 rfl rfl rfl
theorem d154_18 : decode (am_mc 154) 18 = .ok (.iload 4, 2) := D154 11 rfl rfl rfl
theorem d154_20 : decode (am_mc 154) 20 = .ok (.iload_n 2, 1) := D154 12 rfl rfl rfl
theorem d154_21 : decode (am_mc 154) 21 = .ok (.if_icmp .lt 7, 3) := D154 13 rfl rfl rfl
theorem d154_24 : decode (am_mc 154) 24 = .ok (.iconst 1, 1) := D154 14 rfl rfl rfl
theorem d154_25 : decode (am_mc 154) 25 = .ok (.goto 4, 3) := D154 15 rfl rfl rfl
theorem d154_28 : decode (am_mc 154) 28 = .ok (.iconst (-1), 1) := D154 16 rfl rfl rfl
theorem d154_29 : decode (am_mc 154) 29 = .ok (.istore 8, 2) := D154 17 rfl rfl rfl
theorem d154_31 : decode (am_mc 154) 31 = .ok (.iload 6, 2) := D154 18 rfl rfl rfl
theorem d154_33 : decode (am_mc 154) 33 = .ok (.iload 7, 2) := D154 19 rfl rfl rfl
theorem d154_35 : decode (am_mc 154) 35 = .ok (.iadd, 1) := D154 20 rfl rfl rfl
theorem d154_36 : decode (am_mc 154) 36 = .ok (.istore 9, 2) := D154 21 rfl rfl rfl
theorem d154_38 : decode (am_mc 154) 38 = .ok (.iload_n 1, 1) := D154 22 rfl rfl rfl
theorem d154_39 : decode (am_mc 154) 39 = .ok (.istore 10, 2) := D154 23 rfl rfl rfl
theorem d154_41 : decode (am_mc 154) 41 = .ok (.iload_n 2, 1) := D154 24 rfl rfl rfl
theorem d154_42 : decode (am_mc 154) 42 = .ok (.istore 11, 2) := D154 25 rfl rfl rfl
theorem d154_44 : decode (am_mc 154) 44 = .ok (.aload_n 0, 1) := D154 26 rfl rfl rfl
theorem d154_45 : decode (am_mc 154) 45 = .ok (.iload 10, 2) := D154 27 rfl rfl rfl
theorem d154_47 : decode (am_mc 154) 47 = .ok (.iload 11, 2) := D154 28 rfl rfl rfl
theorem d154_49 : decode (am_mc 154) 49 = .ok (.iload 5, 2) := D154 29 rfl rfl rfl
theorem d154_51 : decode (am_mc 154) 51 = .ok (.invokevirtual 32, 3) := D154 30 rfl rfl rfl
theorem d154_54 : decode (am_mc 154) 54 = .ok (.iconst 0, 1) := D154 31 rfl rfl rfl
theorem d154_55 : decode (am_mc 154) 55 = .ok (.istore 12, 2) := D154 32 rfl rfl rfl
theorem d154_57 : decode (am_mc 154) 57 = .ok (.iload 12, 2) := D154 33 rfl rfl rfl
theorem d154_59 : decode (am_mc 154) 59 = .ok (.iload 6, 2) := D154 34 rfl rfl rfl
theorem d154_61 : decode (am_mc 154) 61 = .ok (.iload 7, 2) := D154 35 rfl rfl rfl
theorem d154_63 : decode (am_mc 154) 63 = .ok (.isub, 1) := D154 36 rfl rfl rfl
theorem d154_64 : decode (am_mc 154) 64 = .ok (.if_icmp .ge 76, 3) := D154 37 rfl rfl rfl
theorem d154_67 : decode (am_mc 154) 67 = .ok (.iload 10, 2) := D154 38 rfl rfl rfl
theorem d154_69 : decode (am_mc 154) 69 = .ok (.iload_n 3, 1) := D154 39 rfl rfl rfl
theorem d154_70 : decode (am_mc 154) 70 = .ok (.if_icmp .ne 10, 3) := D154 40 rfl rfl rfl
theorem d154_73 : decode (am_mc 154) 73 = .ok (.iload 11, 2) := D154 41 rfl rfl rfl
theorem d154_75 : decode (am_mc 154) 75 = .ok (.iload 4, 2) := D154 42 rfl rfl rfl
theorem d154_77 : decode (am_mc 154) 77 = .ok (.if_icmp .eq 63, 3) := D154 43 rfl rfl rfl
theorem d154_80 : decode (am_mc 154) 80 = .ok (.iconst 2, 1) := D154 44 rfl rfl rfl
theorem d154_81 : decode (am_mc 154) 81 = .ok (.iload 9, 2) := D154 45 rfl rfl rfl
theorem d154_83 : decode (am_mc 154) 83 = .ok (.imul, 1) := D154 46 rfl rfl rfl
theorem d154_84 : decode (am_mc 154) 84 = .ok (.istore 13, 2) := D154 47 rfl rfl rfl
theorem d154_86 : decode (am_mc 154) 86 = .ok (.iload 13, 2) := D154 48 rfl rfl rfl
theorem d154_88 : decode (am_mc 154) 88 = .ok (.iload 7, 2) := D154 49 rfl rfl rfl
theorem d154_90 : decode (am_mc 154) 90 = .ok (.if_icmp .lt 13, 3) := D154 50 rfl rfl rfl
theorem d154_93 : decode (am_mc 154) 93 = .ok (.iload 9, 2) := D154 51 rfl rfl rfl
theorem d154_95 : decode (am_mc 154) 95 = .ok (.iload 7, 2) := D154 52 rfl rfl rfl
theorem d154_97 : decode (am_mc 154) 97 = .ok (.iadd, 1) := D154 53 rfl rfl rfl
theorem d154_98 : decode (am_mc 154) 98 = .ok (.istore 9, 2) := D154 54 rfl rfl rfl
theorem d154_100 : decode (am_mc 154) 100 = .ok (.iinc 10 1, 3) := D154 55 rfl rfl rfl
theorem d154_103 : decode (am_mc 154) 103 = .ok (.iload 13, 2) := D154 56 rfl rfl rfl
theorem d154_105 : decode (am_mc 154) 105 = .ok (.iload 6, 2) := D154 57 rfl rfl rfl
theorem d154_107 : decode (am_mc 154) 107 = .ok (.if_icmp .gt 17, 3) := D154 58 rfl rfl rfl
theorem d154_110 : decode (am_mc 154) 110 = .ok (.iload 9, 2) := D154 59 rfl rfl rfl
theorem d154_112 : decode (am_mc 154) 112 = .ok (.iload 6, 2) := D154 60 rfl rfl rfl
theorem d154_114 : decode (am_mc 154) 114 = .ok (.iadd, 1) := D154 61 rfl rfl rfl
theorem d154_115 : decode (am_mc 154) 115 = .ok (.istore 9, 2) := D154 62 rfl rfl rfl
theorem d154_117 : decode (am_mc 154) 117 = .ok (.iload 11, 2) := D154 63 rfl rfl rfl
theorem d154_119 : decode (am_mc 154) 119 = .ok (.iload 8, 2) := D154 64 rfl rfl rfl
theorem d154_121 : decode (am_mc 154) 121 = .ok (.iadd, 1) := D154 65 rfl rfl rfl
theorem d154_122 : decode (am_mc 154) 122 = .ok (.istore 11, 2) := D154 66 rfl rfl rfl
theorem d154_124 : decode (am_mc 154) 124 = .ok (.aload_n 0, 1) := D154 67 rfl rfl rfl
theorem d154_125 : decode (am_mc 154) 125 = .ok (.iload 10, 2) := D154 68 rfl rfl rfl
theorem d154_127 : decode (am_mc 154) 127 = .ok (.iload 11, 2) := D154 69 rfl rfl rfl
theorem d154_129 : decode (am_mc 154) 129 = .ok (.iload 5, 2) := D154 70 rfl rfl rfl
theorem d154_131 : decode (am_mc 154) 131 = .ok (.invokevirtual 32, 3) := D154 71 rfl rfl rfl
theorem d154_134 : decode (am_mc 154) 134 = .ok (.iinc 12 1, 3) := D154 72 rfl rfl rfl
theorem d154_137 : decode (am_mc 154) 137 = .ok (.goto (-80), 3) := D154 73 rfl rfl rfl
theorem d154_140 : decode (am_mc 154) 140 = .ok (.return_, 1) := D154 74 rfl rfl rfl
theorem ml154 : ∀ n, n < 14 → n < am_ml 154 := fun _ h => h
theorem mo154 : am_mo 154 = 10 := by decide +kernel
theorem rk154 : am_rk 154 = 0 := by decide +kernel
theorem rg154 : am_rcg 154 = 11 := by decide +kernel
theorem m10_50 : tb_m 10 50 = some (153, 1, 1, 0) := by decide +kernel
theorem dp154_137 : am_md 137 + 1 ≤ am_md 154 ∧ 8 + (am_ml 137 + 11) + am_lr 137 ≤ am_lr 154 := by decide +kernel
theorem dp154_153 : am_md 153 + 1 ≤ am_md 154 ∧ 8 + (am_ml 153 + 11) + am_lr 153 ≤ am_lr 154 := by decide +kernel
def L154_57 (l0 : Nat) (l3 : Int) (l4 : Int) (l5 : Int) (l6 : Int) (l7 : Int) (l8 : Int) : Nat → Int → Int → Int → Int → am_M → Option ((Int × am_M) ⊕ (Int × Int × Int × Int × am_M))
  | 0, _, _, _, _, _ => none
  | n + 1, l9, l10, l11, l12, μ => (if l12 < w32 (l6 - l7) then (if l10 = l3 then (if l11 = l4 then (some (.inr (l9, l10, l11, l12, μ))) else (if w32 (2 * l9) < l7 then (if l6 < w32 (2 * l9) then (am_op (fn137 l0 l10 l11 l5 μ) (fun z8 => (L154_57 l0 l3 l4 l5 l6 l7 l8 n l9 l10 l11 (w32 (l12 + 1)) z8.2))) else (am_op (fn137 l0 l10 (w32 (l11 + l8)) l5 μ) (fun z9 => (L154_57 l0 l3 l4 l5 l6 l7 l8 n (w32 (l9 + l6)) l10 (w32 (l11 + l8)) (w32 (l12 + 1)) z9.2)))) else (if l6 < w32 (2 * l9) then (am_op (fn137 l0 (w32 (l10 + 1)) l11 l5 μ) (fun z10 => (L154_57 l0 l3 l4 l5 l6 l7 l8 n (w32 (l9 + l7)) (w32 (l10 + 1)) l11 (w32 (l12 + 1)) z10.2))) else (am_op (fn137 l0 (w32 (l10 + 1)) (w32 (l11 + l8)) l5 μ) (fun z11 => (L154_57 l0 l3 l4 l5 l6 l7 l8 n (w32 ((w32 (l9 + l7)) + l6)) (w32 (l10 + 1)) (w32 (l11 + l8)) (w32 (l12 + 1)) z11.2)))))) else (if w32 (2 * l9) < l7 then (if l6 < w32 (2 * l9) then (am_op (fn137 l0 l10 l11 l5 μ) (fun z4 => (L154_57 l0 l3 l4 l5 l6 l7 l8 n l9 l10 l11 (w32 (l12 + 1)) z4.2))) else (am_op (fn137 l0 l10 (w32 (l11 + l8)) l5 μ) (fun z5 => (L154_57 l0 l3 l4 l5 l6 l7 l8 n (w32 (l9 + l6)) l10 (w32 (l11 + l8)) (w32 (l12 + 1)) z5.2)))) else (if l6 < w32 (2 * l9) then (am_op (fn137 l0 (w32 (l10 + 1)) l11 l5 μ) (fun z6 => (L154_57 l0 l3 l4 l5 l6 l7 l8 n (w32 (l9 + l7)) (w32 (l10 + 1)) l11 (w32 (l12 + 1)) z6.2))) else (am_op (fn137 l0 (w32 (l10 + 1)) (w32 (l11 + l8)) l5 μ) (fun z7 => (L154_57 l0 l3 l4 l5 l6 l7 l8 n (w32 ((w32 (l9 + l7)) + l6)) (w32 (l10 + 1)) (w32 (l11 + l8)) (w32 (l12 + 1)) z7.2)))))) else (some (.inr (l9, l10, l11, l12, μ))))
theorem w154_57 {X : am_K} {C : am_C} {Q : State → Prop} (hG : am_G X C 154 0 0 (0, fun _ => 0)) (hr : match X with | (_, _, _, _, _, _, _, _, meth, _) => meth.sig.returnType = am_mr 154 ∧ meth.locks = false) (l0 : Nat) (l3 : Int) (l4 : Int) (l5 : Int) (l6 : Int) (l7 : Int) (l8 : Int) : ∀ (n : Nat) (l9 : Int) (l10 : Int) (l11 : Int) (l12 : Int) (μ : am_M) (r : (Int × am_M) ⊕ (Int × Int × Int × Int × am_M)), L154_57 l0 l3 l4 l5 l6 l7 l8 n l9 l10 l11 l12 μ = some r → (∀ q, r = .inl q → Q = am_E X C 154 q.1 q.2) → (∀ t, r = .inr t → am_W X C 154 Q 0 0 140 [] [] t.2.2.2.2) → am_W X C 154 Q 0 0 57 [(0, .inr (.inr (10, l0))), (3, .inl l3), (4, .inl l4), (5, .inl l5), (6, .inl l6), (7, .inl l7), (8, .inl l8), (9, .inl l9), (10, .inl l10), (11, .inl l11), (12, .inl l12)] [] μ := by
  intro n
  induction n with
  | zero => intro l9 l10 l11 l12 μ r h; cases h
  | succ n ih =>
    intro l9 l10 l11 l12 μ r h hI hX
    unfold L154_57 at h
    exact (am_c_iload hG (pc := 57) d154_57 rfl (am_c_iload hG (pc := 59) d154_59 rfl (am_c_iload hG (pc := 61) d154_61 rfl (am_c_isub hG (pc := 63) d154_63 (x_icmp_ge (tgt := 140) hG (pc := 64) d154_64 rfl h (fun h => (am_lvw (lv2 := []) [] rfl (hX (l9, l10, l11, l12, μ) (Option.some.inj h).symm))) (fun h => (am_c_iload hG (pc := 67) d154_67 rfl (am_c_iload_n hG (pc := 69) d154_69 rfl (x_icmp_ne (tgt := 80) hG (pc := 70) d154_70 rfl h (fun h => (am_c_iconst hG (pc := 80) d154_80 (by decide) (am_c_iload hG (pc := 81) d154_81 rfl (am_c_imul hG (pc := 83) d154_83 (x_istore (lv' := [(13, .inl (w32 (2 * l9))), (0, .inr (.inr (10, l0))), (3, .inl l3), (4, .inl l4), (5, .inl l5), (6, .inl l6), (7, .inl l7), (8, .inl l8), (9, .inl l9), (10, .inl l10), (11, .inl l11), (12, .inl l12)]) hG (pc := 84) d154_84 (ml154 _ (by decide)) rfl (am_c_iload hG (pc := 86) d154_86 rfl (am_c_iload hG (pc := 88) d154_88 rfl (x_icmp_lt (tgt := 103) hG (pc := 90) d154_90 rfl h (fun h => (am_c_iload hG (pc := 103) d154_103 rfl (am_c_iload hG (pc := 105) d154_105 rfl (x_icmp_gt (tgt := 124) hG (pc := 107) d154_107 rfl h (fun h => (am_c_aload_n hG (pc := 124) d154_124 rfl (am_c_iload hG (pc := 125) d154_125 rfl (am_c_iload hG (pc := 127) d154_127 rfl (am_c_iload hG (pc := 129) d154_129 rfl (x_virtual_v (t := 10) (o := l0) (as2 := [.inl l10, .inl l11, .inl l5]) (rest := []) hG (pc := 131) d154_131 mo154 m10_32 (by decide) dp154_137 rfl rfl (Nat.le_of_ble_eq_true rfl) (Nat.le_of_ble_eq_true rfl) rg137 sd137 (e137 _ _ _ _ _) h (fun z4 h => (x_iinc (lv' := [(12, .inl (w32 (l12 + 1))), (13, .inl (w32 (2 * l9))), (0, .inr (.inr (10, l0))), (3, .inl l3), (4, .inl l4), (5, .inl l5), (6, .inl l6), (7, .inl l7), (8, .inl l8), (9, .inl l9), (10, .inl l10), (11, .inl l11)]) hG (pc := 134) d154_134 rfl (ml154 _ (by decide)) rfl (x_goto (tgt := 57) hG (pc := 137) d154_137 rfl (am_lvw (lv2 := [(0, .inr (.inr (10, l0))), (3, .inl l3), (4, .inl l4), (5, .inl l5), (6, .inl l6), (7, .inl l7), (8, .inl l8), (9, .inl l9), (10, .inl l10), (11, .inl l11), (12, .inl (w32 (l12 + 1)))]) [2, 3, 4, 5, 6, 7, 8, 9, 10, 11, 0] rfl (ih _ _ _ _ _ _ h hI hX))))))))))) (fun h => (am_c_iload hG (pc := 110) d154_110 rfl (am_c_iload hG (pc := 112) d154_112 rfl (am_c_iadd hG (pc := 114) d154_114 (x_istore (lv' := [(9, .inl (w32 (l9 + l6))), (13, .inl (w32 (2 * l9))), (0, .inr (.inr (10, l0))), (3, .inl l3), (4, .inl l4), (5, .inl l5), (6, .inl l6), (7, .inl l7), (8, .inl l8), (10, .inl l10), (11, .inl l11), (12, .inl l12)]) hG (pc := 115) d154_115 (ml154 _ (by decide)) rfl (am_c_iload hG (pc := 117) d154_117 rfl (am_c_iload hG (pc := 119) d154_119 rfl (am_c_iadd hG (pc := 121) d154_121 (x_istore (lv' := [(11, .inl (w32 (l11 + l8))), (9, .inl (w32 (l9 + l6))), (13, .inl (w32 (2 * l9))), (0, .inr (.inr (10, l0))), (3, .inl l3), (4, .inl l4), (5, .inl l5), (6, .inl l6), (7, .inl l7), (8, .inl l8), (10, .inl l10), (12, .inl l12)]) hG (pc := 122) d154_122 (ml154 _ (by decide)) rfl (am_c_aload_n hG (pc := 124) d154_124 rfl (am_c_iload hG (pc := 125) d154_125 rfl (am_c_iload hG (pc := 127) d154_127 rfl (am_c_iload hG (pc := 129) d154_129 rfl (x_virtual_v (t := 10) (o := l0) (as2 := [.inl l10, .inl (w32 (l11 + l8)), .inl l5]) (rest := []) hG (pc := 131) d154_131 mo154 m10_32 (by decide) dp154_137 rfl rfl (Nat.le_of_ble_eq_true rfl) (Nat.le_of_ble_eq_true rfl) rg137 sd137 (e137 _ _ _ _ _) h (fun z5 h => (x_iinc (lv' := [(12, .inl (w32 (l12 + 1))), (11, .inl (w32 (l11 + l8))), (9, .inl (w32 (l9 + l6))), (13, .inl (w32 (2 * l9))), (0, .inr (.inr (10, l0))), (3, .inl l3), (4, .inl l4), (5, .inl l5), (6, .inl l6), (7, .inl l7), (8, .inl l8), (10, .inl l10)]) hG (pc := 134) d154_134 rfl (ml154 _ (by decide)) rfl (x_goto (tgt := 57) hG (pc := 137) d154_137 rfl (am_lvw (lv2 := [(0, .inr (.inr (10, l0))), (3, .inl l3), (4, .inl l4), (5, .inl l5), (6, .inl l6), (7, .inl l7), (8, .inl l8), (9, .inl (w32 (l9 + l6))), (10, .inl l10), (11, .inl (w32 (l11 + l8))), (12, .inl (w32 (l12 + 1)))]) [4, 5, 6, 7, 8, 9, 10, 2, 11, 1, 0] rfl (ih _ _ _ _ _ _ h hI hX))))))))))))))))))))))) (fun h => (am_c_iload hG (pc := 93) d154_93 rfl (am_c_iload hG (pc := 95) d154_95 rfl (am_c_iadd hG (pc := 97) d154_97 (x_istore (lv' := [(9, .inl (w32 (l9 + l7))), (13, .inl (w32 (2 * l9))), (0, .inr (.inr (10, l0))), (3, .inl l3), (4, .inl l4), (5, .inl l5), (6, .inl l6), (7, .inl l7), (8, .inl l8), (10, .inl l10), (11, .inl l11), (12, .inl l12)]) hG (pc := 98) d154_98 (ml154 _ (by decide)) rfl (x_iinc (lv' := [(10, .inl (w32 (l10 + 1))), (9, .inl (w32 (l9 + l7))), (13, .inl (w32 (2 * l9))), (0, .inr (.inr (10, l0))), (3, .inl l3), (4, .inl l4), (5, .inl l5), (6, .inl l6), (7, .inl l7), (8, .inl l8), (11, .inl l11), (12, .inl l12)]) hG (pc := 100) d154_100 rfl (ml154 _ (by decide)) rfl (am_c_iload hG (pc := 103) d154_103 rfl (am_c_iload hG (pc := 105) d154_105 rfl (x_icmp_gt (tgt := 124) hG (pc := 107) d154_107 rfl h (fun h => (am_c_aload_n hG (pc := 124) d154_124 rfl (am_c_iload hG (pc := 125) d154_125 rfl (am_c_iload hG (pc := 127) d154_127 rfl (am_c_iload hG (pc := 129) d154_129 rfl (x_virtual_v (t := 10) (o := l0) (as2 := [.inl (w32 (l10 + 1)), .inl l11, .inl l5]) (rest := []) hG (pc := 131) d154_131 mo154 m10_32 (by decide) dp154_137 rfl rfl (Nat.le_of_ble_eq_true rfl) (Nat.le_of_ble_eq_true rfl) rg137 sd137 (e137 _ _ _ _ _) h (fun z6 h => (x_iinc (lv' := [(12, .inl (w32 (l12 + 1))), (10, .inl (w32 (l10 + 1))), (9, .inl (w32 (l9 + l7))), (13, .inl (w32 (2 * l9))), (0, .inr (.inr (10, l0))), (3, .inl l3), (4, .inl l4), (5, .inl l5), (6, .inl l6), (7, .inl l7), (8, .inl l8), (11, .inl l11)]) hG (pc := 134) d154_134 rfl (ml154 _ (by decide)) rfl (x_goto (tgt := 57) hG (pc := 137) d154_137 rfl (am_lvw (lv2 := [(0, .inr (.inr (10, l0))), (3, .inl l3), (4, .inl l4), (5, .inl l5), (6, .inl l6), (7, .inl l7), (8, .inl l8), (9, .inl (w32 (l9 + l7))), (10, .inl (w32 (l10 + 1))), (11, .inl l11), (12, .inl (w32 (l12 + 1)))]) [4, 5, 6, 7, 8, 9, 10, 2, 1, 11, 0] rfl (ih _ _ _ _ _ _ h hI hX))))))))))) (fun h => (am_c_iload hG (pc := 110) d154_110 rfl (am_c_iload hG (pc := 112) d154_112 rfl (am_c_iadd hG (pc := 114) d154_114 (x_istore (lv' := [(9, .inl (w32 ((w32 (l9 + l7)) + l6))), (10, .inl (w32 (l10 + 1))), (13, .inl (w32 (2 * l9))), (0, .inr (.inr (10, l0))), (3, .inl l3), (4, .inl l4), (5, .inl l5), (6, .inl l6), (7, .inl l7), (8, .inl l8), (11, .inl l11), (12, .inl l12)]) hG (pc := 115) d154_115 (ml154 _ (by decide)) rfl (am_c_iload hG (pc := 117) d154_117 rfl (am_c_iload hG (pc := 119) d154_119 rfl (am_c_iadd hG (pc := 121) d154_121 (x_istore (lv' := [(11, .inl (w32 (l11 + l8))), (9, .inl (w32 ((w32 (l9 + l7)) + l6))), (10, .inl (w32 (l10 + 1))), (13, .inl (w32 (2 * l9))), (0, .inr (.inr (10, l0))), (3, .inl l3), (4, .inl l4), (5, .inl l5), (6, .inl l6), (7, .inl l7), (8, .inl l8), (12, .inl l12)]) hG (pc := 122) d154_122 (ml154 _ (by decide)) rfl (am_c_aload_n hG (pc := 124) d154_124 rfl (am_c_iload hG (pc := 125) d154_125 rfl (am_c_iload hG (pc := 127) d154_127 rfl (am_c_iload hG (pc := 129) d154_129 rfl (x_virtual_v (t := 10) (o := l0) (as2 := [.inl (w32 (l10 + 1)), .inl (w32 (l11 + l8)), .inl l5]) (rest := []) hG (pc := 131) d154_131 mo154 m10_32 (by decide) dp154_137 rfl rfl (Nat.le_of_ble_eq_true rfl) (Nat.le_of_ble_eq_true rfl) rg137 sd137 (e137 _ _ _ _ _) h (fun z7 h => (x_iinc (lv' := [(12, .inl (w32 (l12 + 1))), (11, .inl (w32 (l11 + l8))), (9, .inl (w32 ((w32 (l9 + l7)) + l6))), (10, .inl (w32 (l10 + 1))), (13, .inl (w32 (2 * l9))), (0, .inr (.inr (10, l0))), (3, .inl l3), (4, .inl l4), (5, .inl l5), (6, .inl l6), (7, .inl l7), (8, .inl l8)]) hG (pc := 134) d154_134 rfl (ml154 _ (by decide)) rfl (x_goto (tgt := 57) hG (pc := 137) d154_137 rfl (am_lvw (lv2 := [(0, .inr (.inr (10, l0))), (3, .inl l3), (4, .inl l4), (5, .inl l5), (6, .inl l6), (7, .inl l7), (8, .inl l8), (9, .inl (w32 ((w32 (l9 + l7)) + l6))), (10, .inl (w32 (l10 + 1))), (11, .inl (w32 (l11 + l8))), (12, .inl (w32 (l12 + 1)))]) [5, 6, 7, 8, 9, 10, 11, 2, 3, 1, 0] rfl (ih _ _ _ _ _ _ h hI hX)))))))))))))))))))))))))))))))))))) (fun h => (am_c_iload hG (pc := 73) d154_73 rfl (am_c_iload hG (pc := 75) d154_75 rfl (x_icmp_eq (tgt := 140) hG (pc := 77) d154_77 rfl h (fun h => (am_lvw (lv2 := []) [] rfl (hX (l9, l10, l11, l12, μ) (Option.some.inj h).symm))) (fun h => (am_c_iconst hG (pc := 80) d154_80 (by decide) (am_c_iload hG (pc := 81) d154_81 rfl (am_c_imul hG (pc := 83) d154_83 (x_istore (lv' := [(13, .inl (w32 (2 * l9))), (0, .inr (.inr (10, l0))), (3, .inl l3), (4, .inl l4), (5, .inl l5), (6, .inl l6), (7, .inl l7), (8, .inl l8), (9, .inl l9), (10, .inl l10), (11, .inl l11), (12, .inl l12)]) hG (pc := 84) d154_84 (ml154 _ (by decide)) rfl (am_c_iload hG (pc := 86) d154_86 rfl (am_c_iload hG (pc := 88) d154_88 rfl (x_icmp_lt (tgt := 103) hG (pc := 90) d154_90 rfl h (fun h => (am_c_iload hG (pc := 103) d154_103 rfl (am_c_iload hG (pc := 105) d154_105 rfl (x_icmp_gt (tgt := 124) hG (pc := 107) d154_107 rfl h (fun h => (am_c_aload_n hG (pc := 124) d154_124 rfl (am_c_iload hG (pc := 125) d154_125 rfl (am_c_iload hG (pc := 127) d154_127 rfl (am_c_iload hG (pc := 129) d154_129 rfl (x_virtual_v (t := 10) (o := l0) (as2 := [.inl l10, .inl l11, .inl l5]) (rest := []) hG (pc := 131) d154_131 mo154 m10_32 (by decide) dp154_137 rfl rfl (Nat.le_of_ble_eq_true rfl) (Nat.le_of_ble_eq_true rfl) rg137 sd137 (e137 _ _ _ _ _) h (fun z8 h => (x_iinc (lv' := [(12, .inl (w32 (l12 + 1))), (13, .inl (w32 (2 * l9))), (0, .inr (.inr (10, l0))), (3, .inl l3), (4, .inl l4), (5, .inl l5), (6, .inl l6), (7, .inl l7), (8, .inl l8), (9, .inl l9), (10, .inl l10), (11, .inl l11)]) hG (pc := 134) d154_134 rfl (ml154 _ (by decide)) rfl (x_goto (tgt := 57) hG (pc := 137) d154_137 rfl (am_lvw (lv2 := [(0, .inr (.inr (10, l0))), (3, .inl l3), (4, .inl l4), (5, .inl l5), (6, .inl l6), (7, .inl l7), (8, .inl l8), (9, .inl l9), (10, .inl l10), (11, .inl l11), (12, .inl (w32 (l12 + 1)))]) [2, 3, 4, 5, 6, 7, 8, 9, 10, 11, 0] rfl (ih _ _ _ _ _ _ h hI hX))))))))))) (fun h => (am_c_iload hG (pc := 110) d154_110 rfl (am_c_iload hG (pc := 112) d154_112 rfl (am_c_iadd hG (pc := 114) d154_114 (x_istore (lv' := [(9, .inl (w32 (l9 + l6))), (13, .inl (w32 (2 * l9))), (0, .inr (.inr (10, l0))), (3, .inl l3), (4, .inl l4), (5, .inl l5), (6, .inl l6), (7, .inl l7), (8, .inl l8), (10, .inl l10), (11, .inl l11), (12, .inl l12)]) hG (pc := 115) d154_115 (ml154 _ (by decide)) rfl (am_c_iload hG (pc := 117) d154_117 rfl (am_c_iload hG (pc := 119) d154_119 rfl (am_c_iadd hG (pc := 121) d154_121 (x_istore (lv' := [(11, .inl (w32 (l11 + l8))), (9, .inl (w32 (l9 + l6))), (13, .inl (w32 (2 * l9))), (0, .inr (.inr (10, l0))), (3, .inl l3), (4, .inl l4), (5, .inl l5), (6, .inl l6), (7, .inl l7), (8, .inl l8), (10, .inl l10), (12, .inl l12)]) hG (pc := 122) d154_122 (ml154 _ (by decide)) rfl (am_c_aload_n hG (pc := 124) d154_124 rfl (am_c_iload hG (pc := 125) d154_125 rfl (am_c_iload hG (pc := 127) d154_127 rfl (am_c_iload hG (pc := 129) d154_129 rfl (x_virtual_v (t := 10) (o := l0) (as2 := [.inl l10, .inl (w32 (l11 + l8)), .inl l5]) (rest := []) hG (pc := 131) d154_131 mo154 m10_32 (by decide) dp154_137 rfl rfl (Nat.le_of_ble_eq_true rfl) (Nat.le_of_ble_eq_true rfl) rg137 sd137 (e137 _ _ _ _ _) h (fun z9 h => (x_iinc (lv' := [(12, .inl (w32 (l12 + 1))), (11, .inl (w32 (l11 + l8))), (9, .inl (w32 (l9 + l6))), (13, .inl (w32 (2 * l9))), (0, .inr (.inr (10, l0))), (3, .inl l3), (4, .inl l4), (5, .inl l5), (6, .inl l6), (7, .inl l7), (8, .inl l8), (10, .inl l10)]) hG (pc := 134) d154_134 rfl (ml154 _ (by decide)) rfl (x_goto (tgt := 57) hG (pc := 137) d154_137 rfl (am_lvw (lv2 := [(0, .inr (.inr (10, l0))), (3, .inl l3), (4, .inl l4), (5, .inl l5), (6, .inl l6), (7, .inl l7), (8, .inl l8), (9, .inl (w32 (l9 + l6))), (10, .inl l10), (11, .inl (w32 (l11 + l8))), (12, .inl (w32 (l12 + 1)))]) [4, 5, 6, 7, 8, 9, 10, 2, 11, 1, 0] rfl (ih _ _ _ _ _ _ h hI hX))))))))))))))))))))))) (fun h => (am_c_iload hG (pc := 93) d154_93 rfl (am_c_iload hG (pc := 95) d154_95 rfl (am_c_iadd hG (pc := 97) d154_97 (x_istore (lv' := [(9, .inl (w32 (l9 + l7))), (13, .inl (w32 (2 * l9))), (0, .inr (.inr (10, l0))), (3, .inl l3), (4, .inl l4), (5, .inl l5), (6, .inl l6), (7, .inl l7), (8, .inl l8), (10, .inl l10), (11, .inl l11), (12, .inl l12)]) hG (pc := 98) d154_98 (ml154 _ (by decide)) rfl (x_iinc (lv' := [(10, .inl (w32 (l10 + 1))), (9, .inl (w32 (l9 + l7))), (13, .inl (w32 (2 * l9))), (0, .inr (.inr (10, l0))), (3, .inl l3), (4, .inl l4), (5, .inl l5), (6, .inl l6), (7, .inl l7), (8, .inl l8), (11, .inl l11), (12, .inl l12)]) hG (pc := 100) d154_100 rfl (ml154 _ (by decide)) rfl (am_c_iload hG (pc := 103) d154_103 rfl (am_c_iload hG (pc := 105) d154_105 rfl (x_icmp_gt (tgt := 124) hG (pc := 107) d154_107 rfl h (fun h => (am_c_aload_n hG (pc := 124) d154_124 rfl (am_c_iload hG (pc := 125) d154_125 rfl (am_c_iload hG (pc := 127) d154_127 rfl (am_c_iload hG (pc := 129) d154_129 rfl (x_virtual_v (t := 10) (o := l0) (as2 := [.inl (w32 (l10 + 1)), .inl l11, .inl l5]) (rest := []) hG (pc := 131) d154_131 mo154 m10_32 (by decide) dp154_137 rfl rfl (Nat.le_of_ble_eq_true rfl) (Nat.le_of_ble_eq_true rfl) rg137 sd137 (e137 _ _ _ _ _) h (fun z10 h => (x_iinc (lv' := [(12, .inl (w32 (l12 + 1))), (10, .inl (w32 (l10 + 1))), (9, .inl (w32 (l9 + l7))), (13, .inl (w32 (2 * l9))), (0, .inr (.inr (10, l0))), (3, .inl l3), (4, .inl l4), (5, .inl l5), (6, .inl l6), (7, .inl l7), (8, .inl l8), (11, .inl l11)]) hG (pc := 134) d154_134 rfl (ml154 _ (by decide)) rfl (x_goto (tgt := 57) hG (pc := 137) d154_137 rfl (am_lvw (lv2 := [(0, .inr (.inr (10, l0))), (3, .inl l3), (4, .inl l4), (5, .inl l5), (6, .inl l6), (7, .inl l7), (8, .inl l8), (9, .inl (w32 (l9 + l7))), (10, .inl (w32 (l10 + 1))), (11, .inl l11), (12, .inl (w32 (l12 + 1)))]) [4, 5, 6, 7, 8, 9, 10, 2, 1, 11, 0] rfl (ih _ _ _ _ _ _ h hI hX))))))))))) (fun h => (am_c_iload hG (pc := 110) d154_110 rfl (am_c_iload hG (pc := 112) d154_112 rfl (am_c_iadd hG (pc := 114) d154_114 (x_istore (lv' := [(9, .inl (w32 ((w32 (l9 + l7)) + l6))), (10, .inl (w32 (l10 + 1))), (13, .inl (w32 (2 * l9))), (0, .inr (.inr (10, l0))), (3, .inl l3), (4, .inl l4), (5, .inl l5), (6, .inl l6), (7, .inl l7), (8, .inl l8), (11, .inl l11), (12, .inl l12)]) hG (pc := 115) d154_115 (ml154 _ (by decide)) rfl (am_c_iload hG (pc := 117) d154_117 rfl (am_c_iload hG (pc := 119) d154_119 rfl (am_c_iadd hG (pc := 121) d154_121 (x_istore (lv' := [(11, .inl (w32 (l11 + l8))), (9, .inl (w32 ((w32 (l9 + l7)) + l6))), (10, .inl (w32 (l10 + 1))), (13, .inl (w32 (2 * l9))), (0, .inr (.inr (10, l0))), (3, .inl l3), (4, .inl l4), (5, .inl l5), (6, .inl l6), (7, .inl l7), (8, .inl l8), (12, .inl l12)]) hG (pc := 122) d154_122 (ml154 _ (by decide)) rfl (am_c_aload_n hG (pc := 124) d154_124 rfl (am_c_iload hG (pc := 125) d154_125 rfl (am_c_iload hG (pc := 127) d154_127 rfl (am_c_iload hG (pc := 129) d154_129 rfl (x_virtual_v (t := 10) (o := l0) (as2 := [.inl (w32 (l10 + 1)), .inl (w32 (l11 + l8)), .inl l5]) (rest := []) hG (pc := 131) d154_131 mo154 m10_32 (by decide) dp154_137 rfl rfl (Nat.le_of_ble_eq_true rfl) (Nat.le_of_ble_eq_true rfl) rg137 sd137 (e137 _ _ _ _ _) h (fun z11 h => (x_iinc (lv' := [(12, .inl (w32 (l12 + 1))), (11, .inl (w32 (l11 + l8))), (9, .inl (w32 ((w32 (l9 + l7)) + l6))), (10, .inl (w32 (l10 + 1))), (13, .inl (w32 (2 * l9))), (0, .inr (.inr (10, l0))), (3, .inl l3), (4, .inl l4), (5, .inl l5), (6, .inl l6), (7, .inl l7), (8, .inl l8)]) hG (pc := 134) d154_134 rfl (ml154 _ (by decide)) rfl (x_goto (tgt := 57) hG (pc := 137) d154_137 rfl (am_lvw (lv2 := [(0, .inr (.inr (10, l0))), (3, .inl l3), (4, .inl l4), (5, .inl l5), (6, .inl l6), (7, .inl l7), (8, .inl l8), (9, .inl (w32 ((w32 (l9 + l7)) + l6))), (10, .inl (w32 (l10 + 1))), (11, .inl (w32 (l11 + l8))), (12, .inl (w32 (l12 + 1)))]) [5, 6, 7, 8, 9, 10, 11, 2, 3, 1, 0] rfl (ih _ _ _ _ _ _ h hI hX)))))))))))))))))))))))))))))))))))))))))))))))))
def fn154 (o : Nat) (a : Int) (b : Int) (c : Int) (d : Int) (e : Int) (μ : am_M) : Option (Int × am_M) := (am_op (fn153 (w32 (c - a)) μ) (fun z1 => (am_op (fn153 (w32 (d - b)) z1.2) (fun z2 => (if d < b then (am_op (fn137 o a b e z2.2) (fun z3 => (am_op (L154_57 o c d e z1.1 (w32 (-z2.1)) ((-1)) am_fuel (w32 (z1.1 + (w32 (-z2.1)))) a b 0 z3.2) (fun s => am_lp s (fun q1 => some q1) (fun t1 => some (0, t1.2.2.2.2)))))) else (am_op (fn137 o a b e z2.2) (fun z12 => (am_op (L154_57 o c d e z1.1 (w32 (-z2.1)) 1 am_fuel (w32 (z1.1 + (w32 (-z2.1)))) a b 0 z12.2) (fun s => am_lp s (fun q2 => some q2) (fun t2 => some (0, t2.2.2.2.2)))))))))))
def sp154 : am_F := fun vs μ => am_aR 10 vs fun o vs => am_aI vs fun a vs => am_aI vs fun b vs => am_aI vs fun c vs => am_aI vs fun d vs => am_aI vs fun e vs => am_a0 vs (fn154 o a b c d e μ)
theorem e154 (o : Nat) (a : Int) (b : Int) (c : Int) (d : Int) (e : Int) (μ : am_M) : sp154 [.inr (.inr (10, o)), .inl a, .inl b, .inl c, .inl d, .inl e] μ = fn154 o a b c d e μ := am_aR_c.trans (am_aI_c.trans (am_aI_c.trans (am_aI_c.trans (am_aI_c.trans (am_aI_c.trans am_a0_c)))))
theorem sd154 : am_Sd 154 sp154 := by
  refine am_Sd_of (by decide) (fun vs μ μ' x h hv hM => ?_)
  obtain ⟨o, vs0, rfl, h0⟩ := am_aR_s h
  obtain ⟨a, vs1, rfl, h1⟩ := am_aI_s h0
  obtain ⟨b, vs2, rfl, h2⟩ := am_aI_s h1
  obtain ⟨c, vs3, rfl, h3⟩ := am_aI_s h2
  obtain ⟨d, vs4, rfl, h4⟩ := am_aI_s h3
  obtain ⟨e, vs5, rfl, h5⟩ := am_aI_s h4
  obtain ⟨rfl, hz⟩ := am_a0_s h5
  refine ⟨Nat.le_of_ble_eq_true rfl, fun X C hG hr => ?_⟩
  have h := hz
  unfold fn154 at h
  exact (show am_W X C 154 _ 0 0 0 [(0, .inr (.inr (10, o))), (1, .inl a), (2, .inl b), (3, .inl c), (4, .inl d), (5, .inl e)] [] μ from (am_c_iload_n hG (pc := 0) d154_0 rfl (am_c_iload_n hG (pc := 1) d154_1 rfl (am_c_isub hG (pc := 2) d154_2 (x_static_i (as := [.inl (w32 (c - a))]) (rest := []) hG (pc := 3) d154_3 mo154 m10_50 (by decide) dp154_153 rfl rfl (Nat.le_of_ble_eq_true rfl) (Nat.le_of_ble_eq_true rfl) rg153 sd153 (e153 _ _) h (fun z1 h => (x_istore (lv' := [(6, .inl z1.1), (0, .inr (.inr (10, o))), (1, .inl a), (2, .inl b), (3, .inl c), (4, .inl d), (5, .inl e)]) hG (pc := 6) d154_6 (ml154 _ (by decide)) rfl (am_c_iload hG (pc := 8) d154_8 rfl (am_c_iload_n hG (pc := 10) d154_10 rfl (am_c_isub hG (pc := 11) d154_11 (x_static_i (as := [.inl (w32 (d - b))]) (rest := []) hG (pc := 12) d154_12 mo154 m10_50 (by decide) dp154_153 rfl rfl (Nat.le_of_ble_eq_true rfl) (Nat.le_of_ble_eq_true rfl) rg153 sd153 (e153 _ _) h (fun z2 h => (am_c_ineg hG (pc := 15) d154_15 (x_istore (lv' := [(7, .inl (w32 (-z2.1))), (6, .inl z1.1), (0, .inr (.inr (10, o))), (1, .inl a), (2, .inl b), (3, .inl c), (4, .inl d), (5, .inl e)]) hG (pc := 16) d154_16 (ml154 _ (by decide)) rfl (am_c_iload hG (pc := 18) d154_18 rfl (am_c_iload_n hG (pc := 20) d154_20 rfl (x_icmp_lt (tgt := 28) hG (pc := 21) d154_21 rfl h (fun h => (am_c_iconst hG (pc := 28) d154_28 (by decide) (x_istore (lv' := [(8, .inl ((-1))), (7, .inl (w32 (-z2.1))), (6, .inl z1.1), (0, .inr (.inr (10, o))), (1, .inl a), (2, .inl b), (3, .inl c), (4, .inl d), (5, .inl e)]) hG (pc := 29) d154_29 (ml154 _ (by decide)) rfl (am_c_iload hG (pc := 31) d154_31 rfl (am_c_iload hG (pc := 33) d154_33 rfl (am_c_iadd hG (pc := 35) d154_35 (x_istore (lv' := [(9, .inl (w32 (z1.1 + (w32 (-z2.1))))), (8, .inl ((-1))), (7, .inl (w32 (-z2.1))), (6, .inl z1.1), (0, .inr (.inr (10, o))), (1, .inl a), (2, .inl b), (3, .inl c), (4, .inl d), (5, .inl e)]) hG (pc := 36) d154_36 (ml154 _ (by decide)) rfl (am_c_iload_n hG (pc := 38) d154_38 rfl (x_istore (lv' := [(10, .inl a), (9, .inl (w32 (z1.1 + (w32 (-z2.1))))), (8, .inl ((-1))), (7, .inl (w32 (-z2.1))), (6, .inl z1.1), (0, .inr (.inr (10, o))), (1, .inl a), (2, .inl b), (3, .inl c), (4, .inl d), (5, .inl e)]) hG (pc := 39) d154_39 (ml154 _ (by decide)) rfl (am_c_iload_n hG (pc := 41) d154_41 rfl (x_istore (lv' := [(11, .inl b), (10, .inl a), (9, .inl (w32 (z1.1 + (w32 (-z2.1))))), (8, .inl ((-1))), (7, .inl (w32 (-z2.1))), (6, .inl z1.1), (0, .inr (.inr (10, o))), (1, .inl a), (2, .inl b), (3, .inl c), (4, .inl d), (5, .inl e)]) hG (pc := 42) d154_42 (ml154 _ (by decide)) rfl (am_c_aload_n hG (pc := 44) d154_44 rfl (am_c_iload hG (pc := 45) d154_45 rfl (am_c_iload hG (pc := 47) d154_47 rfl (am_c_iload hG (pc := 49) d154_49 rfl (x_virtual_v (t := 10) (o := o) (as2 := [.inl a, .inl b, .inl e]) (rest := []) hG (pc := 51) d154_51 mo154 m10_32 (by decide) dp154_137 rfl rfl (Nat.le_of_ble_eq_true rfl) (Nat.le_of_ble_eq_true rfl) rg137 sd137 (e137 _ _ _ _ _) h (fun z3 h => (am_c_iconst hG (pc := 54) d154_54 (by decide) (x_istore (lv' := [(12, .inl 0), (11, .inl b), (10, .inl a), (9, .inl (w32 (z1.1 + (w32 (-z2.1))))), (8, .inl ((-1))), (7, .inl (w32 (-z2.1))), (6, .inl z1.1), (0, .inr (.inr (10, o))), (1, .inl a), (2, .inl b), (3, .inl c), (4, .inl d), (5, .inl e)]) hG (pc := 55) d154_55 (ml154 _ (by decide)) rfl (x_lp h (fun r h1 h2 => (am_lvw (lv2 := [(0, .inr (.inr (10, o))), (3, .inl c), (4, .inl d), (5, .inl e), (6, .inl z1.1), (7, .inl (w32 (-z2.1))), (8, .inl ((-1))), (9, .inl (w32 (z1.1 + (w32 (-z2.1))))), (10, .inl a), (11, .inl b), (12, .inl 0)]) [7, 10, 11, 12, 6, 5, 4, 3, 2, 1, 0] rfl (w154_57 hG hr _ _ _ _ _ _ _ _ _ _ _ _ _ _ h1 (fun q1 e => am_q1 e h2 (fun h => am_q0 h)) (fun t1 e => am_q2 e h2 (fun h => (xq_vret hG (by decide) hr (pc := 140) d154_140 rk154 (am_q0 h))))))))))))))))))))))))))) (fun h => (am_c_iconst hG (pc := 24) d154_24 (by decide) (x_goto (tgt := 29) hG (pc := 25) d154_25 rfl (x_istore (lv' := [(8, .inl 1), (7, .inl (w32 (-z2.1))), (6, .inl z1.1), (0, .inr (.inr (10, o))), (1, .inl a), (2, .inl b), (3, .inl c), (4, .inl d), (5, .inl e)]) hG (pc := 29) d154_29 (ml154 _ (by decide)) rfl (am_c_iload hG (pc := 31) d154_31 rfl (am_c_iload hG (pc := 33) d154_33 rfl (am_c_iadd hG (pc := 35) d154_35 (x_istore (lv' := [(9, .inl (w32 (z1.1 + (w32 (-z2.1))))), (8, .inl 1), (7, .inl (w32 (-z2.1))), (6, .inl z1.1), (0, .inr (.inr (10, o))), (1, .inl a), (2, .inl b), (3, .inl c), (4, .inl d), (5, .inl e)]) hG (pc := 36) d154_36 (ml154 _ (by decide)) rfl (am_c_iload_n hG (pc := 38) d154_38 rfl (x_istore (lv' := [(10, .inl a), (9, .inl (w32 (z1.1 + (w32 (-z2.1))))), (8, .inl 1), (7, .inl (w32 (-z2.1))), (6, .inl z1.1), (0, .inr (.inr (10, o))), (1, .inl a), (2, .inl b), (3, .inl c), (4, .inl d), (5, .inl e)]) hG (pc := 39) d154_39 (ml154 _ (by decide)) rfl (am_c_iload_n hG (pc := 41) d154_41 rfl (x_istore (lv' := [(11, .inl b), (10, .inl a), (9, .inl (w32 (z1.1 + (w32 (-z2.1))))), (8, .inl 1), (7, .inl (w32 (-z2.1))), (6, .inl z1.1), (0, .inr (.inr (10, o))), (1, .inl a), (2, .inl b), (3, .inl c), (4, .inl d), (5, .inl e)]) hG (pc := 42) d154_42 (ml154 _ (by decide)) rfl (am_c_aload_n hG (pc := 44) d154_44 rfl (am_c_iload hG (pc := 45) d154_45 rfl (am_c_iload hG (pc := 47) d154_47 rfl (am_c_iload hG (pc := 49) d154_49 rfl (x_virtual_v (t := 10) (o := o) (as2 := [.inl a, .inl b, .inl e]) (rest := []) hG (pc := 51) d154_51 mo154 m10_32 (by decide) dp154_137 rfl rfl (Nat.le_of_ble_eq_true rfl) (Nat.le_of_ble_eq_true rfl) rg137 sd137 (e137 _ _ _ _ _) h (fun z12 h => (am_c_iconst hG (pc := 54) d154_54 (by decide) (x_istore (lv' := [(12, .inl 0), (11, .inl b), (10, .inl a), (9, .inl (w32 (z1.1 + (w32 (-z2.1))))), (8, .inl 1), (7, .inl (w32 (-z2.1))), (6, .inl z1.1), (0, .inr (.inr (10, o))), (1, .inl a), (2, .inl b), (3, .inl c), (4, .inl d), (5, .inl e)]) hG (pc := 55) d154_55 (ml154 _ (by decide)) rfl (x_lp h (fun r h1 h2 => (am_lvw (lv2 := [(0, .inr (.inr (10, o))), (3, .inl c), (4, .inl d), (5, .inl e), (6, .inl z1.1), (7, .inl (w32 (-z2.1))), (8, .inl 1), (9, .inl (w32 (z1.1 + (w32 (-z2.1))))), (10, .inl a), (11, .inl b), (12, .inl 0)]) [7, 10, 11, 12, 6, 5, 4, 3, 2, 1, 0] rfl (w154_57 hG hr _ _ _ _ _ _ _ _ _ _ _ _ _ _ h1 (fun q2 e => am_q1 e h2 (fun h => am_q0 h)) (fun t2 e => am_q2 e h2 (fun h => (xq_vret hG (by decide) hr (pc := 140) d154_140 rk154 (am_q0 h)))))))))))))))))))))))))))))))))))))))))))))
/-! ChartPress.paintLines()V -/
theorem D155 (k : Nat) {pc : Nat} {i : Instr} (h : tbi155[k]? = some (pc, i)) (hs : am_isw i = false) {n : Nat} (hn : am_il i = n) : decode (am_mc 155) pc = .ok (i, n) := am_d2 (by decide) (by decide) rfl h hs hn
theorem d155_0 : decode (am_mc 155) 0 = .ok (.aload_n 0, 1) := D155 0 rfl rfl rfl
theorem d155_1 : decode (am_mc 155) 1 = .ok (.getfield 59, 3) := D155 1 rfl rfl rfl
theorem d155_4 : decode (am_mc 155) 4 = .ok (.aload_n 0, 1) := D155 2 rfl rfl rfl
theorem d155_5 : decode (am_mc 155) 5 = .ok (.getfield 52, 3) := D155 3 rfl rfl rfl
theorem d155_8 : decode (am_mc 155) 8 = .ok (.iconst 0, 1) := D155 4 rfl rfl rfl
theorem d155_9 : decode (am_mc 155) 9 = .ok (.invokevirtual 293, 3) := D155 5 rfl rfl rfl
theorem d155_12 : decode (am_mc 155) 12 = .ok (.aload_n 0, 1) := D155 6 rfl rfl rfl
theorem d155_13 : decode (am_mc 155) 13 = .ok (.iconst 0, 1) := D155 7 rfl rfl rfl
theorem d155_14 : decode (am_mc 155) 14 = .ok (.invokevirtual 296, 3) := D155 8 rfl rfl rfl
theorem d155_17 : decode (am_mc 155) 17 = .ok (.iconst 3, 1) := D155 9 rfl rfl rfl
theorem d155_18 : decode (am_mc 155) 18 = .ok (.invokevirtual 233, 3) := D155 10 rfl rfl rfl
theorem d155_21 : decode (am_mc 155) 21 = .ok (.iconst 1, 1) := D155 11 rfl rfl rfl
theorem d155_22 : decode (am_mc 155) 22 = .ok (.istore_n 1, 1) := D155 12 rfl rfl rfl
theorem d155_23 : decode (am_mc 155) 23 = .ok (.iload_n 1, 1) := D155 13 rfl rfl rfl
theorem d155_24 : decode (am_mc 155) 24 = .ok (.aload_n 0, 1) := D155 14 rfl rfl rfl
theorem d155_25 : decode (am_mc 155) 25 = .ok (.getfield 38, 3) := D155 15 rfl rfl rfl
theorem d155_28 : decode (am_mc 155) 28 = .ok (.invokevirtual 129, 3) := D155 16 rfl rfl rfl
theorem d155_31 : decode (am_mc 155) 31 = .ok (.if_icmp .ge 47, 3) := D155 17 rfl rfl rfl
theorem d155_34 : decode (am_mc 155) 34 = .ok (.aload_n 0, 1) := D155 18 rfl rfl rfl
theorem d155_35 : decode (am_mc 155) 35 = .ok (.getfield 59, 3) := D155 19 rfl rfl rfl
theorem d155_38 : decode (am_mc 155) 38 = .ok (.aload_n 0, 1) := D155 20 rfl rfl rfl
theorem d155_39 : decode (am_mc 155) 39 = .ok (.getfield 52, 3) := D155 21 rfl rfl rfl
theorem d155_42 : decode (am_mc 155) 42 = .ok (.iload_n 1, 1) := D155 22 rfl rfl rfl
theorem d155_43 : decode (am_mc 155) 43 = .ok (.iconst 1, 1) := D155 23 rfl rfl rfl
theorem d155_44 : decode (am_mc 155) 44 = .ok (.isub, 1) := D155 24 rfl rfl rfl
theorem d155_45 : decode (am_mc 155) 45 = .ok (.invokevirtual 293, 3) := D155 25 rfl rfl rfl
theorem d155_48 : decode (am_mc 155) 48 = .ok (.aload_n 0, 1) := D155 26 rfl rfl rfl
theorem d155_49 : decode (am_mc 155) 49 = .ok (.iload_n 1, 1) := D155 27 rfl rfl rfl
theorem d155_50 : decode (am_mc 155) 50 = .ok (.iconst 1, 1) := D155 28 rfl rfl rfl
theorem d155_51 : decode (am_mc 155) 51 = .ok (.isub, 1) := D155 29 rfl rfl rfl
theorem d155_52 : decode (am_mc 155) 52 = .ok (.invokevirtual 296, 3) := D155 30 rfl rfl rfl
theorem d155_55 : decode (am_mc 155) 55 = .ok (.aload_n 0, 1) := D155 31 rfl rfl rfl
theorem d155_56 : decode (am_mc 155) 56 = .ok (.getfield 52, 3) := D155 32 rfl rfl rfl
theorem d155_59 : decode (am_mc 155) 59 = .ok (.iload_n 1, 1) := D155 33 rfl rfl rfl
theorem d155_60 : decode (am_mc 155) 60 = .ok (.invokevirtual 293, 3) := D155 34 rfl rfl rfl
theorem d155_63 : decode (am_mc 155) 63 = .ok (.aload_n 0, 1) := D155 35 rfl rfl rfl
theorem d155_64 : decode (am_mc 155) 64 = .ok (.iload_n 1, 1) := D155 36 rfl rfl rfl
theorem d155_65 : decode (am_mc 155) 65 = .ok (.invokevirtual 296, 3) := D155 37 rfl rfl rfl
theorem d155_68 : decode (am_mc 155) 68 = .ok (.iconst 3, 1) := D155 38 rfl rfl rfl
theorem d155_69 : decode (am_mc 155) 69 = .ok (.invokevirtual 303, 3) := D155 39 rfl rfl rfl
theorem d155_72 : decode (am_mc 155) 72 = .ok (.iinc 1 1, 3) := D155 40 rfl rfl rfl
theorem d155_75 : decode (am_mc 155) 75 = .ok (.goto (-52), 3) := D155 41 rfl rfl rfl
theorem d155_78 : decode (am_mc 155) 78 = .ok (.return_, 1) := D155 42 rfl rfl rfl
theorem ml155 : ∀ n, n < 2 → n < am_ml 155 := fun _ h => h
theorem mo155 : am_mo 155 = 0 := by decide +kernel
theorem rk155 : am_rk 155 = 0 := by decide +kernel
theorem rg155 : am_rcg 155 = 1 := by decide +kernel
theorem m0_293 : tb_m 0 293 = some (128, 2, 1, 0) := by decide +kernel
theorem m0_296 : tb_m 0 296 = some (152, 2, 1, 0) := by decide +kernel
theorem m0_303 : tb_m 0 303 = some (154, 6, 0, 0) := by decide +kernel
theorem dp155_101 : am_md 101 + 1 ≤ am_md 155 ∧ 8 + (am_ml 101 + 11) + am_lr 101 ≤ am_lr 155 := by decide +kernel
theorem dp155_128 : am_md 128 + 1 ≤ am_md 155 ∧ 8 + (am_ml 128 + 11) + am_lr 128 ≤ am_lr 155 := by decide +kernel
theorem dp155_137 : am_md 137 + 1 ≤ am_md 155 ∧ 8 + (am_ml 137 + 11) + am_lr 137 ≤ am_lr 155 := by decide +kernel
theorem dp155_152 : am_md 152 + 1 ≤ am_md 155 ∧ 8 + (am_ml 152 + 11) + am_lr 152 ≤ am_lr 155 := by decide +kernel
theorem dp155_154 : am_md 154 + 1 ≤ am_md 155 ∧ 8 + (am_ml 154 + 11) + am_lr 154 ≤ am_lr 155 := by decide +kernel
def L155_23 (l0 : Nat) : Nat → Int → am_M → Option ((Int × am_M) ⊕ (Int × am_M))
  | 0, _, _ => none
  | n + 1, l1, μ => (am_op (fn101 (am_ref l0 4) μ) (fun z4 => (if l1 < z4.1 then (am_op (fn128 (am_ref l0 6) (w32 (l1 - 1)) z4.2) (fun z5 => (am_op (fn152 l0 (w32 (l1 - 1)) z5.2) (fun z6 => (am_op (fn128 (am_ref l0 6) l1 z6.2) (fun z7 => (am_op (fn152 l0 l1 z7.2) (fun z8 => (am_op (fn154 (am_ref l0 7) z5.1 z6.1 z7.1 z8.1 3 z8.2) (fun z9 => (L155_23 l0 n (w32 (l1 + 1)) z9.2))))))))))) else (some (.inr (l1, z4.2))))))
theorem w155_23 {X : am_K} {C : am_C} {Q : State → Prop} (hG : am_G X C 155 0 0 (0, fun _ => 0)) (hr : match X with | (_, _, _, _, _, _, _, _, meth, _) => meth.sig.returnType = am_mr 155 ∧ meth.locks = false) (l0 : Nat) : ∀ (n : Nat) (l1 : Int) (μ : am_M) (r : (Int × am_M) ⊕ (Int × am_M)), L155_23 l0 n l1 μ = some r → (∀ q, r = .inl q → Q = am_E X C 155 q.1 q.2) → (∀ t, r = .inr t → am_W X C 155 Q 0 0 78 [] [] t.2) → am_W X C 155 Q 0 0 23 [(0, .inr (.inr (0, l0))), (1, .inl l1)] [] μ := by
  intro n
  induction n with
  | zero => intro l1 μ r h; cases h
  | succ n ih =>
    intro l1 μ r h hI hX
    unfold L155_23 at h
    exact (am_c_iload_n hG (pc := 23) d155_23 rfl (am_c_aload_n hG (pc := 24) d155_24 rfl (x_get_n (v := .inr (.inr (6, am_ref l0 4))) hG (pc := 25) d155_25 mo155 f0_38 rfl (x_virtual_i (t := 6) (o := am_ref l0 4) (as2 := []) (rest := [.inl l1]) hG (pc := 28) d155_28 mo155 m0_129 (by decide) dp155_101 rfl rfl (Nat.le_of_ble_eq_true rfl) (Nat.le_of_ble_eq_true rfl) rg101 sd101 (e101 _ _) h (fun z4 h => (x_icmp_ge (tgt := 78) hG (pc := 31) d155_31 rfl h (fun h => (am_lvw (lv2 := []) [] rfl (hX (l1, z4.2) (Option.some.inj h).symm))) (fun h => (am_c_aload_n hG (pc := 34) d155_34 rfl (x_get_n (v := .inr (.inr (10, am_ref l0 7))) hG (pc := 35) d155_35 mo155 f0_59 rfl (am_c_aload_n hG (pc := 38) d155_38 rfl (x_get_n (v := .inr (.inr (9, am_ref l0 6))) hG (pc := 39) d155_39 mo155 f0_52 rfl (am_c_iload_n hG (pc := 42) d155_42 rfl (am_c_iconst hG (pc := 43) d155_43 (by decide) (am_c_isub hG (pc := 44) d155_44 (x_virtual_i (t := 9) (o := am_ref l0 6) (as2 := [.inl (w32 (l1 - 1))]) (rest := [.inr (.inr (10, am_ref l0 7))]) hG (pc := 45) d155_45 mo155 m0_293 (by decide) dp155_128 rfl rfl (Nat.le_of_ble_eq_true rfl) (Nat.le_of_ble_eq_true rfl) rg128 sd128 (e128 _ _ _) h (fun z5 h => (am_c_aload_n hG (pc := 48) d155_48 rfl (am_c_iload_n hG (pc := 49) d155_49 rfl (am_c_iconst hG (pc := 50) d155_50 (by decide) (am_c_isub hG (pc := 51) d155_51 (x_virtual_i (t := 0) (o := l0) (as2 := [.inl (w32 (l1 - 1))]) (rest := [.inl z5.1, .inr (.inr (10, am_ref l0 7))]) hG (pc := 52) d155_52 mo155 m0_296 (by decide) dp155_152 rfl rfl (Nat.le_of_ble_eq_true rfl) (Nat.le_of_ble_eq_true rfl) rg152 sd152 (e152 _ _ _) h (fun z6 h => (am_c_aload_n hG (pc := 55) d155_55 rfl (x_get_n (v := .inr (.inr (9, am_ref l0 6))) hG (pc := 56) d155_56 mo155 f0_52 rfl (am_c_iload_n hG (pc := 59) d155_59 rfl (x_virtual_i (t := 9) (o := am_ref l0 6) (as2 := [.inl l1]) (rest := [.inl z6.1, .inl z5.1, .inr (.inr (10, am_ref l0 7))]) hG (pc := 60) d155_60 mo155 m0_293 (by decide) dp155_128 rfl rfl (Nat.le_of_ble_eq_true rfl) (Nat.le_of_ble_eq_true rfl) rg128 sd128 (e128 _ _ _) h (fun z7 h => (am_c_aload_n hG (pc := 63) d155_63 rfl (am_c_iload_n hG (pc := 64) d155_64 rfl (x_virtual_i (t := 0) (o := l0) (as2 := [.inl l1]) (rest := [.inl z7.1, .inl z6.1, .inl z5.1, .inr (.inr (10, am_ref l0 7))]) hG (pc := 65) d155_65 mo155 m0_296 (by decide) dp155_152 rfl rfl (Nat.le_of_ble_eq_true rfl) (Nat.le_of_ble_eq_true rfl) rg152 sd152 (e152 _ _ _) h (fun z8 h => (am_c_iconst hG (pc := 68) d155_68 (by decide) (x_virtual_v (t := 10) (o := am_ref l0 7) (as2 := [.inl z5.1, .inl z6.1, .inl z7.1, .inl z8.1, .inl 3]) (rest := []) hG (pc := 69) d155_69 mo155 m0_303 (by decide) dp155_154 rfl rfl (Nat.le_of_ble_eq_true rfl) (Nat.le_of_ble_eq_true rfl) rg154 sd154 (e154 _ _ _ _ _ _ _) h (fun z9 h => (x_iinc (lv' := [(1, .inl (w32 (l1 + 1))), (0, .inr (.inr (0, l0)))]) hG (pc := 72) d155_72 rfl (ml155 _ (by decide)) rfl (x_goto (tgt := 23) hG (pc := 75) d155_75 rfl (am_lvw (lv2 := [(0, .inr (.inr (0, l0))), (1, .inl (w32 (l1 + 1)))]) [1, 0] rfl (ih _ _ _ h hI hX))))))))))))))))))))))))))))))))))))))
def fn155 (o : Nat) (μ : am_M) : Option (Int × am_M) := (am_op (fn128 (am_ref o 6) 0 μ) (fun z1 => (am_op (fn152 o 0 z1.2) (fun z2 => (am_op (fn137 (am_ref o 7) z1.1 z2.1 3 z2.2) (fun z3 => (am_op (L155_23 o am_fuel 1 z3.2) (fun s => am_lp s (fun q1 => some q1) (fun t1 => some (0, t1.2))))))))))
def sp155 : am_F := fun vs μ => am_aR 0 vs fun o vs => am_a0 vs (fn155 o μ)
theorem e155 (o : Nat) (μ : am_M) : sp155 [.inr (.inr (0, o))] μ = fn155 o μ := am_aR_c.trans am_a0_c
theorem sd155 : am_Sd 155 sp155 := by
  refine am_Sd_of (by decide) (fun vs μ μ' x h hv hM => ?_)
  obtain ⟨o, vs0, rfl, h0⟩ := am_aR_s h
  obtain ⟨rfl, hz⟩ := am_a0_s h0
  refine ⟨Nat.le_of_ble_eq_true rfl, fun X C hG hr => ?_⟩
  have h := hz
  unfold fn155 at h
  exact (show am_W X C 155 _ 0 0 0 [(0, .inr (.inr (0, o)))] [] μ from (am_c_aload_n hG (pc := 0) d155_0 rfl (x_get_n (v := .inr (.inr (10, am_ref o 7))) hG (pc := 1) d155_1 mo155 f0_59 rfl (am_c_aload_n hG (pc := 4) d155_4 rfl (x_get_n (v := .inr (.inr (9, am_ref o 6))) hG (pc := 5) d155_5 mo155 f0_52 rfl (am_c_iconst hG (pc := 8) d155_8 (by decide) (x_virtual_i (t := 9) (o := am_ref o 6) (as2 := [.inl 0]) (rest := [.inr (.inr (10, am_ref o 7))]) hG (pc := 9) d155_9 mo155 m0_293 (by decide) dp155_128 rfl rfl (Nat.le_of_ble_eq_true rfl) (Nat.le_of_ble_eq_true rfl) rg128 sd128 (e128 _ _ _) h (fun z1 h => (am_c_aload_n hG (pc := 12) d155_12 rfl (am_c_iconst hG (pc := 13) d155_13 (by decide) (x_virtual_i (t := 0) (o := o) (as2 := [.inl 0]) (rest := [.inl z1.1, .inr (.inr (10, am_ref o 7))]) hG (pc := 14) d155_14 mo155 m0_296 (by decide) dp155_152 rfl rfl (Nat.le_of_ble_eq_true rfl) (Nat.le_of_ble_eq_true rfl) rg152 sd152 (e152 _ _ _) h (fun z2 h => (am_c_iconst hG (pc := 17) d155_17 (by decide) (x_virtual_v (t := 10) (o := am_ref o 7) (as2 := [.inl z1.1, .inl z2.1, .inl 3]) (rest := []) hG (pc := 18) d155_18 mo155 m0_233 (by decide) dp155_137 rfl rfl (Nat.le_of_ble_eq_true rfl) (Nat.le_of_ble_eq_true rfl) rg137 sd137 (e137 _ _ _ _ _) h (fun z3 h => (am_c_iconst hG (pc := 21) d155_21 (by decide) (x_istore_n (lv' := [(1, .inl 1), (0, .inr (.inr (0, o)))]) hG (pc := 22) d155_22 (ml155 _ (by decide)) rfl (x_lp h (fun r h1 h2 => (am_lvw (lv2 := [(0, .inr (.inr (0, o))), (1, .inl 1)]) [1, 0] rfl (w155_23 hG hr _ _ _ _ _ h1 (fun q1 e => am_q1 e h2 (fun h => am_q0 h)) (fun t1 e => am_q2 e h2 (fun h => (xq_vret hG (by decide) hr (pc := 78) d155_78 rk155 (am_q0 h)))))))))))))))))))))))))
