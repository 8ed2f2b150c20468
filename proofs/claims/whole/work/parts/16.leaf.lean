/-! Methods without loops over such methods: functions, contracts, equations (written by program). -/
/-! ChartPress$Script.byteAt(JI)I -/
theorem D0 (k : Nat) {pc : Nat} {i : Instr} (h : tbi0[k]? = some (pc, i)) (hs : am_isw i = false) {n : Nat} (hn : am_il i = n) : decode (am_mc 0) pc = .ok (i, n) := am_d2 (by decide) (by decide) rfl h hs hn
theorem d0_0 : decode (am_mc 0) 0 = .ok (.lload_n 0, 1) := D0 0 rfl rfl rfl
theorem d0_1 : decode (am_mc 0) 1 = .ok (.iload_n 2, 1) := D0 1 rfl rfl rfl
theorem d0_2 : decode (am_mc 0) 2 = .ok (.lushr, 1) := D0 2 rfl rfl rfl
theorem d0_3 : decode (am_mc 0) 3 = .ok (.l2i, 1) := D0 3 rfl rfl rfl
theorem d0_4 : decode (am_mc 0) 4 = .ok (.sipush 255, 3) := D0 4 rfl rfl rfl
theorem d0_7 : decode (am_mc 0) 7 = .ok (.iand, 1) := D0 5 rfl rfl rfl
theorem d0_8 : decode (am_mc 0) 8 = .ok (.ireturn, 1) := D0 6 rfl rfl rfl
theorem ml0 : ∀ n, n < 3 → n < am_ml 0 := fun _ h => h
theorem mo0 : am_mo 0 = 1 := by decide +kernel
theorem mr0 : am_mr 0 = some .int := by decide +kernel
theorem rg0 : am_rcg 0 = 0 := by decide +kernel
def fn0 (a : Int) (b : Int) (μ : am_M) : Option (Int × am_M) := some (o_and (o_l2i (o_ushrl a b)) 255, μ)
def sp0 : am_F := fun vs μ => am_aJ vs fun a vs => am_aI vs fun b vs => am_a0 vs (fn0 a b μ)
theorem e0 (a : Int) (b : Int) (μ : am_M) : sp0 [.inr (.inl a), .inl b] μ = fn0 a b μ := by simp only [sp0, am_aR_c, am_aI_c, am_aJ_c, am_a0_c]
theorem sd0 : am_Sd 0 sp0 := by
  refine am_Sd_of (by decide) (fun vs μ μ' x h hv hM => ?_)
  obtain ⟨a, vs0, rfl, h0⟩ := am_aJ_s h
  obtain ⟨b, vs1, rfl, h1⟩ := am_aI_s h0
  obtain ⟨rfl, hz⟩ := am_a0_s h1
  refine ⟨Nat.le_of_ble_eq_true rfl, fun X C hG hr => ?_⟩
  have h := hz
  unfold fn0 at h
  exact (show am_W X C 0 _ 0 0 0 [(0, .inr (.inl a)), (2, .inl b)] [] μ from (am_c_lload_n hG (pc := 0) d0_0 rfl (am_c_iload_n hG (pc := 1) d0_1 rfl (am_c_lushr hG (pc := 2) d0_2 (am_c_l2i hG (pc := 3) d0_3 (am_c_sipush hG (pc := 4) d0_4 (by decide) (am_c_iand hG (pc := 7) d0_7 (x_iret hG (by decide) hr (pc := 8) d0_8 mr0 h))))))))
/-! ChartPress$Script.allows(I)Z -/
theorem D1 (k : Nat) {pc : Nat} {i : Instr} (h : tbi1[k]? = some (pc, i)) (hs : am_isw i = false) {n : Nat} (hn : am_il i = n) : decode (am_mc 1) pc = .ok (i, n) := am_d2 (by decide) (by decide) rfl h hs hn
theorem d1_0 : decode (am_mc 1) 0 = .ok (.iload_n 1, 1) := D1 0 rfl rfl rfl
theorem d1_1 : decode (am_mc 1) 1 = .ok (.bipush 32, 2) := D1 1 rfl rfl rfl
theorem d1_3 : decode (am_mc 1) 3 = .ok (.if_icmp .lt 9, 3) := D1 2 rfl rfl rfl
theorem d1_6 : decode (am_mc 1) 6 = .ok (.iload_n 1, 1) := D1 3 rfl rfl rfl
theorem d1_7 : decode (am_mc 1) 7 = .ok (.bipush 126, 2) := D1 4 rfl rfl rfl
theorem d1_9 : decode (am_mc 1) 9 = .ok (.if_icmp .le 22, 3) := D1 5 rfl rfl rfl
theorem d1_12 : decode (am_mc 1) 12 = .ok (.aload_n 0, 1) := D1 6 rfl rfl rfl
theorem d1_13 : decode (am_mc 1) 13 = .ok (.getfield 13, 3) := D1 7 rfl rfl rfl
theorem d1_16 : decode (am_mc 1) 16 = .ok (.ifCond .eq 19, 3) := D1 8 rfl rfl rfl
theorem d1_19 : decode (am_mc 1) 19 = .ok (.iload_n 1, 1) := D1 9 rfl rfl rfl
theorem d1_20 : decode (am_mc 1) 20 = .ok (.bipush 10, 2) := D1 10 rfl rfl rfl
theorem d1_22 : decode (am_mc 1) 22 = .ok (.if_icmp .eq 9, 3) := D1 11 rfl rfl rfl
theorem d1_25 : decode (am_mc 1) 25 = .ok (.iload_n 1, 1) := D1 12 rfl rfl rfl
theorem d1_26 : decode (am_mc 1) 26 = .ok (.bipush 13, 2) := D1 13 rfl rfl rfl
theorem d1_28 : decode (am_mc 1) 28 = .ok (.if_icmp .ne 7, 3) := D1 14 rfl rfl rfl
theorem d1_31 : decode (am_mc 1) 31 = .ok (.iconst 1, 1) := D1 15 rfl rfl rfl
theorem d1_32 : decode (am_mc 1) 32 = .ok (.goto 4, 3) := D1 16 rfl rfl rfl
theorem d1_35 : decode (am_mc 1) 35 = .ok (.iconst 0, 1) := D1 17 rfl rfl rfl
theorem d1_36 : decode (am_mc 1) 36 = .ok (.ireturn, 1) := D1 18 rfl rfl rfl
theorem ml1 : ∀ n, n < 2 → n < am_ml 1 := fun _ h => h
theorem mo1 : am_mo 1 = 1 := by decide +kernel
theorem mr1 : am_mr 1 = some .boolean := by decide +kernel
theorem rg1 : am_rcg 1 = 2 := by decide +kernel
theorem f1_13 : tb_f 1 13 = some (1, 1, 2, 0) := by decide +kernel
def fn1 (o : Nat) (a : Int) (μ : am_M) : Option (Int × am_M) := (if a < 32 then (if μ o 1 = 0 then some (0, μ) else (if a = 10 then some (1, μ) else (if a = 13 then some (1, μ) else some (0, μ)))) else (if 126 < a then (if μ o 1 = 0 then some (0, μ) else (if a = 10 then some (1, μ) else (if a = 13 then some (1, μ) else some (0, μ)))) else some (1, μ)))
def sp1 : am_F := fun vs μ => am_aR 1 vs fun o vs => am_aI vs fun a vs => am_a0 vs (fn1 o a μ)
theorem e1 (o : Nat) (a : Int) (μ : am_M) : sp1 [.inr (.inr (1, o)), .inl a] μ = fn1 o a μ := by simp only [sp1, am_aR_c, am_aI_c, am_aJ_c, am_a0_c]
theorem sd1 : am_Sd 1 sp1 := by
  refine am_Sd_of (by decide) (fun vs μ μ' x h hv hM => ?_)
  obtain ⟨o, vs0, rfl, h0⟩ := am_aR_s h
  obtain ⟨a, vs1, rfl, h1⟩ := am_aI_s h0
  obtain ⟨rfl, hz⟩ := am_a0_s h1
  refine ⟨Nat.le_of_ble_eq_true rfl, fun X C hG hr => ?_⟩
  have h := hz
  unfold fn1 at h
  exact (show am_W X C 1 _ 0 0 0 [(0, .inr (.inr (1, o))), (1, .inl a)] [] μ from (am_c_iload_n hG (pc := 0) d1_0 rfl (am_c_bipush hG (pc := 1) d1_1 (by decide) (x_icmp_lt (tgt := 12) hG (pc := 3) d1_3 rfl h (fun h => (am_c_aload_n hG (pc := 12) d1_12 rfl (x_get_n (v := .inl (μ o 1)) hG (pc := 13) d1_13 mo1 f1_13 rfl (x_if_eq (tgt := 35) hG (pc := 16) d1_16 rfl h (fun h => (am_c_iconst hG (pc := 35) d1_35 (by decide) (x_zret0 hG (by decide) hr (pc := 36) d1_36 mr1 h))) (fun h => (am_c_iload_n hG (pc := 19) d1_19 rfl (am_c_bipush hG (pc := 20) d1_20 (by decide) (x_icmp_eq (tgt := 31) hG (pc := 22) d1_22 rfl h (fun h => (am_c_iconst hG (pc := 31) d1_31 (by decide) (x_goto (tgt := 36) hG (pc := 32) d1_32 rfl (x_zret1 hG (by decide) hr (pc := 36) d1_36 mr1 h)))) (fun h => (am_c_iload_n hG (pc := 25) d1_25 rfl (am_c_bipush hG (pc := 26) d1_26 (by decide) (x_icmp_ne (tgt := 35) hG (pc := 28) d1_28 rfl h (fun h => (am_c_iconst hG (pc := 35) d1_35 (by decide) (x_zret0 hG (by decide) hr (pc := 36) d1_36 mr1 h))) (fun h => (am_c_iconst hG (pc := 31) d1_31 (by decide) (x_goto (tgt := 36) hG (pc := 32) d1_32 rfl (x_zret1 hG (by decide) hr (pc := 36) d1_36 mr1 h)))))))))))))))) (fun h => (am_c_iload_n hG (pc := 6) d1_6 rfl (am_c_bipush hG (pc := 7) d1_7 (by decide) (x_icmp_le (tgt := 31) hG (pc := 9) d1_9 rfl h (fun h => (am_c_iconst hG (pc := 31) d1_31 (by decide) (x_goto (tgt := 36) hG (pc := 32) d1_32 rfl (x_zret1 hG (by decide) hr (pc := 36) d1_36 mr1 h)))) (fun h => (am_c_aload_n hG (pc := 12) d1_12 rfl (x_get_n (v := .inl (μ o 1)) hG (pc := 13) d1_13 mo1 f1_13 rfl (x_if_eq (tgt := 35) hG (pc := 16) d1_16 rfl h (fun h => (am_c_iconst hG (pc := 35) d1_35 (by decide) (x_zret0 hG (by decide) hr (pc := 36) d1_36 mr1 h))) (fun h => (am_c_iload_n hG (pc := 19) d1_19 rfl (am_c_bipush hG (pc := 20) d1_20 (by decide) (x_icmp_eq (tgt := 31) hG (pc := 22) d1_22 rfl h (fun h => (am_c_iconst hG (pc := 31) d1_31 (by decide) (x_goto (tgt := 36) hG (pc := 32) d1_32 rfl (x_zret1 hG (by decide) hr (pc := 36) d1_36 mr1 h)))) (fun h => (am_c_iload_n hG (pc := 25) d1_25 rfl (am_c_bipush hG (pc := 26) d1_26 (by decide) (x_icmp_ne (tgt := 35) hG (pc := 28) d1_28 rfl h (fun h => (am_c_iconst hG (pc := 35) d1_35 (by decide) (x_zret0 hG (by decide) hr (pc := 36) d1_36 mr1 h))) (fun h => (am_c_iconst hG (pc := 31) d1_31 (by decide) (x_goto (tgt := 36) hG (pc := 32) d1_32 rfl (x_zret1 hG (by decide) hr (pc := 36) d1_36 mr1 h))))))))))))))))))))))))
/-! ChartPress$Script.clear()V -/
theorem D5 (k : Nat) {pc : Nat} {i : Instr} (h : tbi5[k]? = some (pc, i)) (hs : am_isw i = false) {n : Nat} (hn : am_il i = n) : decode (am_mc 5) pc = .ok (i, n) := am_d2 (by decide) (by decide) rfl h hs hn
theorem d5_0 : decode (am_mc 5) 0 = .ok (.aload_n 0, 1) := D5 0 rfl rfl rfl
theorem d5_1 : decode (am_mc 5) 1 = .ok (.iconst 0, 1) := D5 1 rfl rfl rfl
theorem d5_2 : decode (am_mc 5) 2 = .ok (.putfield 17, 3) := D5 2 rfl rfl rfl
theorem d5_5 : decode (am_mc 5) 5 = .ok (.return_, 1) := D5 3 rfl rfl rfl
theorem ml5 : ∀ n, n < 1 → n < am_ml 5 := fun _ h => h
theorem mo5 : am_mo 5 = 1 := by decide +kernel
theorem rk5 : am_rk 5 = 0 := by decide +kernel
theorem rg5 : am_rcg 5 = 2 := by decide +kernel
theorem f1_17 : tb_f 1 17 = some (1, 2, 0, 0) := by decide +kernel
def fn5 (o : Nat) (μ : am_M) : Option (Int × am_M) := some (0, am_up μ o 2 0)
def sp5 : am_F := fun vs μ => am_aR 1 vs fun o vs => am_a0 vs (fn5 o μ)
theorem e5 (o : Nat) (μ : am_M) : sp5 [.inr (.inr (1, o))] μ = fn5 o μ := by simp only [sp5, am_aR_c, am_aI_c, am_aJ_c, am_a0_c]
theorem sd5 : am_Sd 5 sp5 := by
  refine am_Sd_of (by decide) (fun vs μ μ' x h hv hM => ?_)
  obtain ⟨o, vs0, rfl, h0⟩ := am_aR_s h
  obtain ⟨rfl, hz⟩ := am_a0_s h0
  refine ⟨Nat.le_of_ble_eq_true rfl, fun X C hG hr => ?_⟩
  have h := hz
  unfold fn5 at h
  exact (show am_W X C 5 _ 0 0 0 [(0, .inr (.inr (1, o)))] [] μ from (am_c_aload_n hG (pc := 0) d5_0 rfl (am_c_iconst hG (pc := 1) d5_1 (by decide) (x_put_i hG (pc := 2) d5_2 mo5 f1_17 (by decide) (x_vret hG (by decide) hr (pc := 5) d5_5 rk5 h)))))
/-! ChartPress.wipe(Z)V -/
theorem D6 (k : Nat) {pc : Nat} {i : Instr} (h : tbi6[k]? = some (pc, i)) (hs : am_isw i = false) {n : Nat} (hn : am_il i = n) : decode (am_mc 6) pc = .ok (i, n) := am_d2 (by decide) (by decide) rfl h hs hn
theorem d6_0 : decode (am_mc 6) 0 = .ok (.iload_n 1, 1) := D6 0 rfl rfl rfl
theorem d6_1 : decode (am_mc 6) 1 = .ok (.ifCond .eq 13, 3) := D6 1 rfl rfl rfl
theorem d6_4 : decode (am_mc 6) 4 = .ok (.aload_n 0, 1) := D6 2 rfl rfl rfl
theorem d6_5 : decode (am_mc 6) 5 = .ok (.getfield 14, 3) := D6 3 rfl rfl rfl
theorem d6_8 : decode (am_mc 6) 8 = .ok (.invokevirtual 87, 3) := D6 4 rfl rfl rfl
theorem d6_11 : decode (am_mc 6) 11 = .ok (.goto 10, 3) := D6 5 rfl rfl rfl
theorem d6_14 : decode (am_mc 6) 14 = .ok (.aload_n 0, 1) := D6 6 rfl rfl rfl
theorem d6_15 : decode (am_mc 6) 15 = .ok (.getfield 18, 3) := D6 7 rfl rfl rfl
theorem d6_18 : decode (am_mc 6) 18 = .ok (.invokevirtual 87, 3) := D6 8 rfl rfl rfl
theorem d6_21 : decode (am_mc 6) 21 = .ok (.return_, 1) := D6 9 rfl rfl rfl
theorem ml6 : ∀ n, n < 2 → n < am_ml 6 := fun _ h => h
theorem mo6 : am_mo 6 = 0 := by decide +kernel
theorem rk6 : am_rk 6 = 0 := by decide +kernel
theorem rg6 : am_rcg 6 = 1 := by decide +kernel
theorem f0_14 : tb_f 0 14 = some (0, 0, 5, 1) := by decide +kernel
theorem f0_18 : tb_f 0 18 = some (0, 1, 5, 1) := by decide +kernel
theorem m0_87 : tb_m 0 87 = some (5, 1, 0, 0) := by decide +kernel
theorem dp6_5 : am_md 5 + 1 ≤ am_md 6 ∧ 8 + (am_ml 5 + 11) + am_lr 5 ≤ am_lr 6 := by decide +kernel
def fn6 (o : Nat) (a : Int) (μ : am_M) : Option (Int × am_M) := (if a = 0 then (am_op (fn5 (am_ref o 1) μ) (fun z1 => some (0, z1.2))) else (am_op (fn5 (am_ref o 0) μ) (fun z2 => some (0, z2.2))))
def sp6 : am_F := fun vs μ => am_aR 0 vs fun o vs => am_aI vs fun a vs => am_a0 vs (fn6 o a μ)
theorem e6 (o : Nat) (a : Int) (μ : am_M) : sp6 [.inr (.inr (0, o)), .inl a] μ = fn6 o a μ := by simp only [sp6, am_aR_c, am_aI_c, am_aJ_c, am_a0_c]
theorem sd6 : am_Sd 6 sp6 := by
  refine am_Sd_of (by decide) (fun vs μ μ' x h hv hM => ?_)
  obtain ⟨o, vs0, rfl, h0⟩ := am_aR_s h
  obtain ⟨a, vs1, rfl, h1⟩ := am_aI_s h0
  obtain ⟨rfl, hz⟩ := am_a0_s h1
  refine ⟨Nat.le_of_ble_eq_true rfl, fun X C hG hr => ?_⟩
  have h := hz
  unfold fn6 at h
  exact (show am_W X C 6 _ 0 0 0 [(0, .inr (.inr (0, o))), (1, .inl a)] [] μ from (am_c_iload_n hG (pc := 0) d6_0 rfl (x_if_eq (tgt := 14) hG (pc := 1) d6_1 rfl h (fun h => (am_c_aload_n hG (pc := 14) d6_14 rfl (x_get_n (v := .inr (.inr (1, am_ref o 1))) hG (pc := 15) d6_15 mo6 f0_18 rfl (x_virtual_v (t := 1) (o := am_ref o 1) (as2 := []) (rest := []) hG (pc := 18) d6_18 mo6 m0_87 (by decide) dp6_5 rfl rfl (Nat.le_of_ble_eq_true rfl) (Nat.le_of_ble_eq_true rfl) rg5 sd5 (e5 _ _) h (fun z1 h => (x_vret hG (by decide) hr (pc := 21) d6_21 rk6 h)))))) (fun h => (am_c_aload_n hG (pc := 4) d6_4 rfl (x_get_n (v := .inr (.inr (1, am_ref o 0))) hG (pc := 5) d6_5 mo6 f0_14 rfl (x_virtual_v (t := 1) (o := am_ref o 0) (as2 := []) (rest := []) hG (pc := 8) d6_8 mo6 m0_87 (by decide) dp6_5 rfl rfl (Nat.le_of_ble_eq_true rfl) (Nat.le_of_ble_eq_true rfl) rg5 sd5 (e5 _ _) h (fun z2 h => (x_goto (tgt := 21) hG (pc := 11) d6_11 rfl (x_vret hG (by decide) hr (pc := 21) d6_21 rk6 h))))))))))
/-! ChartPress$Sheet.resize(II)Z -/
theorem D7 (k : Nat) {pc : Nat} {i : Instr} (h : tbi7[k]? = some (pc, i)) (hs : am_isw i = false) {n : Nat} (hn : am_il i = n) : decode (am_mc 7) pc = .ok (i, n) := am_d2 (by decide) (by decide) rfl h hs hn
theorem d7_0 : decode (am_mc 7) 0 = .ok (.iload_n 1, 1) := D7 0 rfl rfl rfl
theorem d7_1 : decode (am_mc 7) 1 = .ok (.bipush 20, 2) := D7 1 rfl rfl rfl
theorem d7_3 : decode (am_mc 7) 3 = .ok (.if_icmp .lt 21, 3) := D7 2 rfl rfl rfl
theorem d7_6 : decode (am_mc 7) 6 = .ok (.iload_n 1, 1) := D7 3 rfl rfl rfl
theorem d7_7 : decode (am_mc 7) 7 = .ok (.bipush 96, 2) := D7 4 rfl rfl rfl
theorem d7_9 : decode (am_mc 7) 9 = .ok (.if_icmp .gt 15, 3) := D7 5 rfl rfl rfl
theorem d7_12 : decode (am_mc 7) 12 = .ok (.iload_n 2, 1) := D7 6 rfl rfl rfl
theorem d7_13 : decode (am_mc 7) 13 = .ok (.bipush 18, 2) := D7 7 rfl rfl rfl
theorem d7_15 : decode (am_mc 7) 15 = .ok (.if_icmp .lt 9, 3) := D7 8 rfl rfl rfl
theorem d7_18 : decode (am_mc 7) 18 = .ok (.iload_n 2, 1) := D7 9 rfl rfl rfl
theorem d7_19 : decode (am_mc 7) 19 = .ok (.bipush 64, 2) := D7 10 rfl rfl rfl
theorem d7_21 : decode (am_mc 7) 21 = .ok (.if_icmp .le 5, 3) := D7 11 rfl rfl rfl
theorem d7_24 : decode (am_mc 7) 24 = .ok (.iconst 0, 1) := D7 12 rfl rfl rfl
theorem d7_25 : decode (am_mc 7) 25 = .ok (.ireturn, 1) := D7 13 rfl rfl rfl
theorem d7_26 : decode (am_mc 7) 26 = .ok (.aload_n 0, 1) := D7 14 rfl rfl rfl
theorem d7_27 : decode (am_mc 7) 27 = .ok (.iload_n 1, 1) := D7 15 rfl rfl rfl
theorem d7_28 : decode (am_mc 7) 28 = .ok (.putfield 15, 3) := D7 16 rfl rfl rfl
theorem d7_31 : decode (am_mc 7) 31 = .ok (.aload_n 0, 1) := D7 17 rfl rfl rfl
theorem d7_32 : decode (am_mc 7) 32 = .ok (.iload_n 2, 1) := D7 18 rfl rfl rfl
theorem d7_33 : decode (am_mc 7) 33 = .ok (.putfield 19, 3) := D7 19 rfl rfl rfl
theorem d7_36 : decode (am_mc 7) 36 = .ok (.iconst 1, 1) := D7 20 rfl rfl rfl
theorem d7_37 : decode (am_mc 7) 37 = .ok (.ireturn, 1) := D7 21 rfl rfl rfl
theorem ml7 : ∀ n, n < 3 → n < am_ml 7 := fun _ h => h
theorem mo7 : am_mo 7 = 10 := by decide +kernel
theorem mr7 : am_mr 7 = some .boolean := by decide +kernel
theorem rg7 : am_rcg 7 = 11 := by decide +kernel
theorem f10_15 : tb_f 10 15 = some (10, 1, 0, 0) := by decide +kernel
theorem f10_19 : tb_f 10 19 = some (10, 2, 0, 0) := by decide +kernel
def fn7 (o : Nat) (a : Int) (b : Int) (μ : am_M) : Option (Int × am_M) := (if a < 20 then some (0, μ) else (if 96 < a then some (0, μ) else (if b < 18 then some (0, μ) else (if 64 < b then some (0, μ) else some (1, am_up (am_up μ o 1 a) o 2 b)))))
def sp7 : am_F := fun vs μ => am_aR 10 vs fun o vs => am_aI vs fun a vs => am_aI vs fun b vs => am_a0 vs (fn7 o a b μ)
theorem e7 (o : Nat) (a : Int) (b : Int) (μ : am_M) : sp7 [.inr (.inr (10, o)), .inl a, .inl b] μ = fn7 o a b μ := by simp only [sp7, am_aR_c, am_aI_c, am_aJ_c, am_a0_c]
theorem sd7 : am_Sd 7 sp7 := by
  refine am_Sd_of (by decide) (fun vs μ μ' x h hv hM => ?_)
  obtain ⟨o, vs0, rfl, h0⟩ := am_aR_s h
  obtain ⟨a, vs1, rfl, h1⟩ := am_aI_s h0
  obtain ⟨b, vs2, rfl, h2⟩ := am_aI_s h1
  obtain ⟨rfl, hz⟩ := am_a0_s h2
  refine ⟨Nat.le_of_ble_eq_true rfl, fun X C hG hr => ?_⟩
  have h := hz
  unfold fn7 at h
  exact (show am_W X C 7 _ 0 0 0 [(0, .inr (.inr (10, o))), (1, .inl a), (2, .inl b)] [] μ from (am_c_iload_n hG (pc := 0) d7_0 rfl (am_c_bipush hG (pc := 1) d7_1 (by decide) (x_icmp_lt (tgt := 24) hG (pc := 3) d7_3 rfl h (fun h => (am_c_iconst hG (pc := 24) d7_24 (by decide) (x_zret0 hG (by decide) hr (pc := 25) d7_25 mr7 h))) (fun h => (am_c_iload_n hG (pc := 6) d7_6 rfl (am_c_bipush hG (pc := 7) d7_7 (by decide) (x_icmp_gt (tgt := 24) hG (pc := 9) d7_9 rfl h (fun h => (am_c_iconst hG (pc := 24) d7_24 (by decide) (x_zret0 hG (by decide) hr (pc := 25) d7_25 mr7 h))) (fun h => (am_c_iload_n hG (pc := 12) d7_12 rfl (am_c_bipush hG (pc := 13) d7_13 (by decide) (x_icmp_lt (tgt := 24) hG (pc := 15) d7_15 rfl h (fun h => (am_c_iconst hG (pc := 24) d7_24 (by decide) (x_zret0 hG (by decide) hr (pc := 25) d7_25 mr7 h))) (fun h => (am_c_iload_n hG (pc := 18) d7_18 rfl (am_c_bipush hG (pc := 19) d7_19 (by decide) (x_icmp_le (tgt := 26) hG (pc := 21) d7_21 rfl h (fun h => (am_c_aload_n hG (pc := 26) d7_26 rfl (am_c_iload_n hG (pc := 27) d7_27 rfl (x_put_i hG (pc := 28) d7_28 mo7 f10_15 (by decide) (am_c_aload_n hG (pc := 31) d7_31 rfl (am_c_iload_n hG (pc := 32) d7_32 rfl (x_put_i hG (pc := 33) d7_33 mo7 f10_19 (by decide) (am_c_iconst hG (pc := 36) d7_36 (by decide) (x_zret1 hG (by decide) hr (pc := 37) d7_37 mr7 h))))))))) (fun h => (am_c_iconst hG (pc := 24) d7_24 (by decide) (x_zret0 hG (by decide) hr (pc := 25) d7_25 mr7 h)))))))))))))))))))
/-! ChartPress.canvas(II)Z -/
theorem D8 (k : Nat) {pc : Nat} {i : Instr} (h : tbi8[k]? = some (pc, i)) (hs : am_isw i = false) {n : Nat} (hn : am_il i = n) : decode (am_mc 8) pc = .ok (i, n) := am_d2 (by decide) (by decide) rfl h hs hn
theorem d8_0 : decode (am_mc 8) 0 = .ok (.aload_n 0, 1) := D8 0 rfl rfl rfl
theorem d8_1 : decode (am_mc 8) 1 = .ok (.getfield 59, 3) := D8 1 rfl rfl rfl
theorem d8_4 : decode (am_mc 8) 4 = .ok (.iload_n 1, 1) := D8 2 rfl rfl rfl
theorem d8_5 : decode (am_mc 8) 5 = .ok (.iload_n 2, 1) := D8 3 rfl rfl rfl
theorem d8_6 : decode (am_mc 8) 6 = .ok (.invokevirtual 90, 3) := D8 4 rfl rfl rfl
theorem d8_9 : decode (am_mc 8) 9 = .ok (.ifCond .ne 5, 3) := D8 5 rfl rfl rfl
theorem d8_12 : decode (am_mc 8) 12 = .ok (.iconst 0, 1) := D8 6 rfl rfl rfl
theorem d8_13 : decode (am_mc 8) 13 = .ok (.ireturn, 1) := D8 7 rfl rfl rfl
theorem d8_14 : decode (am_mc 8) 14 = .ok (.aload_n 0, 1) := D8 8 rfl rfl rfl
theorem d8_15 : decode (am_mc 8) 15 = .ok (.iconst 0, 1) := D8 9 rfl rfl rfl
theorem d8_16 : decode (am_mc 8) 16 = .ok (.putfield 79, 3) := D8 10 rfl rfl rfl
theorem d8_19 : decode (am_mc 8) 19 = .ok (.iconst 1, 1) := D8 11 rfl rfl rfl
theorem d8_20 : decode (am_mc 8) 20 = .ok (.ireturn, 1) := D8 12 rfl rfl rfl
theorem ml8 : ∀ n, n < 3 → n < am_ml 8 := fun _ h => h
theorem mo8 : am_mo 8 = 0 := by decide +kernel
theorem mr8 : am_mr 8 = some .boolean := by decide +kernel
theorem rg8 : am_rcg 8 = 1 := by decide +kernel
theorem f0_59 : tb_f 0 59 = some (0, 7, 5, 10) := by decide +kernel
theorem f0_79 : tb_f 0 79 = some (0, 11, 2, 0) := by decide +kernel
theorem m0_90 : tb_m 0 90 = some (7, 3, 1, 0) := by decide +kernel
theorem dp8_7 : am_md 7 + 1 ≤ am_md 8 ∧ 8 + (am_ml 7 + 11) + am_lr 7 ≤ am_lr 8 := by decide +kernel
def fn8 (o : Nat) (a : Int) (b : Int) (μ : am_M) : Option (Int × am_M) := (am_op (fn7 (am_ref o 7) a b μ) (fun z1 => (if z1.1 = 0 then some (0, z1.2) else some (1, am_up z1.2 o 11 0))))
def sp8 : am_F := fun vs μ => am_aR 0 vs fun o vs => am_aI vs fun a vs => am_aI vs fun b vs => am_a0 vs (fn8 o a b μ)
theorem e8 (o : Nat) (a : Int) (b : Int) (μ : am_M) : sp8 [.inr (.inr (0, o)), .inl a, .inl b] μ = fn8 o a b μ := by simp only [sp8, am_aR_c, am_aI_c, am_aJ_c, am_a0_c]
theorem sd8 : am_Sd 8 sp8 := by
  refine am_Sd_of (by decide) (fun vs μ μ' x h hv hM => ?_)
  obtain ⟨o, vs0, rfl, h0⟩ := am_aR_s h
  obtain ⟨a, vs1, rfl, h1⟩ := am_aI_s h0
  obtain ⟨b, vs2, rfl, h2⟩ := am_aI_s h1
  obtain ⟨rfl, hz⟩ := am_a0_s h2
  refine ⟨Nat.le_of_ble_eq_true rfl, fun X C hG hr => ?_⟩
  have h := hz
  unfold fn8 at h
  exact (show am_W X C 8 _ 0 0 0 [(0, .inr (.inr (0, o))), (1, .inl a), (2, .inl b)] [] μ from (am_c_aload_n hG (pc := 0) d8_0 rfl (x_get_n (v := .inr (.inr (10, am_ref o 7))) hG (pc := 1) d8_1 mo8 f0_59 rfl (am_c_iload_n hG (pc := 4) d8_4 rfl (am_c_iload_n hG (pc := 5) d8_5 rfl (x_virtual_i (t := 10) (o := am_ref o 7) (as2 := [.inl a, .inl b]) (rest := []) hG (pc := 6) d8_6 mo8 m0_90 (by decide) dp8_7 rfl rfl (Nat.le_of_ble_eq_true rfl) (Nat.le_of_ble_eq_true rfl) rg7 sd7 (e7 _ _ _ _) h (fun z1 h => (x_if_ne (tgt := 14) hG (pc := 9) d8_9 rfl h (fun h => (am_c_aload_n hG (pc := 14) d8_14 rfl (am_c_iconst hG (pc := 15) d8_15 (by decide) (x_put_0 hG (pc := 16) d8_16 mo8 f0_79 (by decide) (am_c_iconst hG (pc := 19) d8_19 (by decide) (x_zret1 hG (by decide) hr (pc := 20) d8_20 mr8 h)))))) (fun h => (am_c_iconst hG (pc := 12) d8_12 (by decide) (x_zret0 hG (by decide) hr (pc := 13) d8_13 mr8 h)))))))))))
/-! ChartPress$Sheet.has(II)Z -/
theorem D9 (k : Nat) {pc : Nat} {i : Instr} (h : tbi9[k]? = some (pc, i)) (hs : am_isw i = false) {n : Nat} (hn : am_il i = n) : decode (am_mc 9) pc = .ok (i, n) := am_d2 (by decide) (by decide) rfl h hs hn
theorem d9_0 : decode (am_mc 9) 0 = .ok (.iload_n 1, 1) := D9 0 rfl rfl rfl
theorem d9_1 : decode (am_mc 9) 1 = .ok (.ifCond .lt 27, 3) := D9 1 rfl rfl rfl
theorem d9_4 : decode (am_mc 9) 4 = .ok (.iload_n 1, 1) := D9 2 rfl rfl rfl
theorem d9_5 : decode (am_mc 9) 5 = .ok (.aload_n 0, 1) := D9 3 rfl rfl rfl
theorem d9_6 : decode (am_mc 9) 6 = .ok (.getfield 15, 3) := D9 4 rfl rfl rfl
theorem d9_9 : decode (am_mc 9) 9 = .ok (.if_icmp .ge 19, 3) := D9 5 rfl rfl rfl
theorem d9_12 : decode (am_mc 9) 12 = .ok (.iload_n 2, 1) := D9 6 rfl rfl rfl
theorem d9_13 : decode (am_mc 9) 13 = .ok (.ifCond .lt 15, 3) := D9 7 rfl rfl rfl
theorem d9_16 : decode (am_mc 9) 16 = .ok (.iload_n 2, 1) := D9 8 rfl rfl rfl
theorem d9_17 : decode (am_mc 9) 17 = .ok (.aload_n 0, 1) := D9 9 rfl rfl rfl
theorem d9_18 : decode (am_mc 9) 18 = .ok (.getfield 19, 3) := D9 10 rfl rfl rfl
theorem d9_21 : decode (am_mc 9) 21 = .ok (.if_icmp .ge 7, 3) := D9 11 rfl rfl rfl
theorem d9_24 : decode (am_mc 9) 24 = .ok (.iconst 1, 1) := D9 12 rfl rfl rfl
theorem d9_25 : decode (am_mc 9) 25 = .ok (.goto 4, 3) := D9 13 rfl rfl rfl
theorem d9_28 : decode (am_mc 9) 28 = .ok (.iconst 0, 1) := D9 14 rfl rfl rfl
theorem d9_29 : decode (am_mc 9) 29 = .ok (.ireturn, 1) := D9 15 rfl rfl rfl
theorem ml9 : ∀ n, n < 3 → n < am_ml 9 := fun _ h => h
theorem mo9 : am_mo 9 = 10 := by decide +kernel
theorem mr9 : am_mr 9 = some .boolean := by decide +kernel
theorem rg9 : am_rcg 9 = 11 := by decide +kernel
def fn9 (o : Nat) (a : Int) (b : Int) (μ : am_M) : Option (Int × am_M) := (if a < 0 then some (0, μ) else (if a < μ o 1 then (if b < 0 then some (0, μ) else (if b < μ o 2 then some (1, μ) else some (0, μ))) else some (0, μ)))
def sp9 : am_F := fun vs μ => am_aR 10 vs fun o vs => am_aI vs fun a vs => am_aI vs fun b vs => am_a0 vs (fn9 o a b μ)
theorem e9 (o : Nat) (a : Int) (b : Int) (μ : am_M) : sp9 [.inr (.inr (10, o)), .inl a, .inl b] μ = fn9 o a b μ := by simp only [sp9, am_aR_c, am_aI_c, am_aJ_c, am_a0_c]
theorem sd9 : am_Sd 9 sp9 := by
  refine am_Sd_of (by decide) (fun vs μ μ' x h hv hM => ?_)
  obtain ⟨o, vs0, rfl, h0⟩ := am_aR_s h
  obtain ⟨a, vs1, rfl, h1⟩ := am_aI_s h0
  obtain ⟨b, vs2, rfl, h2⟩ := am_aI_s h1
  obtain ⟨rfl, hz⟩ := am_a0_s h2
  refine ⟨Nat.le_of_ble_eq_true rfl, fun X C hG hr => ?_⟩
  have h := hz
  unfold fn9 at h
  exact (show am_W X C 9 _ 0 0 0 [(0, .inr (.inr (10, o))), (1, .inl a), (2, .inl b)] [] μ from (am_c_iload_n hG (pc := 0) d9_0 rfl (x_if_lt (tgt := 28) hG (pc := 1) d9_1 rfl h (fun h => (am_c_iconst hG (pc := 28) d9_28 (by decide) (x_zret0 hG (by decide) hr (pc := 29) d9_29 mr9 h))) (fun h => (am_c_iload_n hG (pc := 4) d9_4 rfl (am_c_aload_n hG (pc := 5) d9_5 rfl (x_get_n (v := .inl (μ o 1)) hG (pc := 6) d9_6 mo9 f10_15 rfl (x_icmp_ge (tgt := 28) hG (pc := 9) d9_9 rfl h (fun h => (am_c_iconst hG (pc := 28) d9_28 (by decide) (x_zret0 hG (by decide) hr (pc := 29) d9_29 mr9 h))) (fun h => (am_c_iload_n hG (pc := 12) d9_12 rfl (x_if_lt (tgt := 28) hG (pc := 13) d9_13 rfl h (fun h => (am_c_iconst hG (pc := 28) d9_28 (by decide) (x_zret0 hG (by decide) hr (pc := 29) d9_29 mr9 h))) (fun h => (am_c_iload_n hG (pc := 16) d9_16 rfl (am_c_aload_n hG (pc := 17) d9_17 rfl (x_get_n (v := .inl (μ o 2)) hG (pc := 18) d9_18 mo9 f10_19 rfl (x_icmp_ge (tgt := 28) hG (pc := 21) d9_21 rfl h (fun h => (am_c_iconst hG (pc := 28) d9_28 (by decide) (x_zret0 hG (by decide) hr (pc := 29) d9_29 mr9 h))) (fun h => (am_c_iconst hG (pc := 24) d9_24 (by decide) (x_goto (tgt := 29) hG (pc := 25) d9_25 rfl (x_zret1 hG (by decide) hr (pc := 29) d9_29 mr9 h))))))))))))))))))))
/-! ChartPress$Sheet.at(II)I -/
theorem D10 (k : Nat) {pc : Nat} {i : Instr} (h : tbi10[k]? = some (pc, i)) (hs : am_isw i = false) {n : Nat} (hn : am_il i = n) : decode (am_mc 10) pc = .ok (i, n) := am_d2 (by decide) (by decide) rfl h hs hn
theorem d10_0 : decode (am_mc 10) 0 = .ok (.aload_n 0, 1) := D10 0 rfl rfl rfl
theorem d10_1 : decode (am_mc 10) 1 = .ok (.iload_n 1, 1) := D10 1 rfl rfl rfl
theorem d10_2 : decode (am_mc 10) 2 = .ok (.iload_n 2, 1) := D10 2 rfl rfl rfl
theorem d10_3 : decode (am_mc 10) 3 = .ok (.invokevirtual 22, 3) := D10 3 rfl rfl rfl
theorem d10_6 : decode (am_mc 10) 6 = .ok (.ifCond .eq 17, 3) := D10 4 rfl rfl rfl
theorem d10_9 : decode (am_mc 10) 9 = .ok (.aload_n 0, 1) := D10 5 rfl rfl rfl
theorem d10_10 : decode (am_mc 10) 10 = .ok (.getfield 11, 3) := D10 6 rfl rfl rfl
theorem d10_13 : decode (am_mc 10) 13 = .ok (.iload_n 2, 1) := D10 7 rfl rfl rfl
theorem d10_14 : decode (am_mc 10) 14 = .ok (.bipush 96, 2) := D10 8 rfl rfl rfl
theorem d10_16 : decode (am_mc 10) 16 = .ok (.imul, 1) := D10 9 rfl rfl rfl
theorem d10_17 : decode (am_mc 10) 17 = .ok (.iload_n 1, 1) := D10 10 rfl rfl rfl
theorem d10_18 : decode (am_mc 10) 18 = .ok (.iadd, 1) := D10 11 rfl rfl rfl
theorem d10_19 : decode (am_mc 10) 19 = .ok (.baload, 1) := D10 12 rfl rfl rfl
theorem d10_20 : decode (am_mc 10) 20 = .ok (.goto 4, 3) := D10 13 rfl rfl rfl
theorem d10_23 : decode (am_mc 10) 23 = .ok (.iconst (-1), 1) := D10 14 rfl rfl rfl
theorem d10_24 : decode (am_mc 10) 24 = .ok (.ireturn, 1) := D10 15 rfl rfl rfl
theorem ml10 : ∀ n, n < 3 → n < am_ml 10 := fun _ h => h
theorem mo10 : am_mo 10 = 10 := by decide +kernel
theorem mr10 : am_mr 10 = some .int := by decide +kernel
theorem rg10 : am_rcg 10 = 11 := by decide +kernel
theorem f10_11 : tb_f 10 11 = some (10, 0, 5, 19) := by decide +kernel
theorem m10_22 : tb_m 10 22 = some (9, 3, 1, 0) := by decide +kernel
theorem dp10_9 : am_md 9 + 1 ≤ am_md 10 ∧ 8 + (am_ml 9 + 11) + am_lr 9 ≤ am_lr 10 := by decide +kernel
def fn10 (o : Nat) (a : Int) (b : Int) (μ : am_M) : Option (Int × am_M) := (am_op (fn9 o a b μ) (fun z1 => (if z1.1 = 0 then some ((-1), z1.2) else (if (0 : Int) ≤ w32 ((w32 (b * 96)) + a) ∧ w32 ((w32 (b * 96)) + a) < ((am_len (am_ref o 0) : Nat) : Int) then some (z1.2 (am_ref o 0) (w32 ((w32 (b * 96)) + a) : Int).toNat, z1.2) else none))))
def sp10 : am_F := fun vs μ => am_aR 10 vs fun o vs => am_aI vs fun a vs => am_aI vs fun b vs => am_a0 vs (fn10 o a b μ)
theorem e10 (o : Nat) (a : Int) (b : Int) (μ : am_M) : sp10 [.inr (.inr (10, o)), .inl a, .inl b] μ = fn10 o a b μ := by simp only [sp10, am_aR_c, am_aI_c, am_aJ_c, am_a0_c]
theorem sd10 : am_Sd 10 sp10 := by
  refine am_Sd_of (by decide) (fun vs μ μ' x h hv hM => ?_)
  obtain ⟨o, vs0, rfl, h0⟩ := am_aR_s h
  obtain ⟨a, vs1, rfl, h1⟩ := am_aI_s h0
  obtain ⟨b, vs2, rfl, h2⟩ := am_aI_s h1
  obtain ⟨rfl, hz⟩ := am_a0_s h2
  refine ⟨Nat.le_of_ble_eq_true rfl, fun X C hG hr => ?_⟩
  have h := hz
  unfold fn10 at h
  exact (show am_W X C 10 _ 0 0 0 [(0, .inr (.inr (10, o))), (1, .inl a), (2, .inl b)] [] μ from (am_c_aload_n hG (pc := 0) d10_0 rfl (am_c_iload_n hG (pc := 1) d10_1 rfl (am_c_iload_n hG (pc := 2) d10_2 rfl (x_virtual_i (t := 10) (o := o) (as2 := [.inl a, .inl b]) (rest := []) hG (pc := 3) d10_3 mo10 m10_22 (by decide) dp10_9 rfl rfl (Nat.le_of_ble_eq_true rfl) (Nat.le_of_ble_eq_true rfl) rg9 sd9 (e9 _ _ _ _) h (fun z1 h => (x_if_eq (tgt := 23) hG (pc := 6) d10_6 rfl h (fun h => (am_c_iconst hG (pc := 23) d10_23 (by decide) (x_iret hG (by decide) hr (pc := 24) d10_24 mr10 h))) (fun h => (am_c_aload_n hG (pc := 9) d10_9 rfl (x_get_n (v := .inr (.inr (19, am_ref o 0))) hG (pc := 10) d10_10 mo10 f10_11 rfl (am_c_iload_n hG (pc := 13) d10_13 rfl (am_c_bipush hG (pc := 14) d10_14 (by decide) (am_c_imul hG (pc := 16) d10_16 (am_c_iload_n hG (pc := 17) d10_17 rfl (am_c_iadd hG (pc := 18) d10_18 (x_baload hG (pc := 19) d10_19 h (fun h => (x_goto (tgt := 24) hG (pc := 20) d10_20 rfl (x_iret hG (by decide) hr (pc := 24) d10_24 mr10 h)))))))))))))))))))
/-! ChartPress.pixel(II)I -/
theorem D11 (k : Nat) {pc : Nat} {i : Instr} (h : tbi11[k]? = some (pc, i)) (hs : am_isw i = false) {n : Nat} (hn : am_il i = n) : decode (am_mc 11) pc = .ok (i, n) := am_d2 (by decide) (by decide) rfl h hs hn
theorem d11_0 : decode (am_mc 11) 0 = .ok (.aload_n 0, 1) := D11 0 rfl rfl rfl
theorem d11_1 : decode (am_mc 11) 1 = .ok (.getfield 79, 3) := D11 1 rfl rfl rfl
theorem d11_4 : decode (am_mc 11) 4 = .ok (.ifCond .eq 27, 3) := D11 2 rfl rfl rfl
theorem d11_7 : decode (am_mc 11) 7 = .ok (.aload_n 0, 1) := D11 3 rfl rfl rfl
theorem d11_8 : decode (am_mc 11) 8 = .ok (.getfield 59, 3) := D11 4 rfl rfl rfl
theorem d11_11 : decode (am_mc 11) 11 = .ok (.iload_n 1, 1) := D11 5 rfl rfl rfl
theorem d11_12 : decode (am_mc 11) 12 = .ok (.iload_n 2, 1) := D11 6 rfl rfl rfl
theorem d11_13 : decode (am_mc 11) 13 = .ok (.invokevirtual 157, 3) := D11 7 rfl rfl rfl
theorem d11_16 : decode (am_mc 11) 16 = .ok (.ifCond .eq 15, 3) := D11 8 rfl rfl rfl
theorem d11_19 : decode (am_mc 11) 19 = .ok (.aload_n 0, 1) := D11 9 rfl rfl rfl
theorem d11_20 : decode (am_mc 11) 20 = .ok (.getfield 59, 3) := D11 10 rfl rfl rfl
theorem d11_23 : decode (am_mc 11) 23 = .ok (.iload_n 1, 1) := D11 11 rfl rfl rfl
theorem d11_24 : decode (am_mc 11) 24 = .ok (.iload_n 2, 1) := D11 12 rfl rfl rfl
theorem d11_25 : decode (am_mc 11) 25 = .ok (.invokevirtual 160, 3) := D11 13 rfl rfl rfl
theorem d11_28 : decode (am_mc 11) 28 = .ok (.goto 4, 3) := D11 14 rfl rfl rfl
theorem d11_31 : decode (am_mc 11) 31 = .ok (.iconst (-1), 1) := D11 15 rfl rfl rfl
theorem d11_32 : decode (am_mc 11) 32 = .ok (.ireturn, 1) := D11 16 rfl rfl rfl
theorem ml11 : ∀ n, n < 3 → n < am_ml 11 := fun _ h => h
theorem mo11 : am_mo 11 = 0 := by decide +kernel
theorem mr11 : am_mr 11 = some .int := by decide +kernel
theorem rg11 : am_rcg 11 = 1 := by decide +kernel
theorem m0_157 : tb_m 0 157 = some (9, 3, 1, 0) := by decide +kernel
theorem m0_160 : tb_m 0 160 = some (10, 3, 1, 0) := by decide +kernel
theorem dp11_9 : am_md 9 + 1 ≤ am_md 11 ∧ 8 + (am_ml 9 + 11) + am_lr 9 ≤ am_lr 11 := by decide +kernel
theorem dp11_10 : am_md 10 + 1 ≤ am_md 11 ∧ 8 + (am_ml 10 + 11) + am_lr 10 ≤ am_lr 11 := by decide +kernel
def fn11 (o : Nat) (a : Int) (b : Int) (μ : am_M) : Option (Int × am_M) := (if μ o 11 = 0 then some ((-1), μ) else (am_op (fn9 (am_ref o 7) a b μ) (fun z1 => (if z1.1 = 0 then some ((-1), z1.2) else (am_op (fn10 (am_ref o 7) a b z1.2) (fun z2 => some (z2.1, z2.2)))))))
def sp11 : am_F := fun vs μ => am_aR 0 vs fun o vs => am_aI vs fun a vs => am_aI vs fun b vs => am_a0 vs (fn11 o a b μ)
theorem e11 (o : Nat) (a : Int) (b : Int) (μ : am_M) : sp11 [.inr (.inr (0, o)), .inl a, .inl b] μ = fn11 o a b μ := by simp only [sp11, am_aR_c, am_aI_c, am_aJ_c, am_a0_c]
theorem sd11 : am_Sd 11 sp11 := by
  refine am_Sd_of (by decide) (fun vs μ μ' x h hv hM => ?_)
  obtain ⟨o, vs0, rfl, h0⟩ := am_aR_s h
  obtain ⟨a, vs1, rfl, h1⟩ := am_aI_s h0
  obtain ⟨b, vs2, rfl, h2⟩ := am_aI_s h1
  obtain ⟨rfl, hz⟩ := am_a0_s h2
  refine ⟨Nat.le_of_ble_eq_true rfl, fun X C hG hr => ?_⟩
  have h := hz
  unfold fn11 at h
  exact (show am_W X C 11 _ 0 0 0 [(0, .inr (.inr (0, o))), (1, .inl a), (2, .inl b)] [] μ from (am_c_aload_n hG (pc := 0) d11_0 rfl (x_get_n (v := .inl (μ o 11)) hG (pc := 1) d11_1 mo11 f0_79 rfl (x_if_eq (tgt := 31) hG (pc := 4) d11_4 rfl h (fun h => (am_c_iconst hG (pc := 31) d11_31 (by decide) (x_iret hG (by decide) hr (pc := 32) d11_32 mr11 h))) (fun h => (am_c_aload_n hG (pc := 7) d11_7 rfl (x_get_n (v := .inr (.inr (10, am_ref o 7))) hG (pc := 8) d11_8 mo11 f0_59 rfl (am_c_iload_n hG (pc := 11) d11_11 rfl (am_c_iload_n hG (pc := 12) d11_12 rfl (x_virtual_i (t := 10) (o := am_ref o 7) (as2 := [.inl a, .inl b]) (rest := []) hG (pc := 13) d11_13 mo11 m0_157 (by decide) dp11_9 rfl rfl (Nat.le_of_ble_eq_true rfl) (Nat.le_of_ble_eq_true rfl) rg9 sd9 (e9 _ _ _ _) h (fun z1 h => (x_if_eq (tgt := 31) hG (pc := 16) d11_16 rfl h (fun h => (am_c_iconst hG (pc := 31) d11_31 (by decide) (x_iret hG (by decide) hr (pc := 32) d11_32 mr11 h))) (fun h => (am_c_aload_n hG (pc := 19) d11_19 rfl (x_get_n (v := .inr (.inr (10, am_ref o 7))) hG (pc := 20) d11_20 mo11 f0_59 rfl (am_c_iload_n hG (pc := 23) d11_23 rfl (am_c_iload_n hG (pc := 24) d11_24 rfl (x_virtual_i (t := 10) (o := am_ref o 7) (as2 := [.inl a, .inl b]) (rest := []) hG (pc := 25) d11_25 mo11 m0_160 (by decide) dp11_10 rfl rfl (Nat.le_of_ble_eq_true rfl) (Nat.le_of_ble_eq_true rfl) rg10 sd10 (e10 _ _ _ _) h (fun z2 h => (x_goto (tgt := 32) hG (pc := 28) d11_28 rfl (x_iret hG (by decide) hr (pc := 32) d11_32 mr11 h)))))))))))))))))))))
/-! ChartPress.figure(I)J -/
theorem D12 (k : Nat) {pc : Nat} {i : Instr} (h : tbi12[k]? = some (pc, i)) (hs : am_isw i = false) {n : Nat} (hn : am_il i = n) : decode (am_mc 12) pc = .ok (i, n) := am_d2 (by decide) (by decide) rfl h hs hn
theorem d12_0 : decode (am_mc 12) 0 = .ok (.aload_n 0, 1) := D12 0 rfl rfl rfl
theorem d12_1 : decode (am_mc 12) 1 = .ok (.getfield 79, 3) := D12 1 rfl rfl rfl
theorem d12_4 : decode (am_mc 12) 4 = .ok (.ifCond .eq 25, 3) := D12 2 rfl rfl rfl
theorem d12_7 : decode (am_mc 12) 7 = .ok (.iload_n 1, 1) := D12 3 rfl rfl rfl
theorem d12_8 : decode (am_mc 12) 8 = .ok (.ifCond .lt 21, 3) := D12 4 rfl rfl rfl
theorem d12_11 : decode (am_mc 12) 11 = .ok (.iload_n 1, 1) := D12 5 rfl rfl rfl
theorem d12_12 : decode (am_mc 12) 12 = .ok (.aload_n 0, 1) := D12 6 rfl rfl rfl
theorem d12_13 : decode (am_mc 12) 13 = .ok (.getfield 72, 3) := D12 7 rfl rfl rfl
theorem d12_16 : decode (am_mc 12) 16 = .ok (.arraylength, 1) := D12 8 rfl rfl rfl
theorem d12_17 : decode (am_mc 12) 17 = .ok (.if_icmp .ge 12, 3) := D12 9 rfl rfl rfl
theorem d12_20 : decode (am_mc 12) 20 = .ok (.aload_n 0, 1) := D12 10 rfl rfl rfl
theorem d12_21 : decode (am_mc 12) 21 = .ok (.getfield 72, 3) := D12 11 rfl rfl rfl
theorem d12_24 : decode (am_mc 12) 24 = .ok (.iload_n 1, 1) := D12 12 rfl rfl rfl
theorem d12_25 : decode (am_mc 12) 25 = .ok (.laload, 1) := D12 13 rfl rfl rfl
theorem d12_26 : decode (am_mc 12) 26 = .ok (.goto 6, 3) := D12 14 rfl rfl rfl
theorem d12_29 : decode (am_mc 12) 29 = .ok (.ldc2_w 164, 3) := D12 15 rfl rfl rfl
theorem d12_32 : decode (am_mc 12) 32 = .ok (.lreturn, 1) := D12 16 rfl rfl rfl
theorem ml12 : ∀ n, n < 2 → n < am_ml 12 := fun _ h => h
theorem mo12 : am_mo 12 = 0 := by decide +kernel
theorem rk12 : am_rk 12 = 2 := by decide +kernel
theorem rg12 : am_rcg 12 = 1 := by decide +kernel
theorem f0_72 : tb_f 0 72 = some (0, 9, 5, 17) := by decide +kernel
def fn12 (o : Nat) (a : Int) (μ : am_M) : Option (Int × am_M) := (if μ o 11 = 0 then some ((-1), μ) else (if a < 0 then some ((-1), μ) else (if a < ((am_len (am_ref o 9) : Nat) : Int) then (if (0 : Int) ≤ a ∧ a < ((am_len (am_ref o 9) : Nat) : Int) then some (μ (am_ref o 9) (a : Int).toNat, μ) else none) else some ((-1), μ))))
def sp12 : am_F := fun vs μ => am_aR 0 vs fun o vs => am_aI vs fun a vs => am_a0 vs (fn12 o a μ)
theorem e12 (o : Nat) (a : Int) (μ : am_M) : sp12 [.inr (.inr (0, o)), .inl a] μ = fn12 o a μ := by simp only [sp12, am_aR_c, am_aI_c, am_aJ_c, am_a0_c]
theorem sd12 : am_Sd 12 sp12 := by
  refine am_Sd_of (by decide) (fun vs μ μ' x h hv hM => ?_)
  obtain ⟨o, vs0, rfl, h0⟩ := am_aR_s h
  obtain ⟨a, vs1, rfl, h1⟩ := am_aI_s h0
  obtain ⟨rfl, hz⟩ := am_a0_s h1
  refine ⟨Nat.le_of_ble_eq_true rfl, fun X C hG hr => ?_⟩
  have h := hz
  unfold fn12 at h
  exact (show am_W X C 12 _ 0 0 0 [(0, .inr (.inr (0, o))), (1, .inl a)] [] μ from (am_c_aload_n hG (pc := 0) d12_0 rfl (x_get_n (v := .inl (μ o 11)) hG (pc := 1) d12_1 mo12 f0_79 rfl (x_if_eq (tgt := 29) hG (pc := 4) d12_4 rfl h (fun h => (am_c_ldc2 hG (pc := 29) d12_29 (v := (-1)) (by decide +kernel) (x_lret hG (by decide) hr (pc := 32) d12_32 rk12 h))) (fun h => (am_c_iload_n hG (pc := 7) d12_7 rfl (x_if_lt (tgt := 29) hG (pc := 8) d12_8 rfl h (fun h => (am_c_ldc2 hG (pc := 29) d12_29 (v := (-1)) (by decide +kernel) (x_lret hG (by decide) hr (pc := 32) d12_32 rk12 h))) (fun h => (am_c_iload_n hG (pc := 11) d12_11 rfl (am_c_aload_n hG (pc := 12) d12_12 rfl (x_get_n (v := .inr (.inr (17, am_ref o 9))) hG (pc := 13) d12_13 mo12 f0_72 rfl (am_c_len hG (pc := 16) d12_16 (by decide) (x_icmp_ge (tgt := 29) hG (pc := 17) d12_17 rfl h (fun h => (am_c_ldc2 hG (pc := 29) d12_29 (v := (-1)) (by decide +kernel) (x_lret hG (by decide) hr (pc := 32) d12_32 rk12 h))) (fun h => (am_c_aload_n hG (pc := 20) d12_20 rfl (x_get_n (v := .inr (.inr (17, am_ref o 9))) hG (pc := 21) d12_21 mo12 f0_72 rfl (am_c_iload_n hG (pc := 24) d12_24 rfl (x_laload hG (pc := 25) d12_25 h (fun h => (x_goto (tgt := 32) hG (pc := 26) d12_26 rfl (x_lret hG (by decide) hr (pc := 32) d12_32 rk12 h)))))))))))))))))))))
/-! ChartPress$Table.forget()V -/
theorem D13 (k : Nat) {pc : Nat} {i : Instr} (h : tbi13[k]? = some (pc, i)) (hs : am_isw i = false) {n : Nat} (hn : am_il i = n) : decode (am_mc 13) pc = .ok (i, n) := am_d2 (by decide) (by decide) rfl h hs hn
theorem d13_0 : decode (am_mc 13) 0 = .ok (.aload_n 0, 1) := D13 0 rfl rfl rfl
theorem d13_1 : decode (am_mc 13) 1 = .ok (.iconst 0, 1) := D13 1 rfl rfl rfl
theorem d13_2 : decode (am_mc 13) 2 = .ok (.putfield 66, 3) := D13 2 rfl rfl rfl
theorem d13_5 : decode (am_mc 13) 5 = .ok (.aload_n 0, 1) := D13 3 rfl rfl rfl
theorem d13_6 : decode (am_mc 13) 6 = .ok (.iconst 0, 1) := D13 4 rfl rfl rfl
theorem d13_7 : decode (am_mc 13) 7 = .ok (.putfield 52, 3) := D13 5 rfl rfl rfl
theorem d13_10 : decode (am_mc 13) 10 = .ok (.aload_n 0, 1) := D13 6 rfl rfl rfl
theorem d13_11 : decode (am_mc 13) 11 = .ok (.iconst 0, 1) := D13 7 rfl rfl rfl
theorem d13_12 : decode (am_mc 13) 12 = .ok (.putfield 56, 3) := D13 8 rfl rfl rfl
theorem d13_15 : decode (am_mc 13) 15 = .ok (.aload_n 0, 1) := D13 9 rfl rfl rfl
theorem d13_16 : decode (am_mc 13) 16 = .ok (.iconst 0, 1) := D13 10 rfl rfl rfl
theorem d13_17 : decode (am_mc 13) 17 = .ok (.putfield 69, 3) := D13 11 rfl rfl rfl
theorem d13_20 : decode (am_mc 13) 20 = .ok (.aload_n 0, 1) := D13 12 rfl rfl rfl
theorem d13_21 : decode (am_mc 13) 21 = .ok (.iconst 0, 1) := D13 13 rfl rfl rfl
theorem d13_22 : decode (am_mc 13) 22 = .ok (.putfield 72, 3) := D13 14 rfl rfl rfl
theorem d13_25 : decode (am_mc 13) 25 = .ok (.aload_n 0, 1) := D13 15 rfl rfl rfl
theorem d13_26 : decode (am_mc 13) 26 = .ok (.iconst 0, 1) := D13 16 rfl rfl rfl
theorem d13_27 : decode (am_mc 13) 27 = .ok (.putfield 35, 3) := D13 17 rfl rfl rfl
theorem d13_30 : decode (am_mc 13) 30 = .ok (.aload_n 0, 1) := D13 18 rfl rfl rfl
theorem d13_31 : decode (am_mc 13) 31 = .ok (.iconst 1, 1) := D13 19 rfl rfl rfl
theorem d13_32 : decode (am_mc 13) 32 = .ok (.putfield 46, 3) := D13 20 rfl rfl rfl
theorem d13_35 : decode (am_mc 13) 35 = .ok (.aload_n 0, 1) := D13 21 rfl rfl rfl
theorem d13_36 : decode (am_mc 13) 36 = .ok (.iconst 1, 1) := D13 22 rfl rfl rfl
theorem d13_37 : decode (am_mc 13) 37 = .ok (.putfield 49, 3) := D13 23 rfl rfl rfl
theorem d13_40 : decode (am_mc 13) 40 = .ok (.return_, 1) := D13 24 rfl rfl rfl
theorem ml13 : ∀ n, n < 1 → n < am_ml 13 := fun _ h => h
theorem mo13 : am_mo 13 = 2 := by decide +kernel
theorem rk13 : am_rk 13 = 0 := by decide +kernel
theorem rg13 : am_rcg 13 = 3 := by decide +kernel
theorem f2_35 : tb_f 2 35 = some (2, 9, 2, 0) := by decide +kernel
theorem f2_46 : tb_f 2 46 = some (2, 10, 2, 0) := by decide +kernel
theorem f2_49 : tb_f 2 49 = some (2, 11, 2, 0) := by decide +kernel
theorem f2_52 : tb_f 2 52 = some (2, 5, 0, 0) := by decide +kernel
theorem f2_56 : tb_f 2 56 = some (2, 6, 0, 0) := by decide +kernel
theorem f2_66 : tb_f 2 66 = some (2, 4, 0, 0) := by decide +kernel
theorem f2_69 : tb_f 2 69 = some (2, 7, 0, 0) := by decide +kernel
theorem f2_72 : tb_f 2 72 = some (2, 8, 0, 0) := by decide +kernel
def fn13 (o : Nat) (μ : am_M) : Option (Int × am_M) := some (0, am_up (am_up (am_up (am_up (am_up (am_up (am_up (am_up μ o 4 0) o 5 0) o 6 0) o 7 0) o 8 0) o 9 0) o 10 1) o 11 1)
def sp13 : am_F := fun vs μ => am_aR 2 vs fun o vs => am_a0 vs (fn13 o μ)
theorem e13 (o : Nat) (μ : am_M) : sp13 [.inr (.inr (2, o))] μ = fn13 o μ := by simp only [sp13, am_aR_c, am_aI_c, am_aJ_c, am_a0_c]
theorem sd13 : am_Sd 13 sp13 := by
  refine am_Sd_of (by decide) (fun vs μ μ' x h hv hM => ?_)
  obtain ⟨o, vs0, rfl, h0⟩ := am_aR_s h
  obtain ⟨rfl, hz⟩ := am_a0_s h0
  refine ⟨Nat.le_of_ble_eq_true rfl, fun X C hG hr => ?_⟩
  have h := hz
  unfold fn13 at h
  exact (show am_W X C 13 _ 0 0 0 [(0, .inr (.inr (2, o)))] [] μ from (am_c_aload_n hG (pc := 0) d13_0 rfl (am_c_iconst hG (pc := 1) d13_1 (by decide) (x_put_i hG (pc := 2) d13_2 mo13 f2_66 (by decide) (am_c_aload_n hG (pc := 5) d13_5 rfl (am_c_iconst hG (pc := 6) d13_6 (by decide) (x_put_i hG (pc := 7) d13_7 mo13 f2_52 (by decide) (am_c_aload_n hG (pc := 10) d13_10 rfl (am_c_iconst hG (pc := 11) d13_11 (by decide) (x_put_i hG (pc := 12) d13_12 mo13 f2_56 (by decide) (am_c_aload_n hG (pc := 15) d13_15 rfl (am_c_iconst hG (pc := 16) d13_16 (by decide) (x_put_i hG (pc := 17) d13_17 mo13 f2_69 (by decide) (am_c_aload_n hG (pc := 20) d13_20 rfl (am_c_iconst hG (pc := 21) d13_21 (by decide) (x_put_i hG (pc := 22) d13_22 mo13 f2_72 (by decide) (am_c_aload_n hG (pc := 25) d13_25 rfl (am_c_iconst hG (pc := 26) d13_26 (by decide) (x_put_0 hG (pc := 27) d13_27 mo13 f2_35 (by decide) (am_c_aload_n hG (pc := 30) d13_30 rfl (am_c_iconst hG (pc := 31) d13_31 (by decide) (x_put_1 hG (pc := 32) d13_32 mo13 f2_46 (by decide) (am_c_aload_n hG (pc := 35) d13_35 rfl (am_c_iconst hG (pc := 36) d13_36 (by decide) (x_put_1 hG (pc := 37) d13_37 mo13 f2_49 (by decide) (x_vret hG (by decide) hr (pc := 40) d13_40 rk13 h))))))))))))))))))))))))))
/-! ChartPress$Letters.clear()V -/
theorem D14 (k : Nat) {pc : Nat} {i : Instr} (h : tbi14[k]? = some (pc, i)) (hs : am_isw i = false) {n : Nat} (hn : am_il i = n) : decode (am_mc 14) pc = .ok (i, n) := am_d2 (by decide) (by decide) rfl h hs hn
theorem d14_0 : decode (am_mc 14) 0 = .ok (.aload_n 0, 1) := D14 0 rfl rfl rfl
theorem d14_1 : decode (am_mc 14) 1 = .ok (.iconst 0, 1) := D14 1 rfl rfl rfl
theorem d14_2 : decode (am_mc 14) 2 = .ok (.putfield 13, 3) := D14 2 rfl rfl rfl
theorem d14_5 : decode (am_mc 14) 5 = .ok (.return_, 1) := D14 3 rfl rfl rfl
theorem ml14 : ∀ n, n < 1 → n < am_ml 14 := fun _ h => h
theorem mo14 : am_mo 14 = 3 := by decide +kernel
theorem rk14 : am_rk 14 = 0 := by decide +kernel
theorem rg14 : am_rcg 14 = 4 := by decide +kernel
theorem f3_13 : tb_f 3 13 = some (3, 1, 0, 0) := by decide +kernel
def fn14 (o : Nat) (μ : am_M) : Option (Int × am_M) := some (0, am_up μ o 1 0)
def sp14 : am_F := fun vs μ => am_aR 3 vs fun o vs => am_a0 vs (fn14 o μ)
theorem e14 (o : Nat) (μ : am_M) : sp14 [.inr (.inr (3, o))] μ = fn14 o μ := by simp only [sp14, am_aR_c, am_aI_c, am_aJ_c, am_a0_c]
theorem sd14 : am_Sd 14 sp14 := by
  refine am_Sd_of (by decide) (fun vs μ μ' x h hv hM => ?_)
  obtain ⟨o, vs0, rfl, h0⟩ := am_aR_s h
  obtain ⟨rfl, hz⟩ := am_a0_s h0
  refine ⟨Nat.le_of_ble_eq_true rfl, fun X C hG hr => ?_⟩
  have h := hz
  unfold fn14 at h
  exact (show am_W X C 14 _ 0 0 0 [(0, .inr (.inr (3, o)))] [] μ from (am_c_aload_n hG (pc := 0) d14_0 rfl (am_c_iconst hG (pc := 1) d14_1 (by decide) (x_put_i hG (pc := 2) d14_2 mo14 f3_13 (by decide) (x_vret hG (by decide) hr (pc := 5) d14_5 rk14 h)))))
/-! ChartPress$Script.at(I)C -/
theorem D15 (k : Nat) {pc : Nat} {i : Instr} (h : tbi15[k]? = some (pc, i)) (hs : am_isw i = false) {n : Nat} (hn : am_il i = n) : decode (am_mc 15) pc = .ok (i, n) := am_d2 (by decide) (by decide) rfl h hs hn
theorem d15_0 : decode (am_mc 15) 0 = .ok (.iload_n 1, 1) := D15 0 rfl rfl rfl
theorem d15_1 : decode (am_mc 15) 1 = .ok (.ifCond .lt 20, 3) := D15 1 rfl rfl rfl
theorem d15_4 : decode (am_mc 15) 4 = .ok (.iload_n 1, 1) := D15 2 rfl rfl rfl
theorem d15_5 : decode (am_mc 15) 5 = .ok (.aload_n 0, 1) := D15 3 rfl rfl rfl
theorem d15_6 : decode (am_mc 15) 6 = .ok (.getfield 17, 3) := D15 4 rfl rfl rfl
theorem d15_9 : decode (am_mc 15) 9 = .ok (.if_icmp .ge 12, 3) := D15 5 rfl rfl rfl
theorem d15_12 : decode (am_mc 15) 12 = .ok (.aload_n 0, 1) := D15 6 rfl rfl rfl
theorem d15_13 : decode (am_mc 15) 13 = .ok (.getfield 7, 3) := D15 7 rfl rfl rfl
theorem d15_16 : decode (am_mc 15) 16 = .ok (.iload_n 1, 1) := D15 8 rfl rfl rfl
theorem d15_17 : decode (am_mc 15) 17 = .ok (.caload, 1) := D15 9 rfl rfl rfl
theorem d15_18 : decode (am_mc 15) 18 = .ok (.goto 4, 3) := D15 10 rfl rfl rfl
theorem d15_21 : decode (am_mc 15) 21 = .ok (.iconst 0, 1) := D15 11 rfl rfl rfl
theorem d15_22 : decode (am_mc 15) 22 = .ok (.ireturn, 1) := D15 12 rfl rfl rfl
theorem ml15 : ∀ n, n < 2 → n < am_ml 15 := fun _ h => h
theorem mo15 : am_mo 15 = 1 := by decide +kernel
theorem mr15 : am_mr 15 = some .char := by decide +kernel
theorem rg15 : am_rcg 15 = 2 := by decide +kernel
theorem f1_7 : tb_f 1 7 = some (1, 0, 5, 18) := by decide +kernel
def fn15 (o : Nat) (a : Int) (μ : am_M) : Option (Int × am_M) := (if a < 0 then some (0, μ) else (if a < μ o 2 then (if (0 : Int) ≤ a ∧ a < ((am_len (am_ref o 0) : Nat) : Int) then (if 0 ≤ μ (am_ref o 0) (a : Int).toNat ∧ μ (am_ref o 0) (a : Int).toNat ≤ 65535 then some (μ (am_ref o 0) (a : Int).toNat, μ) else none) else none) else some (0, μ)))
def sp15 : am_F := fun vs μ => am_aR 1 vs fun o vs => am_aI vs fun a vs => am_a0 vs (fn15 o a μ)
theorem e15 (o : Nat) (a : Int) (μ : am_M) : sp15 [.inr (.inr (1, o)), .inl a] μ = fn15 o a μ := by simp only [sp15, am_aR_c, am_aI_c, am_aJ_c, am_a0_c]
theorem sd15 : am_Sd 15 sp15 := by
  refine am_Sd_of (by decide) (fun vs μ μ' x h hv hM => ?_)
  obtain ⟨o, vs0, rfl, h0⟩ := am_aR_s h
  obtain ⟨a, vs1, rfl, h1⟩ := am_aI_s h0
  obtain ⟨rfl, hz⟩ := am_a0_s h1
  refine ⟨Nat.le_of_ble_eq_true rfl, fun X C hG hr => ?_⟩
  have h := hz
  unfold fn15 at h
  exact (show am_W X C 15 _ 0 0 0 [(0, .inr (.inr (1, o))), (1, .inl a)] [] μ from (am_c_iload_n hG (pc := 0) d15_0 rfl (x_if_lt (tgt := 21) hG (pc := 1) d15_1 rfl h (fun h => (am_c_iconst hG (pc := 21) d15_21 (by decide) (x_cret0 hG (by decide) hr (pc := 22) d15_22 mr15 h))) (fun h => (am_c_iload_n hG (pc := 4) d15_4 rfl (am_c_aload_n hG (pc := 5) d15_5 rfl (x_get_n (v := .inl (μ o 2)) hG (pc := 6) d15_6 mo15 f1_17 rfl (x_icmp_ge (tgt := 21) hG (pc := 9) d15_9 rfl h (fun h => (am_c_iconst hG (pc := 21) d15_21 (by decide) (x_cret0 hG (by decide) hr (pc := 22) d15_22 mr15 h))) (fun h => (am_c_aload_n hG (pc := 12) d15_12 rfl (x_get_n (v := .inr (.inr (18, am_ref o 0))) hG (pc := 13) d15_13 mo15 f1_7 rfl (am_c_iload_n hG (pc := 16) d15_16 rfl (x_caload hG (pc := 17) d15_17 h (fun h => (x_goto (tgt := 22) hG (pc := 18) d15_18 rfl (x_cret hG (by decide) hr (pc := 22) d15_22 mr15 h))))))))))))))))
/-! ChartPress$Script.length()I -/
theorem D16 (k : Nat) {pc : Nat} {i : Instr} (h : tbi16[k]? = some (pc, i)) (hs : am_isw i = false) {n : Nat} (hn : am_il i = n) : decode (am_mc 16) pc = .ok (i, n) := am_d2 (by decide) (by decide) rfl h hs hn
theorem d16_0 : decode (am_mc 16) 0 = .ok (.aload_n 0, 1) := D16 0 rfl rfl rfl
theorem d16_1 : decode (am_mc 16) 1 = .ok (.getfield 17, 3) := D16 1 rfl rfl rfl
theorem d16_4 : decode (am_mc 16) 4 = .ok (.ireturn, 1) := D16 2 rfl rfl rfl
theorem ml16 : ∀ n, n < 1 → n < am_ml 16 := fun _ h => h
theorem mo16 : am_mo 16 = 1 := by decide +kernel
theorem mr16 : am_mr 16 = some .int := by decide +kernel
theorem rg16 : am_rcg 16 = 2 := by decide +kernel
def fn16 (o : Nat) (μ : am_M) : Option (Int × am_M) := some (μ o 2, μ)
def sp16 : am_F := fun vs μ => am_aR 1 vs fun o vs => am_a0 vs (fn16 o μ)
theorem e16 (o : Nat) (μ : am_M) : sp16 [.inr (.inr (1, o))] μ = fn16 o μ := by simp only [sp16, am_aR_c, am_aI_c, am_aJ_c, am_a0_c]
theorem sd16 : am_Sd 16 sp16 := by
  refine am_Sd_of (by decide) (fun vs μ μ' x h hv hM => ?_)
  obtain ⟨o, vs0, rfl, h0⟩ := am_aR_s h
  obtain ⟨rfl, hz⟩ := am_a0_s h0
  refine ⟨Nat.le_of_ble_eq_true rfl, fun X C hG hr => ?_⟩
  have h := hz
  unfold fn16 at h
  exact (show am_W X C 16 _ 0 0 0 [(0, .inr (.inr (1, o)))] [] μ from (am_c_aload_n hG (pc := 0) d16_0 rfl (x_get_n (v := .inl (μ o 2)) hG (pc := 1) d16_1 mo16 f1_17 rfl (x_iret hG (by decide) hr (pc := 4) d16_4 mr16 h))))
/-! ChartPress$Letters.add(C)V -/
theorem D17 (k : Nat) {pc : Nat} {i : Instr} (h : tbi17[k]? = some (pc, i)) (hs : am_isw i = false) {n : Nat} (hn : am_il i = n) : decode (am_mc 17) pc = .ok (i, n) := am_d2 (by decide) (by decide) rfl h hs hn
theorem d17_0 : decode (am_mc 17) 0 = .ok (.aload_n 0, 1) := D17 0 rfl rfl rfl
theorem d17_1 : decode (am_mc 17) 1 = .ok (.getfield 13, 3) := D17 1 rfl rfl rfl
theorem d17_4 : decode (am_mc 17) 4 = .ok (.aload_n 0, 1) := D17 2 rfl rfl rfl
theorem d17_5 : decode (am_mc 17) 5 = .ok (.getfield 7, 3) := D17 3 rfl rfl rfl
theorem d17_8 : decode (am_mc 17) 8 = .ok (.arraylength, 1) := D17 4 rfl rfl rfl
theorem d17_9 : decode (am_mc 17) 9 = .ok (.if_icmp .ge 13, 3) := D17 5 rfl rfl rfl
theorem d17_12 : decode (am_mc 17) 12 = .ok (.aload_n 0, 1) := D17 6 rfl rfl rfl
theorem d17_13 : decode (am_mc 17) 13 = .ok (.getfield 7, 3) := D17 7 rfl rfl rfl
theorem d17_16 : decode (am_mc 17) 16 = .ok (.aload_n 0, 1) := D17 8 rfl rfl rfl
theorem d17_17 : decode (am_mc 17) 17 = .ok (.getfield 13, 3) := D17 9 rfl rfl rfl
theorem d17_20 : decode (am_mc 17) 20 = .ok (.iload_n 1, 1) := D17 10 rfl rfl rfl
theorem d17_21 : decode (am_mc 17) 21 = .ok (.castore, 1) := D17 11 rfl rfl rfl
theorem d17_22 : decode (am_mc 17) 22 = .ok (.aload_n 0, 1) := D17 12 rfl rfl rfl
theorem d17_23 : decode (am_mc 17) 23 = .ok (.dup, 1) := D17 13 rfl rfl rfl
theorem d17_24 : decode (am_mc 17) 24 = .ok (.getfield 13, 3) := D17 14 rfl rfl rfl
theorem d17_27 : decode (am_mc 17) 27 = .ok (.iconst 1, 1) := D17 15 rfl rfl rfl
theorem d17_28 : decode (am_mc 17) 28 = .ok (.iadd, 1) := D17 16 rfl rfl rfl
theorem d17_29 : decode (am_mc 17) 29 = .ok (.putfield 13, 3) := D17 17 rfl rfl rfl
theorem d17_32 : decode (am_mc 17) 32 = .ok (.return_, 1) := D17 18 rfl rfl rfl
theorem ml17 : ∀ n, n < 2 → n < am_ml 17 := fun _ h => h
theorem mo17 : am_mo 17 = 3 := by decide +kernel
theorem rk17 : am_rk 17 = 0 := by decide +kernel
theorem rg17 : am_rcg 17 = 4 := by decide +kernel
theorem f3_7 : tb_f 3 7 = some (3, 0, 5, 18) := by decide +kernel
def fn17 (o : Nat) (a : Int) (μ : am_M) : Option (Int × am_M) := (if μ o 1 < ((am_len (am_ref o 0) : Nat) : Int) then (if (0 : Int) ≤ μ o 1 ∧ μ o 1 < ((am_len (am_ref o 0) : Nat) : Int) then some (0, am_up (am_up μ (am_ref o 0) (μ o 1 : Int).toNat (o_nar .char a)) o 1 (w32 (((am_up μ (am_ref o 0) (μ o 1 : Int).toNat (o_nar .char a)) o 1) + 1))) else none) else some (0, am_up μ o 1 (w32 ((μ o 1) + 1))))
def sp17 : am_F := fun vs μ => am_aR 3 vs fun o vs => am_aI vs fun a vs => am_a0 vs (fn17 o a μ)
theorem e17 (o : Nat) (a : Int) (μ : am_M) : sp17 [.inr (.inr (3, o)), .inl a] μ = fn17 o a μ := by simp only [sp17, am_aR_c, am_aI_c, am_aJ_c, am_a0_c]
theorem sd17 : am_Sd 17 sp17 := by
  refine am_Sd_of (by decide) (fun vs μ μ' x h hv hM => ?_)
  obtain ⟨o, vs0, rfl, h0⟩ := am_aR_s h
  obtain ⟨a, vs1, rfl, h1⟩ := am_aI_s h0
  obtain ⟨rfl, hz⟩ := am_a0_s h1
  refine ⟨Nat.le_of_ble_eq_true rfl, fun X C hG hr => ?_⟩
  have h := hz
  unfold fn17 at h
  exact (show am_W X C 17 _ 0 0 0 [(0, .inr (.inr (3, o))), (1, .inl a)] [] μ from (am_c_aload_n hG (pc := 0) d17_0 rfl (x_get_n (v := .inl (μ o 1)) hG (pc := 1) d17_1 mo17 f3_13 rfl (am_c_aload_n hG (pc := 4) d17_4 rfl (x_get_n (v := .inr (.inr (18, am_ref o 0))) hG (pc := 5) d17_5 mo17 f3_7 rfl (am_c_len hG (pc := 8) d17_8 (by decide) (x_icmp_ge (tgt := 22) hG (pc := 9) d17_9 rfl h (fun h => (am_c_aload_n hG (pc := 22) d17_22 rfl (am_c_dup hG (pc := 23) d17_23 rfl (x_get_n (v := .inl (μ o 1)) hG (pc := 24) d17_24 mo17 f3_13 rfl (am_c_iconst hG (pc := 27) d17_27 (by decide) (am_c_iadd hG (pc := 28) d17_28 (x_put_i hG (pc := 29) d17_29 mo17 f3_13 (by decide) (x_vret hG (by decide) hr (pc := 32) d17_32 rk17 h)))))))) (fun h => (am_c_aload_n hG (pc := 12) d17_12 rfl (x_get_n (v := .inr (.inr (18, am_ref o 0))) hG (pc := 13) d17_13 mo17 f3_7 rfl (am_c_aload_n hG (pc := 16) d17_16 rfl (x_get_n (v := .inl (μ o 1)) hG (pc := 17) d17_17 mo17 f3_13 rfl (am_c_iload_n hG (pc := 20) d17_20 rfl (x_castore hG (pc := 21) d17_21 h (fun h => (am_c_aload_n hG (pc := 22) d17_22 rfl (am_c_dup hG (pc := 23) d17_23 rfl (x_get_n (v := .inl ((am_up μ (am_ref o 0) (μ o 1 : Int).toNat (o_nar .char a)) o 1)) hG (pc := 24) d17_24 mo17 f3_13 rfl (am_c_iconst hG (pc := 27) d17_27 (by decide) (am_c_iadd hG (pc := 28) d17_28 (x_put_i hG (pc := 29) d17_29 mo17 f3_13 (by decide) (x_vret hG (by decide) hr (pc := 32) d17_32 rk17 h))))))))))))))))))))))
/-! ChartPress$Table.endsPlain(C)Z -/
theorem D19 (k : Nat) {pc : Nat} {i : Instr} (h : tbi19[k]? = some (pc, i)) (hs : am_isw i = false) {n : Nat} (hn : am_il i = n) : decode (am_mc 19) pc = .ok (i, n) := am_d2 (by decide) (by decide) rfl h hs hn
theorem d19_0 : decode (am_mc 19) 0 = .ok (.iload_n 0, 1) := D19 0 rfl rfl rfl
theorem d19_1 : decode (am_mc 19) 1 = .ok (.bipush 44, 2) := D19 1 rfl rfl rfl
theorem d19_3 : decode (am_mc 19) 3 = .ok (.if_icmp .eq 21, 3) := D19 2 rfl rfl rfl
theorem d19_6 : decode (am_mc 19) 6 = .ok (.iload_n 0, 1) := D19 3 rfl rfl rfl
theorem d19_7 : decode (am_mc 19) 7 = .ok (.bipush 34, 2) := D19 4 rfl rfl rfl
theorem d19_9 : decode (am_mc 19) 9 = .ok (.if_icmp .eq 15, 3) := D19 5 rfl rfl rfl
theorem d19_12 : decode (am_mc 19) 12 = .ok (.iload_n 0, 1) := D19 6 rfl rfl rfl
theorem d19_13 : decode (am_mc 19) 13 = .ok (.bipush 13, 2) := D19 7 rfl rfl rfl
theorem d19_15 : decode (am_mc 19) 15 = .ok (.if_icmp .eq 9, 3) := D19 8 rfl rfl rfl
theorem d19_18 : decode (am_mc 19) 18 = .ok (.iload_n 0, 1) := D19 9 rfl rfl rfl
theorem d19_19 : decode (am_mc 19) 19 = .ok (.bipush 10, 2) := D19 10 rfl rfl rfl
theorem d19_21 : decode (am_mc 19) 21 = .ok (.if_icmp .ne 7, 3) := D19 11 rfl rfl rfl
theorem d19_24 : decode (am_mc 19) 24 = .ok (.iconst 1, 1) := D19 12 rfl rfl rfl
theorem d19_25 : decode (am_mc 19) 25 = .ok (.goto 4, 3) := D19 13 rfl rfl rfl
theorem d19_28 : decode (am_mc 19) 28 = .ok (.iconst 0, 1) := D19 14 rfl rfl rfl
theorem d19_29 : decode (am_mc 19) 29 = .ok (.ireturn, 1) := D19 15 rfl rfl rfl
theorem ml19 : ∀ n, n < 1 → n < am_ml 19 := fun _ h => h
theorem mo19 : am_mo 19 = 2 := by decide +kernel
theorem mr19 : am_mr 19 = some .boolean := by decide +kernel
theorem rg19 : am_rcg 19 = 0 := by decide +kernel
def fn19 (a : Int) (μ : am_M) : Option (Int × am_M) := (if a = 44 then some (1, μ) else (if a = 34 then some (1, μ) else (if a = 13 then some (1, μ) else (if a = 10 then some (1, μ) else some (0, μ)))))
def sp19 : am_F := fun vs μ => am_aI vs fun a vs => am_a0 vs (fn19 a μ)
theorem e19 (a : Int) (μ : am_M) : sp19 [.inl a] μ = fn19 a μ := by simp only [sp19, am_aR_c, am_aI_c, am_aJ_c, am_a0_c]
theorem sd19 : am_Sd 19 sp19 := by
  refine am_Sd_of (by decide) (fun vs μ μ' x h hv hM => ?_)
  obtain ⟨a, vs0, rfl, h0⟩ := am_aI_s h
  obtain ⟨rfl, hz⟩ := am_a0_s h0
  refine ⟨Nat.le_of_ble_eq_true rfl, fun X C hG hr => ?_⟩
  have h := hz
  unfold fn19 at h
  exact (show am_W X C 19 _ 0 0 0 [(0, .inl a)] [] μ from (am_c_iload_n hG (pc := 0) d19_0 rfl (am_c_bipush hG (pc := 1) d19_1 (by decide) (x_icmp_eq (tgt := 24) hG (pc := 3) d19_3 rfl h (fun h => (am_c_iconst hG (pc := 24) d19_24 (by decide) (x_goto (tgt := 29) hG (pc := 25) d19_25 rfl (x_zret1 hG (by decide) hr (pc := 29) d19_29 mr19 h)))) (fun h => (am_c_iload_n hG (pc := 6) d19_6 rfl (am_c_bipush hG (pc := 7) d19_7 (by decide) (x_icmp_eq (tgt := 24) hG (pc := 9) d19_9 rfl h (fun h => (am_c_iconst hG (pc := 24) d19_24 (by decide) (x_goto (tgt := 29) hG (pc := 25) d19_25 rfl (x_zret1 hG (by decide) hr (pc := 29) d19_29 mr19 h)))) (fun h => (am_c_iload_n hG (pc := 12) d19_12 rfl (am_c_bipush hG (pc := 13) d19_13 (by decide) (x_icmp_eq (tgt := 24) hG (pc := 15) d19_15 rfl h (fun h => (am_c_iconst hG (pc := 24) d19_24 (by decide) (x_goto (tgt := 29) hG (pc := 25) d19_25 rfl (x_zret1 hG (by decide) hr (pc := 29) d19_29 mr19 h)))) (fun h => (am_c_iload_n hG (pc := 18) d19_18 rfl (am_c_bipush hG (pc := 19) d19_19 (by decide) (x_icmp_ne (tgt := 28) hG (pc := 21) d19_21 rfl h (fun h => (am_c_iconst hG (pc := 28) d19_28 (by decide) (x_zret0 hG (by decide) hr (pc := 29) d19_29 mr19 h))) (fun h => (am_c_iconst hG (pc := 24) d19_24 (by decide) (x_goto (tgt := 29) hG (pc := 25) d19_25 rfl (x_zret1 hG (by decide) hr (pc := 29) d19_29 mr19 h))))))))))))))))))))
/-! ChartPress$Letters.size()I -/
theorem D21 (k : Nat) {pc : Nat} {i : Instr} (h : tbi21[k]? = some (pc, i)) (hs : am_isw i = false) {n : Nat} (hn : am_il i = n) : decode (am_mc 21) pc = .ok (i, n) := am_d2 (by decide) (by decide) rfl h hs hn
theorem d21_0 : decode (am_mc 21) 0 = .ok (.aload_n 0, 1) := D21 0 rfl rfl rfl
theorem d21_1 : decode (am_mc 21) 1 = .ok (.getfield 13, 3) := D21 1 rfl rfl rfl
theorem d21_4 : decode (am_mc 21) 4 = .ok (.ireturn, 1) := D21 2 rfl rfl rfl
theorem ml21 : ∀ n, n < 1 → n < am_ml 21 := fun _ h => h
theorem mo21 : am_mo 21 = 3 := by decide +kernel
theorem mr21 : am_mr 21 = some .int := by decide +kernel
theorem rg21 : am_rcg 21 = 4 := by decide +kernel
def fn21 (o : Nat) (μ : am_M) : Option (Int × am_M) := some (μ o 1, μ)
def sp21 : am_F := fun vs μ => am_aR 3 vs fun o vs => am_a0 vs (fn21 o μ)
theorem e21 (o : Nat) (μ : am_M) : sp21 [.inr (.inr (3, o))] μ = fn21 o μ := by simp only [sp21, am_aR_c, am_aI_c, am_aJ_c, am_a0_c]
theorem sd21 : am_Sd 21 sp21 := by
  refine am_Sd_of (by decide) (fun vs μ μ' x h hv hM => ?_)
  obtain ⟨o, vs0, rfl, h0⟩ := am_aR_s h
  obtain ⟨rfl, hz⟩ := am_a0_s h0
  refine ⟨Nat.le_of_ble_eq_true rfl, fun X C hG hr => ?_⟩
  have h := hz
  unfold fn21 at h
  exact (show am_W X C 21 _ 0 0 0 [(0, .inr (.inr (3, o)))] [] μ from (am_c_aload_n hG (pc := 0) d21_0 rfl (x_get_n (v := .inl (μ o 1)) hG (pc := 1) d21_1 mo21 f3_13 rfl (x_iret hG (by decide) hr (pc := 4) d21_4 mr21 h))))
/-! ChartPress$Table.lineBreakSize(LChartPress$Script;)I -/
theorem D23 (k : Nat) {pc : Nat} {i : Instr} (h : tbi23[k]? = some (pc, i)) (hs : am_isw i = false) {n : Nat} (hn : am_il i = n) : decode (am_mc 23) pc = .ok (i, n) := am_d2 (by decide) (by decide) rfl h hs hn
theorem d23_0 : decode (am_mc 23) 0 = .ok (.aload_n 1, 1) := D23 0 rfl rfl rfl
theorem d23_1 : decode (am_mc 23) 1 = .ok (.aload_n 0, 1) := D23 1 rfl rfl rfl
theorem d23_2 : decode (am_mc 23) 2 = .ok (.getfield 72, 3) := D23 2 rfl rfl rfl
theorem d23_5 : decode (am_mc 23) 5 = .ok (.invokevirtual 78, 3) := D23 3 rfl rfl rfl
theorem d23_8 : decode (am_mc 23) 8 = .ok (.bipush 10, 2) := D23 4 rfl rfl rfl
theorem d23_10 : decode (am_mc 23) 10 = .ok (.if_icmp .ne 5, 3) := D23 5 rfl rfl rfl
theorem d23_13 : decode (am_mc 23) 13 = .ok (.iconst 1, 1) := D23 6 rfl rfl rfl
theorem d23_14 : decode (am_mc 23) 14 = .ok (.ireturn, 1) := D23 7 rfl rfl rfl
theorem d23_15 : decode (am_mc 23) 15 = .ok (.aload_n 1, 1) := D23 8 rfl rfl rfl
theorem d23_16 : decode (am_mc 23) 16 = .ok (.aload_n 0, 1) := D23 9 rfl rfl rfl
theorem d23_17 : decode (am_mc 23) 17 = .ok (.getfield 72, 3) := D23 10 rfl rfl rfl
theorem d23_20 : decode (am_mc 23) 20 = .ok (.invokevirtual 78, 3) := D23 11 rfl rfl rfl
theorem d23_23 : decode (am_mc 23) 23 = .ok (.bipush 13, 2) := D23 12 rfl rfl rfl
theorem d23_25 : decode (am_mc 23) 25 = .ok (.if_icmp .ne 22, 3) := D23 13 rfl rfl rfl
theorem d23_28 : decode (am_mc 23) 28 = .ok (.aload_n 1, 1) := D23 14 rfl rfl rfl
theorem d23_29 : decode (am_mc 23) 29 = .ok (.aload_n 0, 1) := D23 15 rfl rfl rfl
theorem d23_30 : decode (am_mc 23) 30 = .ok (.getfield 72, 3) := D23 16 rfl rfl rfl
theorem d23_33 : decode (am_mc 23) 33 = .ok (.iconst 1, 1) := D23 17 rfl rfl rfl
theorem d23_34 : decode (am_mc 23) 34 = .ok (.iadd, 1) := D23 18 rfl rfl rfl
theorem d23_35 : decode (am_mc 23) 35 = .ok (.invokevirtual 78, 3) := D23 19 rfl rfl rfl
theorem d23_38 : decode (am_mc 23) 38 = .ok (.bipush 10, 2) := D23 20 rfl rfl rfl
theorem d23_40 : decode (am_mc 23) 40 = .ok (.if_icmp .ne 7, 3) := D23 21 rfl rfl rfl
theorem d23_43 : decode (am_mc 23) 43 = .ok (.iconst 2, 1) := D23 22 rfl rfl rfl
theorem d23_44 : decode (am_mc 23) 44 = .ok (.goto 4, 3) := D23 23 rfl rfl rfl
theorem d23_47 : decode (am_mc 23) 47 = .ok (.iconst 0, 1) := D23 24 rfl rfl rfl
theorem d23_48 : decode (am_mc 23) 48 = .ok (.ireturn, 1) := D23 25 rfl rfl rfl
theorem ml23 : ∀ n, n < 2 → n < am_ml 23 := fun _ h => h
theorem mo23 : am_mo 23 = 2 := by decide +kernel
theorem mr23 : am_mr 23 = some .int := by decide +kernel
theorem rg23 : am_rcg 23 = 3 := by decide +kernel
theorem m2_78 : tb_m 2 78 = some (15, 2, 1, 0) := by decide +kernel
theorem dp23_15 : am_md 15 + 1 ≤ am_md 23 ∧ 8 + (am_ml 15 + 11) + am_lr 15 ≤ am_lr 23 := by decide +kernel
def fn23 (o : Nat) (a : Nat) (μ : am_M) : Option (Int × am_M) := (am_op (fn15 a (μ o 8) μ) (fun z1 => (if z1.1 = 10 then some (1, z1.2) else (am_op (fn15 a (z1.2 o 8) z1.2) (fun z2 => (if z2.1 = 13 then (am_op (fn15 a (w32 ((z2.2 o 8) + 1)) z2.2) (fun z3 => (if z3.1 = 10 then some (2, z3.2) else some (0, z3.2)))) else some (0, z2.2)))))))
def sp23 : am_F := fun vs μ => am_aR 2 vs fun o vs => am_aR 1 vs fun a vs => am_a0 vs (fn23 o a μ)
theorem e23 (o : Nat) (a : Nat) (μ : am_M) : sp23 [.inr (.inr (2, o)), .inr (.inr (1, a))] μ = fn23 o a μ := by simp only [sp23, am_aR_c, am_aI_c, am_aJ_c, am_a0_c]
theorem sd23 : am_Sd 23 sp23 := by
  refine am_Sd_of (by decide) (fun vs μ μ' x h hv hM => ?_)
  obtain ⟨o, vs0, rfl, h0⟩ := am_aR_s h
  obtain ⟨a, vs1, rfl, h1⟩ := am_aR_s h0
  obtain ⟨rfl, hz⟩ := am_a0_s h1
  refine ⟨Nat.le_of_ble_eq_true rfl, fun X C hG hr => ?_⟩
  have h := hz
  unfold fn23 at h
  exact (show am_W X C 23 _ 0 0 0 [(0, .inr (.inr (2, o))), (1, .inr (.inr (1, a)))] [] μ from (am_c_aload_n hG (pc := 0) d23_0 rfl (am_c_aload_n hG (pc := 1) d23_1 rfl (x_get_n (v := .inl (μ o 8)) hG (pc := 2) d23_2 mo23 f2_72 rfl (x_virtual_i (t := 1) (o := a) (as2 := [.inl (μ o 8)]) (rest := []) hG (pc := 5) d23_5 mo23 m2_78 (by decide) dp23_15 rfl rfl (Nat.le_of_ble_eq_true rfl) (Nat.le_of_ble_eq_true rfl) rg15 sd15 (e15 _ _ _) h (fun z1 h => (am_c_bipush hG (pc := 8) d23_8 (by decide) (x_icmp_ne (tgt := 15) hG (pc := 10) d23_10 rfl h (fun h => (am_c_aload_n hG (pc := 15) d23_15 rfl (am_c_aload_n hG (pc := 16) d23_16 rfl (x_get_n (v := .inl (z1.2 o 8)) hG (pc := 17) d23_17 mo23 f2_72 rfl (x_virtual_i (t := 1) (o := a) (as2 := [.inl (z1.2 o 8)]) (rest := []) hG (pc := 20) d23_20 mo23 m2_78 (by decide) dp23_15 rfl rfl (Nat.le_of_ble_eq_true rfl) (Nat.le_of_ble_eq_true rfl) rg15 sd15 (e15 _ _ _) h (fun z2 h => (am_c_bipush hG (pc := 23) d23_23 (by decide) (x_icmp_ne (tgt := 47) hG (pc := 25) d23_25 rfl h (fun h => (am_c_iconst hG (pc := 47) d23_47 (by decide) (x_iret hG (by decide) hr (pc := 48) d23_48 mr23 h))) (fun h => (am_c_aload_n hG (pc := 28) d23_28 rfl (am_c_aload_n hG (pc := 29) d23_29 rfl (x_get_n (v := .inl (z2.2 o 8)) hG (pc := 30) d23_30 mo23 f2_72 rfl (am_c_iconst hG (pc := 33) d23_33 (by decide) (am_c_iadd hG (pc := 34) d23_34 (x_virtual_i (t := 1) (o := a) (as2 := [.inl (w32 ((z2.2 o 8) + 1))]) (rest := []) hG (pc := 35) d23_35 mo23 m2_78 (by decide) dp23_15 rfl rfl (Nat.le_of_ble_eq_true rfl) (Nat.le_of_ble_eq_true rfl) rg15 sd15 (e15 _ _ _) h (fun z3 h => (am_c_bipush hG (pc := 38) d23_38 (by decide) (x_icmp_ne (tgt := 47) hG (pc := 40) d23_40 rfl h (fun h => (am_c_iconst hG (pc := 47) d23_47 (by decide) (x_iret hG (by decide) hr (pc := 48) d23_48 mr23 h))) (fun h => (am_c_iconst hG (pc := 43) d23_43 (by decide) (x_goto (tgt := 48) hG (pc := 44) d23_44 rfl (x_iret hG (by decide) hr (pc := 48) d23_48 mr23 h)))))))))))))))))))))) (fun h => (am_c_iconst hG (pc := 13) d23_13 (by decide) (x_iret hG (by decide) hr (pc := 14) d23_14 mr23 h)))))))))))
/-! ChartPress$Table.endRecord()V -/
theorem D24 (k : Nat) {pc : Nat} {i : Instr} (h : tbi24[k]? = some (pc, i)) (hs : am_isw i = false) {n : Nat} (hn : am_il i = n) : decode (am_mc 24) pc = .ok (i, n) := am_d2 (by decide) (by decide) rfl h hs hn
theorem d24_0 : decode (am_mc 24) 0 = .ok (.aload_n 0, 1) := D24 0 rfl rfl rfl
theorem d24_1 : decode (am_mc 24) 1 = .ok (.getfield 56, 3) := D24 1 rfl rfl rfl
theorem d24_4 : decode (am_mc 24) 4 = .ok (.ifCond .ne 11, 3) := D24 2 rfl rfl rfl
theorem d24_7 : decode (am_mc 24) 7 = .ok (.aload_n 0, 1) := D24 3 rfl rfl rfl
theorem d24_8 : decode (am_mc 24) 8 = .ok (.aload_n 0, 1) := D24 4 rfl rfl rfl
theorem d24_9 : decode (am_mc 24) 9 = .ok (.getfield 69, 3) := D24 5 rfl rfl rfl
theorem d24_12 : decode (am_mc 24) 12 = .ok (.putfield 52, 3) := D24 6 rfl rfl rfl
theorem d24_15 : decode (am_mc 24) 15 = .ok (.aload_n 0, 1) := D24 7 rfl rfl rfl
theorem d24_16 : decode (am_mc 24) 16 = .ok (.aload_n 0, 1) := D24 8 rfl rfl rfl
theorem d24_17 : decode (am_mc 24) 17 = .ok (.getfield 46, 3) := D24 9 rfl rfl rfl
theorem d24_20 : decode (am_mc 24) 20 = .ok (.ifCond .eq 18, 3) := D24 10 rfl rfl rfl
theorem d24_23 : decode (am_mc 24) 23 = .ok (.aload_n 0, 1) := D24 11 rfl rfl rfl
theorem d24_24 : decode (am_mc 24) 24 = .ok (.getfield 69, 3) := D24 12 rfl rfl rfl
theorem d24_27 : decode (am_mc 24) 27 = .ok (.aload_n 0, 1) := D24 13 rfl rfl rfl
theorem d24_28 : decode (am_mc 24) 28 = .ok (.getfield 52, 3) := D24 14 rfl rfl rfl
theorem d24_31 : decode (am_mc 24) 31 = .ok (.if_icmp .ne 7, 3) := D24 15 rfl rfl rfl
theorem d24_34 : decode (am_mc 24) 34 = .ok (.iconst 1, 1) := D24 16 rfl rfl rfl
theorem d24_35 : decode (am_mc 24) 35 = .ok (.goto 4, 3) := D24 17 rfl rfl rfl
theorem d24_38 : decode (am_mc 24) 38 = .ok (.iconst 0, 1) := D24 18 rfl rfl rfl
theorem d24_39 : decode (am_mc 24) 39 = .ok (.putfield 46, 3) := D24 19 rfl rfl rfl
theorem d24_42 : decode (am_mc 24) 42 = .ok (.aload_n 0, 1) := D24 20 rfl rfl rfl
theorem d24_43 : decode (am_mc 24) 43 = .ok (.dup, 1) := D24 21 rfl rfl rfl
theorem d24_44 : decode (am_mc 24) 44 = .ok (.getfield 56, 3) := D24 22 rfl rfl rfl
theorem d24_47 : decode (am_mc 24) 47 = .ok (.iconst 1, 1) := D24 23 rfl rfl rfl
theorem d24_48 : decode (am_mc 24) 48 = .ok (.iadd, 1) := D24 24 rfl rfl rfl
theorem d24_49 : decode (am_mc 24) 49 = .ok (.putfield 56, 3) := D24 25 rfl rfl rfl
theorem d24_52 : decode (am_mc 24) 52 = .ok (.aload_n 0, 1) := D24 26 rfl rfl rfl
theorem d24_53 : decode (am_mc 24) 53 = .ok (.iconst 0, 1) := D24 27 rfl rfl rfl
theorem d24_54 : decode (am_mc 24) 54 = .ok (.putfield 69, 3) := D24 28 rfl rfl rfl
theorem d24_57 : decode (am_mc 24) 57 = .ok (.return_, 1) := D24 29 rfl rfl rfl
theorem ml24 : ∀ n, n < 1 → n < am_ml 24 := fun _ h => h
theorem mo24 : am_mo 24 = 2 := by decide +kernel
theorem rk24 : am_rk 24 = 0 := by decide +kernel
theorem rg24 : am_rcg 24 = 3 := by decide +kernel
def fn24 (o : Nat) (μ : am_M) : Option (Int × am_M) := (if μ o 6 = 0 then (if (am_up μ o 5 (μ o 7)) o 10 = 0 then some (0, am_up (am_up (am_up (am_up μ o 5 (μ o 7)) o 10 0) o 6 (w32 (((am_up (am_up μ o 5 (μ o 7)) o 10 0) o 6) + 1))) o 7 0) else (if (am_up μ o 5 (μ o 7)) o 7 = (am_up μ o 5 (μ o 7)) o 5 then some (0, am_up (am_up (am_up (am_up μ o 5 (μ o 7)) o 10 1) o 6 (w32 (((am_up (am_up μ o 5 (μ o 7)) o 10 1) o 6) + 1))) o 7 0) else some (0, am_up (am_up (am_up (am_up μ o 5 (μ o 7)) o 10 0) o 6 (w32 (((am_up (am_up μ o 5 (μ o 7)) o 10 0) o 6) + 1))) o 7 0))) else (if μ o 10 = 0 then some (0, am_up (am_up (am_up μ o 10 0) o 6 (w32 (((am_up μ o 10 0) o 6) + 1))) o 7 0) else (if μ o 7 = μ o 5 then some (0, am_up (am_up (am_up μ o 10 1) o 6 (w32 (((am_up μ o 10 1) o 6) + 1))) o 7 0) else some (0, am_up (am_up (am_up μ o 10 0) o 6 (w32 (((am_up μ o 10 0) o 6) + 1))) o 7 0))))
def sp24 : am_F := fun vs μ => am_aR 2 vs fun o vs => am_a0 vs (fn24 o μ)
theorem e24 (o : Nat) (μ : am_M) : sp24 [.inr (.inr (2, o))] μ = fn24 o μ := by simp only [sp24, am_aR_c, am_aI_c, am_aJ_c, am_a0_c]
theorem sd24 : am_Sd 24 sp24 := by
  refine am_Sd_of (by decide) (fun vs μ μ' x h hv hM => ?_)
  obtain ⟨o, vs0, rfl, h0⟩ := am_aR_s h
  obtain ⟨rfl, hz⟩ := am_a0_s h0
  refine ⟨Nat.le_of_ble_eq_true rfl, fun X C hG hr => ?_⟩
  have h := hz
  unfold fn24 at h
  exact (show am_W X C 24 _ 0 0 0 [(0, .inr (.inr (2, o)))] [] μ from (am_c_aload_n hG (pc := 0) d24_0 rfl (x_get_n (v := .inl (μ o 6)) hG (pc := 1) d24_1 mo24 f2_56 rfl (x_if_ne (tgt := 15) hG (pc := 4) d24_4 rfl h (fun h => (am_c_aload_n hG (pc := 15) d24_15 rfl (am_c_aload_n hG (pc := 16) d24_16 rfl (x_get_n (v := .inl (μ o 10)) hG (pc := 17) d24_17 mo24 f2_46 rfl (x_if_eq (tgt := 38) hG (pc := 20) d24_20 rfl h (fun h => (am_c_iconst hG (pc := 38) d24_38 (by decide) (x_put_0 hG (pc := 39) d24_39 mo24 f2_46 (by decide) (am_c_aload_n hG (pc := 42) d24_42 rfl (am_c_dup hG (pc := 43) d24_43 rfl (x_get_n (v := .inl ((am_up μ o 10 0) o 6)) hG (pc := 44) d24_44 mo24 f2_56 rfl (am_c_iconst hG (pc := 47) d24_47 (by decide) (am_c_iadd hG (pc := 48) d24_48 (x_put_i hG (pc := 49) d24_49 mo24 f2_56 (by decide) (am_c_aload_n hG (pc := 52) d24_52 rfl (am_c_iconst hG (pc := 53) d24_53 (by decide) (x_put_i hG (pc := 54) d24_54 mo24 f2_69 (by decide) (x_vret hG (by decide) hr (pc := 57) d24_57 rk24 h))))))))))))) (fun h => (am_c_aload_n hG (pc := 23) d24_23 rfl (x_get_n (v := .inl (μ o 7)) hG (pc := 24) d24_24 mo24 f2_69 rfl (am_c_aload_n hG (pc := 27) d24_27 rfl (x_get_n (v := .inl (μ o 5)) hG (pc := 28) d24_28 mo24 f2_52 rfl (x_icmp_ne (tgt := 38) hG (pc := 31) d24_31 rfl h (fun h => (am_c_iconst hG (pc := 38) d24_38 (by decide) (x_put_0 hG (pc := 39) d24_39 mo24 f2_46 (by decide) (am_c_aload_n hG (pc := 42) d24_42 rfl (am_c_dup hG (pc := 43) d24_43 rfl (x_get_n (v := .inl ((am_up μ o 10 0) o 6)) hG (pc := 44) d24_44 mo24 f2_56 rfl (am_c_iconst hG (pc := 47) d24_47 (by decide) (am_c_iadd hG (pc := 48) d24_48 (x_put_i hG (pc := 49) d24_49 mo24 f2_56 (by decide) (am_c_aload_n hG (pc := 52) d24_52 rfl (am_c_iconst hG (pc := 53) d24_53 (by decide) (x_put_i hG (pc := 54) d24_54 mo24 f2_69 (by decide) (x_vret hG (by decide) hr (pc := 57) d24_57 rk24 h))))))))))))) (fun h => (am_c_iconst hG (pc := 34) d24_34 (by decide) (x_goto (tgt := 39) hG (pc := 35) d24_35 rfl (x_put_1 hG (pc := 39) d24_39 mo24 f2_46 (by decide) (am_c_aload_n hG (pc := 42) d24_42 rfl (am_c_dup hG (pc := 43) d24_43 rfl (x_get_n (v := .inl ((am_up μ o 10 1) o 6)) hG (pc := 44) d24_44 mo24 f2_56 rfl (am_c_iconst hG (pc := 47) d24_47 (by decide) (am_c_iadd hG (pc := 48) d24_48 (x_put_i hG (pc := 49) d24_49 mo24 f2_56 (by decide) (am_c_aload_n hG (pc := 52) d24_52 rfl (am_c_iconst hG (pc := 53) d24_53 (by decide) (x_put_i hG (pc := 54) d24_54 mo24 f2_69 (by decide) (x_vret hG (by decide) hr (pc := 57) d24_57 rk24 h))))))))))))))))))))))))) (fun h => (am_c_aload_n hG (pc := 7) d24_7 rfl (am_c_aload_n hG (pc := 8) d24_8 rfl (x_get_n (v := .inl (μ o 7)) hG (pc := 9) d24_9 mo24 f2_69 rfl (x_put_i hG (pc := 12) d24_12 mo24 f2_52 (by decide) (am_c_aload_n hG (pc := 15) d24_15 rfl (am_c_aload_n hG (pc := 16) d24_16 rfl (x_get_n (v := .inl ((am_up μ o 5 (μ o 7)) o 10)) hG (pc := 17) d24_17 mo24 f2_46 rfl (x_if_eq (tgt := 38) hG (pc := 20) d24_20 rfl h (fun h => (am_c_iconst hG (pc := 38) d24_38 (by decide) (x_put_0 hG (pc := 39) d24_39 mo24 f2_46 (by decide) (am_c_aload_n hG (pc := 42) d24_42 rfl (am_c_dup hG (pc := 43) d24_43 rfl (x_get_n (v := .inl ((am_up (am_up μ o 5 (μ o 7)) o 10 0) o 6)) hG (pc := 44) d24_44 mo24 f2_56 rfl (am_c_iconst hG (pc := 47) d24_47 (by decide) (am_c_iadd hG (pc := 48) d24_48 (x_put_i hG (pc := 49) d24_49 mo24 f2_56 (by decide) (am_c_aload_n hG (pc := 52) d24_52 rfl (am_c_iconst hG (pc := 53) d24_53 (by decide) (x_put_i hG (pc := 54) d24_54 mo24 f2_69 (by decide) (x_vret hG (by decide) hr (pc := 57) d24_57 rk24 h))))))))))))) (fun h => (am_c_aload_n hG (pc := 23) d24_23 rfl (x_get_n (v := .inl ((am_up μ o 5 (μ o 7)) o 7)) hG (pc := 24) d24_24 mo24 f2_69 rfl (am_c_aload_n hG (pc := 27) d24_27 rfl (x_get_n (v := .inl ((am_up μ o 5 (μ o 7)) o 5)) hG (pc := 28) d24_28 mo24 f2_52 rfl (x_icmp_ne (tgt := 38) hG (pc := 31) d24_31 rfl h (fun h => (am_c_iconst hG (pc := 38) d24_38 (by decide) (x_put_0 hG (pc := 39) d24_39 mo24 f2_46 (by decide) (am_c_aload_n hG (pc := 42) d24_42 rfl (am_c_dup hG (pc := 43) d24_43 rfl (x_get_n (v := .inl ((am_up (am_up μ o 5 (μ o 7)) o 10 0) o 6)) hG (pc := 44) d24_44 mo24 f2_56 rfl (am_c_iconst hG (pc := 47) d24_47 (by decide) (am_c_iadd hG (pc := 48) d24_48 (x_put_i hG (pc := 49) d24_49 mo24 f2_56 (by decide) (am_c_aload_n hG (pc := 52) d24_52 rfl (am_c_iconst hG (pc := 53) d24_53 (by decide) (x_put_i hG (pc := 54) d24_54 mo24 f2_69 (by decide) (x_vret hG (by decide) hr (pc := 57) d24_57 rk24 h))))))))))))) (fun h => (am_c_iconst hG (pc := 34) d24_34 (by decide) (x_goto (tgt := 39) hG (pc := 35) d24_35 rfl (x_put_1 hG (pc := 39) d24_39 mo24 f2_46 (by decide) (am_c_aload_n hG (pc := 42) d24_42 rfl (am_c_dup hG (pc := 43) d24_43 rfl (x_get_n (v := .inl ((am_up (am_up μ o 5 (μ o 7)) o 10 1) o 6)) hG (pc := 44) d24_44 mo24 f2_56 rfl (am_c_iconst hG (pc := 47) d24_47 (by decide) (am_c_iadd hG (pc := 48) d24_48 (x_put_i hG (pc := 49) d24_49 mo24 f2_56 (by decide) (am_c_aload_n hG (pc := 52) d24_52 rfl (am_c_iconst hG (pc := 53) d24_53 (by decide) (x_put_i hG (pc := 54) d24_54 mo24 f2_69 (by decide) (x_vret hG (by decide) hr (pc := 57) d24_57 rk24 h)))))))))))))))))))))))))))))))))
/-! ChartPress$Table.passSeparator(LChartPress$Script;)V -/
theorem D25 (k : Nat) {pc : Nat} {i : Instr} (h : tbi25[k]? = some (pc, i)) (hs : am_isw i = false) {n : Nat} (hn : am_il i = n) : decode (am_mc 25) pc = .ok (i, n) := am_d2 (by decide) (by decide) rfl h hs hn
theorem d25_0 : decode (am_mc 25) 0 = .ok (.aload_n 0, 1) := D25 0 rfl rfl rfl
theorem d25_1 : decode (am_mc 25) 1 = .ok (.aload_n 1, 1) := D25 1 rfl rfl rfl
theorem d25_2 : decode (am_mc 25) 2 = .ok (.invokevirtual 106, 3) := D25 2 rfl rfl rfl
theorem d25_5 : decode (am_mc 25) 5 = .ok (.istore_n 2, 1) := D25 3 rfl rfl rfl
theorem d25_6 : decode (am_mc 25) 6 = .ok (.aload_n 0, 1) := D25 4 rfl rfl rfl
theorem d25_7 : decode (am_mc 25) 7 = .ok (.getfield 72, 3) := D25 5 rfl rfl rfl
theorem d25_10 : decode (am_mc 25) 10 = .ok (.aload_n 1, 1) := D25 6 rfl rfl rfl
theorem d25_11 : decode (am_mc 25) 11 = .ok (.invokevirtual 95, 3) := D25 7 rfl rfl rfl
theorem d25_14 : decode (am_mc 25) 14 = .ok (.if_icmp .lt 15, 3) := D25 8 rfl rfl rfl
theorem d25_17 : decode (am_mc 25) 17 = .ok (.aload_n 0, 1) := D25 9 rfl rfl rfl
theorem d25_18 : decode (am_mc 25) 18 = .ok (.invokevirtual 110, 3) := D25 10 rfl rfl rfl
theorem d25_21 : decode (am_mc 25) 21 = .ok (.aload_n 0, 1) := D25 11 rfl rfl rfl
theorem d25_22 : decode (am_mc 25) 22 = .ok (.iconst 1, 1) := D25 12 rfl rfl rfl
theorem d25_23 : decode (am_mc 25) 23 = .ok (.putfield 35, 3) := D25 13 rfl rfl rfl
theorem d25_26 : decode (am_mc 25) 26 = .ok (.goto 80, 3) := D25 14 rfl rfl rfl
theorem d25_29 : decode (am_mc 25) 29 = .ok (.aload_n 1, 1) := D25 15 rfl rfl rfl
theorem d25_30 : decode (am_mc 25) 30 = .ok (.aload_n 0, 1) := D25 16 rfl rfl rfl
theorem d25_31 : decode (am_mc 25) 31 = .ok (.getfield 72, 3) := D25 17 rfl rfl rfl
theorem d25_34 : decode (am_mc 25) 34 = .ok (.invokevirtual 78, 3) := D25 18 rfl rfl rfl
theorem d25_37 : decode (am_mc 25) 37 = .ok (.bipush 44, 2) := D25 19 rfl rfl rfl
theorem d25_39 : decode (am_mc 25) 39 = .ok (.if_icmp .ne 16, 3) := D25 20 rfl rfl rfl
theorem d25_42 : decode (am_mc 25) 42 = .ok (.aload_n 0, 1) := D25 21 rfl rfl rfl
theorem d25_43 : decode (am_mc 25) 43 = .ok (.dup, 1) := D25 22 rfl rfl rfl
theorem d25_44 : decode (am_mc 25) 44 = .ok (.getfield 72, 3) := D25 23 rfl rfl rfl
theorem d25_47 : decode (am_mc 25) 47 = .ok (.iconst 1, 1) := D25 24 rfl rfl rfl
theorem d25_48 : decode (am_mc 25) 48 = .ok (.iadd, 1) := D25 25 rfl rfl rfl
theorem d25_49 : decode (am_mc 25) 49 = .ok (.putfield 72, 3) := D25 26 rfl rfl rfl
theorem d25_52 : decode (am_mc 25) 52 = .ok (.goto 54, 3) := D25 27 rfl rfl rfl
theorem d25_55 : decode (am_mc 25) 55 = .ok (.iload_n 2, 1) := D25 28 rfl rfl rfl
theorem d25_56 : decode (am_mc 25) 56 = .ok (.ifCond .le 40, 3) := D25 29 rfl rfl rfl
theorem d25_59 : decode (am_mc 25) 59 = .ok (.aload_n 0, 1) := D25 30 rfl rfl rfl
theorem d25_60 : decode (am_mc 25) 60 = .ok (.invokevirtual 110, 3) := D25 31 rfl rfl rfl
theorem d25_63 : decode (am_mc 25) 63 = .ok (.aload_n 0, 1) := D25 32 rfl rfl rfl
theorem d25_64 : decode (am_mc 25) 64 = .ok (.dup, 1) := D25 33 rfl rfl rfl
theorem d25_65 : decode (am_mc 25) 65 = .ok (.getfield 72, 3) := D25 34 rfl rfl rfl
theorem d25_68 : decode (am_mc 25) 68 = .ok (.iload_n 2, 1) := D25 35 rfl rfl rfl
theorem d25_69 : decode (am_mc 25) 69 = .ok (.iadd, 1) := D25 36 rfl rfl rfl
theorem d25_70 : decode (am_mc 25) 70 = .ok (.putfield 72, 3) := D25 37 rfl rfl rfl
theorem d25_73 : decode (am_mc 25) 73 = .ok (.aload_n 0, 1) := D25 38 rfl rfl rfl
theorem d25_74 : decode (am_mc 25) 74 = .ok (.aload_n 0, 1) := D25 39 rfl rfl rfl
theorem d25_75 : decode (am_mc 25) 75 = .ok (.getfield 72, 3) := D25 40 rfl rfl rfl
theorem d25_78 : decode (am_mc 25) 78 = .ok (.aload_n 1, 1) := D25 41 rfl rfl rfl
theorem d25_79 : decode (am_mc 25) 79 = .ok (.invokevirtual 95, 3) := D25 42 rfl rfl rfl
theorem d25_82 : decode (am_mc 25) 82 = .ok (.if_icmp .lt 7, 3) := D25 43 rfl rfl rfl
theorem d25_85 : decode (am_mc 25) 85 = .ok (.iconst 1, 1) := D25 44 rfl rfl rfl
theorem d25_86 : decode (am_mc 25) 86 = .ok (.goto 4, 3) := D25 45 rfl rfl rfl
theorem d25_89 : decode (am_mc 25) 89 = .ok (.iconst 0, 1) := D25 46 rfl rfl rfl
theorem d25_90 : decode (am_mc 25) 90 = .ok (.putfield 35, 3) := D25 47 rfl rfl rfl
theorem d25_93 : decode (am_mc 25) 93 = .ok (.goto 13, 3) := D25 48 rfl rfl rfl
theorem d25_96 : decode (am_mc 25) 96 = .ok (.aload_n 0, 1) := D25 49 rfl rfl rfl
theorem d25_97 : decode (am_mc 25) 97 = .ok (.iconst 0, 1) := D25 50 rfl rfl rfl
theorem d25_98 : decode (am_mc 25) 98 = .ok (.putfield 46, 3) := D25 51 rfl rfl rfl
theorem d25_101 : decode (am_mc 25) 101 = .ok (.aload_n 0, 1) := D25 52 rfl rfl rfl
theorem d25_102 : decode (am_mc 25) 102 = .ok (.iconst 1, 1) := D25 53 rfl rfl rfl
theorem d25_103 : decode (am_mc 25) 103 = .ok (.putfield 35, 3) := D25 54 rfl rfl rfl
theorem d25_106 : decode (am_mc 25) 106 = .ok (.return_, 1) := D25 55 rfl rfl rfl
theorem ml25 : ∀ n, n < 3 → n < am_ml 25 := fun _ h => h
theorem mo25 : am_mo 25 = 2 := by decide +kernel
theorem rk25 : am_rk 25 = 0 := by decide +kernel
theorem rg25 : am_rcg 25 = 3 := by decide +kernel
theorem m2_95 : tb_m 2 95 = some (16, 1, 1, 0) := by decide +kernel
theorem m2_106 : tb_m 2 106 = some (23, 2, 1, 0) := by decide +kernel
theorem m2_110 : tb_m 2 110 = some (24, 1, 0, 0) := by decide +kernel
theorem dp25_15 : am_md 15 + 1 ≤ am_md 25 ∧ 8 + (am_ml 15 + 11) + am_lr 15 ≤ am_lr 25 := by decide +kernel
theorem dp25_16 : am_md 16 + 1 ≤ am_md 25 ∧ 8 + (am_ml 16 + 11) + am_lr 16 ≤ am_lr 25 := by decide +kernel
theorem dp25_23 : am_md 23 + 1 ≤ am_md 25 ∧ 8 + (am_ml 23 + 11) + am_lr 23 ≤ am_lr 25 := by decide +kernel
theorem dp25_24 : am_md 24 + 1 ≤ am_md 25 ∧ 8 + (am_ml 24 + 11) + am_lr 24 ≤ am_lr 25 := by decide +kernel
def fn25 (o : Nat) (a : Nat) (μ : am_M) : Option (Int × am_M) := (am_op (fn23 o a μ) (fun z1 => (am_op (fn16 a z1.2) (fun z2 => (if z1.2 o 8 < z2.1 then (am_op (fn15 a (z2.2 o 8) z2.2) (fun z3 => (if z3.1 = 44 then some (0, am_up z3.2 o 8 (w32 ((z3.2 o 8) + 1))) else (if 0 < z1.1 then (am_op (fn24 o z3.2) (fun z4 => (am_op (fn16 a (am_up z4.2 o 8 (w32 ((z4.2 o 8) + z1.1)))) (fun z5 => (if (am_up z4.2 o 8 (w32 ((z4.2 o 8) + z1.1))) o 8 < z5.1 then some (0, am_up z5.2 o 9 0) else some (0, am_up z5.2 o 9 1)))))) else some (0, am_up (am_up z3.2 o 10 0) o 9 1))))) else (am_op (fn24 o z2.2) (fun z6 => some (0, am_up z6.2 o 9 1))))))))
def sp25 : am_F := fun vs μ => am_aR 2 vs fun o vs => am_aR 1 vs fun a vs => am_a0 vs (fn25 o a μ)
theorem e25 (o : Nat) (a : Nat) (μ : am_M) : sp25 [.inr (.inr (2, o)), .inr (.inr (1, a))] μ = fn25 o a μ := by simp only [sp25, am_aR_c, am_aI_c, am_aJ_c, am_a0_c]
theorem sd25 : am_Sd 25 sp25 := by
  refine am_Sd_of (by decide) (fun vs μ μ' x h hv hM => ?_)
  obtain ⟨o, vs0, rfl, h0⟩ := am_aR_s h
  obtain ⟨a, vs1, rfl, h1⟩ := am_aR_s h0
  obtain ⟨rfl, hz⟩ := am_a0_s h1
  refine ⟨Nat.le_of_ble_eq_true rfl, fun X C hG hr => ?_⟩
  have h := hz
  unfold fn25 at h
  exact (show am_W X C 25 _ 0 0 0 [(0, .inr (.inr (2, o))), (1, .inr (.inr (1, a)))] [] μ from (am_c_aload_n hG (pc := 0) d25_0 rfl (am_c_aload_n hG (pc := 1) d25_1 rfl (x_virtual_i (t := 2) (o := o) (as2 := [.inr (.inr (1, a))]) (rest := []) hG (pc := 2) d25_2 mo25 m2_106 (by decide) dp25_23 rfl rfl (Nat.le_of_ble_eq_true rfl) (Nat.le_of_ble_eq_true rfl) rg23 sd23 (e23 _ _ _) h (fun z1 h => (x_istore_n (lv' := [(2, .inl z1.1), (0, .inr (.inr (2, o))), (1, .inr (.inr (1, a)))]) hG (pc := 5) d25_5 (ml25 _ (by decide)) rfl (am_c_aload_n hG (pc := 6) d25_6 rfl (x_get_n (v := .inl (z1.2 o 8)) hG (pc := 7) d25_7 mo25 f2_72 rfl (am_c_aload_n hG (pc := 10) d25_10 rfl (x_virtual_i (t := 1) (o := a) (as2 := []) (rest := [.inl (z1.2 o 8)]) hG (pc := 11) d25_11 mo25 m2_95 (by decide) dp25_16 rfl rfl (Nat.le_of_ble_eq_true rfl) (Nat.le_of_ble_eq_true rfl) rg16 sd16 (e16 _ _) h (fun z2 h => (x_icmp_lt (tgt := 29) hG (pc := 14) d25_14 rfl h (fun h => (am_c_aload_n hG (pc := 29) d25_29 rfl (am_c_aload_n hG (pc := 30) d25_30 rfl (x_get_n (v := .inl (z2.2 o 8)) hG (pc := 31) d25_31 mo25 f2_72 rfl (x_virtual_i (t := 1) (o := a) (as2 := [.inl (z2.2 o 8)]) (rest := []) hG (pc := 34) d25_34 mo25 m2_78 (by decide) dp25_15 rfl rfl (Nat.le_of_ble_eq_true rfl) (Nat.le_of_ble_eq_true rfl) rg15 sd15 (e15 _ _ _) h (fun z3 h => (am_c_bipush hG (pc := 37) d25_37 (by decide) (x_icmp_ne (tgt := 55) hG (pc := 39) d25_39 rfl h (fun h => (am_c_iload_n hG (pc := 55) d25_55 rfl (x_if_le (tgt := 96) hG (pc := 56) d25_56 rfl h (fun h => (am_c_aload_n hG (pc := 96) d25_96 rfl (am_c_iconst hG (pc := 97) d25_97 (by decide) (x_put_0 hG (pc := 98) d25_98 mo25 f2_46 (by decide) (am_c_aload_n hG (pc := 101) d25_101 rfl (am_c_iconst hG (pc := 102) d25_102 (by decide) (x_put_1 hG (pc := 103) d25_103 mo25 f2_35 (by decide) (x_vret hG (by decide) hr (pc := 106) d25_106 rk25 h)))))))) (fun h => (am_c_aload_n hG (pc := 59) d25_59 rfl (x_virtual_v (t := 2) (o := o) (as2 := []) (rest := []) hG (pc := 60) d25_60 mo25 m2_110 (by decide) dp25_24 rfl rfl (Nat.le_of_ble_eq_true rfl) (Nat.le_of_ble_eq_true rfl) rg24 sd24 (e24 _ _) h (fun z4 h => (am_c_aload_n hG (pc := 63) d25_63 rfl (am_c_dup hG (pc := 64) d25_64 rfl (x_get_n (v := .inl (z4.2 o 8)) hG (pc := 65) d25_65 mo25 f2_72 rfl (am_c_iload_n hG (pc := 68) d25_68 rfl (am_c_iadd hG (pc := 69) d25_69 (x_put_i hG (pc := 70) d25_70 mo25 f2_72 (by decide) (am_c_aload_n hG (pc := 73) d25_73 rfl (am_c_aload_n hG (pc := 74) d25_74 rfl (x_get_n (v := .inl ((am_up z4.2 o 8 (w32 ((z4.2 o 8) + z1.1))) o 8)) hG (pc := 75) d25_75 mo25 f2_72 rfl (am_c_aload_n hG (pc := 78) d25_78 rfl (x_virtual_i (t := 1) (o := a) (as2 := []) (rest := [.inl ((am_up z4.2 o 8 (w32 ((z4.2 o 8) + z1.1))) o 8), .inr (.inr (2, o))]) hG (pc := 79) d25_79 mo25 m2_95 (by decide) dp25_16 rfl rfl (Nat.le_of_ble_eq_true rfl) (Nat.le_of_ble_eq_true rfl) rg16 sd16 (e16 _ _) h (fun z5 h => (x_icmp_lt (tgt := 89) hG (pc := 82) d25_82 rfl h (fun h => (am_c_iconst hG (pc := 89) d25_89 (by decide) (x_put_0 hG (pc := 90) d25_90 mo25 f2_35 (by decide) (x_goto (tgt := 106) hG (pc := 93) d25_93 rfl (x_vret hG (by decide) hr (pc := 106) d25_106 rk25 h))))) (fun h => (am_c_iconst hG (pc := 85) d25_85 (by decide) (x_goto (tgt := 90) hG (pc := 86) d25_86 rfl (x_put_1 hG (pc := 90) d25_90 mo25 f2_35 (by decide) (x_goto (tgt := 106) hG (pc := 93) d25_93 rfl (x_vret hG (by decide) hr (pc := 106) d25_106 rk25 h)))))))))))))))))))))))))) (fun h => (am_c_aload_n hG (pc := 42) d25_42 rfl (am_c_dup hG (pc := 43) d25_43 rfl (x_get_n (v := .inl (z3.2 o 8)) hG (pc := 44) d25_44 mo25 f2_72 rfl (am_c_iconst hG (pc := 47) d25_47 (by decide) (am_c_iadd hG (pc := 48) d25_48 (x_put_i hG (pc := 49) d25_49 mo25 f2_72 (by decide) (x_goto (tgt := 106) hG (pc := 52) d25_52 rfl (x_vret hG (by decide) hr (pc := 106) d25_106 rk25 h))))))))))))))))) (fun h => (am_c_aload_n hG (pc := 17) d25_17 rfl (x_virtual_v (t := 2) (o := o) (as2 := []) (rest := []) hG (pc := 18) d25_18 mo25 m2_110 (by decide) dp25_24 rfl rfl (Nat.le_of_ble_eq_true rfl) (Nat.le_of_ble_eq_true rfl) rg24 sd24 (e24 _ _) h (fun z6 h => (am_c_aload_n hG (pc := 21) d25_21 rfl (am_c_iconst hG (pc := 22) d25_22 (by decide) (x_put_1 hG (pc := 23) d25_23 mo25 f2_35 (by decide) (x_goto (tgt := 106) hG (pc := 26) d25_26 rfl (x_vret hG (by decide) hr (pc := 106) d25_106 rk25 h)))))))))))))))))))))
/-! ChartPress$Table.rows()I -/
theorem D26 (k : Nat) {pc : Nat} {i : Instr} (h : tbi26[k]? = some (pc, i)) (hs : am_isw i = false) {n : Nat} (hn : am_il i = n) : decode (am_mc 26) pc = .ok (i, n) := am_d2 (by decide) (by decide) rfl h hs hn
theorem d26_0 : decode (am_mc 26) 0 = .ok (.aload_n 0, 1) := D26 0 rfl rfl rfl
theorem d26_1 : decode (am_mc 26) 1 = .ok (.getfield 56, 3) := D26 1 rfl rfl rfl
theorem d26_4 : decode (am_mc 26) 4 = .ok (.iconst 1, 1) := D26 2 rfl rfl rfl
theorem d26_5 : decode (am_mc 26) 5 = .ok (.isub, 1) := D26 3 rfl rfl rfl
theorem d26_6 : decode (am_mc 26) 6 = .ok (.ireturn, 1) := D26 4 rfl rfl rfl
theorem ml26 : ∀ n, n < 1 → n < am_ml 26 := fun _ h => h
theorem mo26 : am_mo 26 = 2 := by decide +kernel
theorem mr26 : am_mr 26 = some .int := by decide +kernel
theorem rg26 : am_rcg 26 = 3 := by decide +kernel
def fn26 (o : Nat) (μ : am_M) : Option (Int × am_M) := some (w32 ((μ o 6) - 1), μ)
def sp26 : am_F := fun vs μ => am_aR 2 vs fun o vs => am_a0 vs (fn26 o μ)
theorem e26 (o : Nat) (μ : am_M) : sp26 [.inr (.inr (2, o))] μ = fn26 o μ := by simp only [sp26, am_aR_c, am_aI_c, am_aJ_c, am_a0_c]
theorem sd26 : am_Sd 26 sp26 := by
  refine am_Sd_of (by decide) (fun vs μ μ' x h hv hM => ?_)
  obtain ⟨o, vs0, rfl, h0⟩ := am_aR_s h
  obtain ⟨rfl, hz⟩ := am_a0_s h0
  refine ⟨Nat.le_of_ble_eq_true rfl, fun X C hG hr => ?_⟩
  have h := hz
  unfold fn26 at h
  exact (show am_W X C 26 _ 0 0 0 [(0, .inr (.inr (2, o)))] [] μ from (am_c_aload_n hG (pc := 0) d26_0 rfl (x_get_n (v := .inl (μ o 6)) hG (pc := 1) d26_1 mo26 f2_56 rfl (am_c_iconst hG (pc := 4) d26_4 (by decide) (am_c_isub hG (pc := 5) d26_5 (x_iret hG (by decide) hr (pc := 6) d26_6 mr26 h))))))
/-! ChartPress$Table.place(II)I -/
theorem D27 (k : Nat) {pc : Nat} {i : Instr} (h : tbi27[k]? = some (pc, i)) (hs : am_isw i = false) {n : Nat} (hn : am_il i = n) : decode (am_mc 27) pc = .ok (i, n) := am_d2 (by decide) (by decide) rfl h hs hn
theorem d27_0 : decode (am_mc 27) 0 = .ok (.iload_n 1, 1) := D27 0 rfl rfl rfl
theorem d27_1 : decode (am_mc 27) 1 = .ok (.iconst 1, 1) := D27 1 rfl rfl rfl
theorem d27_2 : decode (am_mc 27) 2 = .ok (.iadd, 1) := D27 2 rfl rfl rfl
theorem d27_3 : decode (am_mc 27) 3 = .ok (.aload_n 0, 1) := D27 3 rfl rfl rfl
theorem d27_4 : decode (am_mc 27) 4 = .ok (.getfield 52, 3) := D27 4 rfl rfl rfl
theorem d27_7 : decode (am_mc 27) 7 = .ok (.imul, 1) := D27 5 rfl rfl rfl
theorem d27_8 : decode (am_mc 27) 8 = .ok (.iload_n 2, 1) := D27 6 rfl rfl rfl
theorem d27_9 : decode (am_mc 27) 9 = .ok (.iadd, 1) := D27 7 rfl rfl rfl
theorem d27_10 : decode (am_mc 27) 10 = .ok (.istore_n 3, 1) := D27 8 rfl rfl rfl
theorem d27_11 : decode (am_mc 27) 11 = .ok (.iload_n 3, 1) := D27 9 rfl rfl rfl
theorem d27_12 : decode (am_mc 27) 12 = .ok (.ifCond .lt 16, 3) := D27 10 rfl rfl rfl
theorem d27_15 : decode (am_mc 27) 15 = .ok (.iload_n 3, 1) := D27 11 rfl rfl rfl
theorem d27_16 : decode (am_mc 27) 16 = .ok (.aload_n 0, 1) := D27 12 rfl rfl rfl
theorem d27_17 : decode (am_mc 27) 17 = .ok (.getfield 11, 3) := D27 13 rfl rfl rfl
theorem d27_20 : decode (am_mc 27) 20 = .ok (.arraylength, 1) := D27 14 rfl rfl rfl
theorem d27_21 : decode (am_mc 27) 21 = .ok (.if_icmp .ge 7, 3) := D27 15 rfl rfl rfl
theorem d27_24 : decode (am_mc 27) 24 = .ok (.iload_n 3, 1) := D27 16 rfl rfl rfl
theorem d27_25 : decode (am_mc 27) 25 = .ok (.goto 4, 3) := D27 17 rfl rfl rfl
theorem d27_28 : decode (am_mc 27) 28 = .ok (.iconst (-1), 1) := D27 18 rfl rfl rfl
theorem d27_29 : decode (am_mc 27) 29 = .ok (.ireturn, 1) := D27 19 rfl rfl rfl
theorem ml27 : ∀ n, n < 4 → n < am_ml 27 := fun _ h => h
theorem mo27 : am_mo 27 = 2 := by decide +kernel
theorem mr27 : am_mr 27 = some .int := by decide +kernel
theorem rg27 : am_rcg 27 = 3 := by decide +kernel
theorem f2_11 : tb_f 2 11 = some (2, 0, 5, 21) := by decide +kernel
def fn27 (o : Nat) (a : Int) (b : Int) (μ : am_M) : Option (Int × am_M) := (if w32 ((w32 ((w32 (a + 1)) * (μ o 5))) + b) < 0 then some ((-1), μ) else (if w32 ((w32 ((w32 (a + 1)) * (μ o 5))) + b) < ((am_len (am_ref o 0) : Nat) : Int) then some (w32 ((w32 ((w32 (a + 1)) * (μ o 5))) + b), μ) else some ((-1), μ)))
def sp27 : am_F := fun vs μ => am_aR 2 vs fun o vs => am_aI vs fun a vs => am_aI vs fun b vs => am_a0 vs (fn27 o a b μ)
theorem e27 (o : Nat) (a : Int) (b : Int) (μ : am_M) : sp27 [.inr (.inr (2, o)), .inl a, .inl b] μ = fn27 o a b μ := by simp only [sp27, am_aR_c, am_aI_c, am_aJ_c, am_a0_c]
theorem sd27 : am_Sd 27 sp27 := by
  refine am_Sd_of (by decide) (fun vs μ μ' x h hv hM => ?_)
  obtain ⟨o, vs0, rfl, h0⟩ := am_aR_s h
  obtain ⟨a, vs1, rfl, h1⟩ := am_aI_s h0
  obtain ⟨b, vs2, rfl, h2⟩ := am_aI_s h1
  obtain ⟨rfl, hz⟩ := am_a0_s h2
  refine ⟨Nat.le_of_ble_eq_true rfl, fun X C hG hr => ?_⟩
  have h := hz
  unfold fn27 at h
  exact (show am_W X C 27 _ 0 0 0 [(0, .inr (.inr (2, o))), (1, .inl a), (2, .inl b)] [] μ from (am_c_iload_n hG (pc := 0) d27_0 rfl (am_c_iconst hG (pc := 1) d27_1 (by decide) (am_c_iadd hG (pc := 2) d27_2 (am_c_aload_n hG (pc := 3) d27_3 rfl (x_get_n (v := .inl (μ o 5)) hG (pc := 4) d27_4 mo27 f2_52 rfl (am_c_imul hG (pc := 7) d27_7 (am_c_iload_n hG (pc := 8) d27_8 rfl (am_c_iadd hG (pc := 9) d27_9 (x_istore_n (lv' := [(3, .inl (w32 ((w32 ((w32 (a + 1)) * (μ o 5))) + b))), (0, .inr (.inr (2, o))), (1, .inl a), (2, .inl b)]) hG (pc := 10) d27_10 (ml27 _ (by decide)) rfl (am_c_iload_n hG (pc := 11) d27_11 rfl (x_if_lt (tgt := 28) hG (pc := 12) d27_12 rfl h (fun h => (am_c_iconst hG (pc := 28) d27_28 (by decide) (x_iret hG (by decide) hr (pc := 29) d27_29 mr27 h))) (fun h => (am_c_iload_n hG (pc := 15) d27_15 rfl (am_c_aload_n hG (pc := 16) d27_16 rfl (x_get_n (v := .inr (.inr (21, am_ref o 0))) hG (pc := 17) d27_17 mo27 f2_11 rfl (am_c_len hG (pc := 20) d27_20 (by decide) (x_icmp_ge (tgt := 28) hG (pc := 21) d27_21 rfl h (fun h => (am_c_iconst hG (pc := 28) d27_28 (by decide) (x_iret hG (by decide) hr (pc := 29) d27_29 mr27 h))) (fun h => (am_c_iload_n hG (pc := 24) d27_24 rfl (x_goto (tgt := 29) hG (pc := 25) d27_25 rfl (x_iret hG (by decide) hr (pc := 29) d27_29 mr27 h))))))))))))))))))))))
/-! ChartPress$Table.cell(II)LChartPress$Letters; -/
theorem D28 (k : Nat) {pc : Nat} {i : Instr} (h : tbi28[k]? = some (pc, i)) (hs : am_isw i = false) {n : Nat} (hn : am_il i = n) : decode (am_mc 28) pc = .ok (i, n) := am_d2 (by decide) (by decide) rfl h hs hn
theorem d28_0 : decode (am_mc 28) 0 = .ok (.aload_n 0, 1) := D28 0 rfl rfl rfl
theorem d28_1 : decode (am_mc 28) 1 = .ok (.iload_n 1, 1) := D28 1 rfl rfl rfl
theorem d28_2 : decode (am_mc 28) 2 = .ok (.iload_n 2, 1) := D28 2 rfl rfl rfl
theorem d28_3 : decode (am_mc 28) 3 = .ok (.invokevirtual 130, 3) := D28 3 rfl rfl rfl
theorem d28_6 : decode (am_mc 28) 6 = .ok (.istore_n 3, 1) := D28 4 rfl rfl rfl
theorem d28_7 : decode (am_mc 28) 7 = .ok (.iload_n 3, 1) := D28 5 rfl rfl rfl
theorem d28_8 : decode (am_mc 28) 8 = .ok (.iconst (-1), 1) := D28 6 rfl rfl rfl
theorem d28_9 : decode (am_mc 28) 9 = .ok (.if_icmp .eq 12, 3) := D28 7 rfl rfl rfl
theorem d28_12 : decode (am_mc 28) 12 = .ok (.aload_n 0, 1) := D28 8 rfl rfl rfl
theorem d28_13 : decode (am_mc 28) 13 = .ok (.getfield 11, 3) := D28 9 rfl rfl rfl
theorem d28_16 : decode (am_mc 28) 16 = .ok (.iload_n 3, 1) := D28 10 rfl rfl rfl
theorem d28_17 : decode (am_mc 28) 17 = .ok (.aaload, 1) := D28 11 rfl rfl rfl
theorem d28_18 : decode (am_mc 28) 18 = .ok (.goto 7, 3) := D28 12 rfl rfl rfl
theorem d28_21 : decode (am_mc 28) 21 = .ok (.aload_n 0, 1) := D28 13 rfl rfl rfl
theorem d28_22 : decode (am_mc 28) 22 = .ok (.getfield 20, 3) := D28 14 rfl rfl rfl
theorem d28_25 : decode (am_mc 28) 25 = .ok (.areturn, 1) := D28 15 rfl rfl rfl
theorem ml28 : ∀ n, n < 4 → n < am_ml 28 := fun _ h => h
theorem mo28 : am_mo 28 = 2 := by decide +kernel
theorem rk28 : am_rk 28 = 3 := by decide +kernel
theorem rtg28 : am_rtg 28 = 3 := by decide +kernel
theorem rg28 : am_rcg 28 = 3 := by decide +kernel
theorem f2_20 : tb_f 2 20 = some (2, 1, 5, 3) := by decide +kernel
theorem m2_130 : tb_m 2 130 = some (27, 3, 1, 0) := by decide +kernel
theorem dp28_27 : am_md 27 + 1 ≤ am_md 28 ∧ 8 + (am_ml 27 + 11) + am_lr 27 ≤ am_lr 28 := by decide +kernel
def fn28 (o : Nat) (a : Int) (b : Int) (μ : am_M) : Option (Int × am_M) := (am_op (fn27 o a b μ) (fun z1 => (if z1.1 = (-1) then some (((am_ref o 1 : Nat) : Int), z1.2) else (if (0 : Int) ≤ z1.1 ∧ z1.1 < ((am_len (am_ref o 0) : Nat) : Int) then some (((am_ref (am_ref o 0) (z1.1 : Int).toNat : Nat) : Int), z1.2) else none))))
def sp28 : am_F := fun vs μ => am_aR 2 vs fun o vs => am_aI vs fun a vs => am_aI vs fun b vs => am_a0 vs (fn28 o a b μ)
theorem e28 (o : Nat) (a : Int) (b : Int) (μ : am_M) : sp28 [.inr (.inr (2, o)), .inl a, .inl b] μ = fn28 o a b μ := by simp only [sp28, am_aR_c, am_aI_c, am_aJ_c, am_a0_c]
theorem sd28 : am_Sd 28 sp28 := by
  refine am_Sd_of (by decide) (fun vs μ μ' x h hv hM => ?_)
  obtain ⟨o, vs0, rfl, h0⟩ := am_aR_s h
  obtain ⟨a, vs1, rfl, h1⟩ := am_aI_s h0
  obtain ⟨b, vs2, rfl, h2⟩ := am_aI_s h1
  obtain ⟨rfl, hz⟩ := am_a0_s h2
  refine ⟨Nat.le_of_ble_eq_true rfl, fun X C hG hr => ?_⟩
  have h := hz
  unfold fn28 at h
  exact (show am_W X C 28 _ 0 0 0 [(0, .inr (.inr (2, o))), (1, .inl a), (2, .inl b)] [] μ from (am_c_aload_n hG (pc := 0) d28_0 rfl (am_c_iload_n hG (pc := 1) d28_1 rfl (am_c_iload_n hG (pc := 2) d28_2 rfl (x_virtual_i (t := 2) (o := o) (as2 := [.inl a, .inl b]) (rest := []) hG (pc := 3) d28_3 mo28 m2_130 (by decide) dp28_27 rfl rfl (Nat.le_of_ble_eq_true rfl) (Nat.le_of_ble_eq_true rfl) rg27 sd27 (e27 _ _ _ _) h (fun z1 h => (x_istore_n (lv' := [(3, .inl z1.1), (0, .inr (.inr (2, o))), (1, .inl a), (2, .inl b)]) hG (pc := 6) d28_6 (ml28 _ (by decide)) rfl (am_c_iload_n hG (pc := 7) d28_7 rfl (am_c_iconst hG (pc := 8) d28_8 (by decide) (x_icmp_eq (tgt := 21) hG (pc := 9) d28_9 rfl h (fun h => (am_c_aload_n hG (pc := 21) d28_21 rfl (x_get_n (v := .inr (.inr (3, am_ref o 1))) hG (pc := 22) d28_22 mo28 f2_20 rfl (x_aret hG (by decide) hr (pc := 25) d28_25 rk28 rtg28 h)))) (fun h => (am_c_aload_n hG (pc := 12) d28_12 rfl (x_get_n (v := .inr (.inr (21, am_ref o 0))) hG (pc := 13) d28_13 mo28 f2_11 rfl (am_c_iload_n hG (pc := 16) d28_16 rfl (x_aaload_L hG (pc := 17) d28_17 h (fun h => (x_goto (tgt := 25) hG (pc := 18) d28_18 rfl (x_aret hG (by decide) hr (pc := 25) d28_25 rk28 rtg28 h))))))))))))))))))
/-! ChartPress$Letters.isMissing()Z -/
theorem D29 (k : Nat) {pc : Nat} {i : Instr} (h : tbi29[k]? = some (pc, i)) (hs : am_isw i = false) {n : Nat} (hn : am_il i = n) : decode (am_mc 29) pc = .ok (i, n) := am_d2 (by decide) (by decide) rfl h hs hn
theorem d29_0 : decode (am_mc 29) 0 = .ok (.aload_n 0, 1) := D29 0 rfl rfl rfl
theorem d29_1 : decode (am_mc 29) 1 = .ok (.getfield 13, 3) := D29 1 rfl rfl rfl
theorem d29_4 : decode (am_mc 29) 4 = .ok (.ifCond .ne 7, 3) := D29 2 rfl rfl rfl
theorem d29_7 : decode (am_mc 29) 7 = .ok (.iconst 1, 1) := D29 3 rfl rfl rfl
theorem d29_8 : decode (am_mc 29) 8 = .ok (.goto 4, 3) := D29 4 rfl rfl rfl
theorem d29_11 : decode (am_mc 29) 11 = .ok (.iconst 0, 1) := D29 5 rfl rfl rfl
theorem d29_12 : decode (am_mc 29) 12 = .ok (.ireturn, 1) := D29 6 rfl rfl rfl
theorem ml29 : ∀ n, n < 1 → n < am_ml 29 := fun _ h => h
theorem mo29 : am_mo 29 = 3 := by decide +kernel
theorem mr29 : am_mr 29 = some .boolean := by decide +kernel
theorem rg29 : am_rcg 29 = 4 := by decide +kernel
def fn29 (o : Nat) (μ : am_M) : Option (Int × am_M) := (if μ o 1 = 0 then some (1, μ) else some (0, μ))
def sp29 : am_F := fun vs μ => am_aR 3 vs fun o vs => am_a0 vs (fn29 o μ)
theorem e29 (o : Nat) (μ : am_M) : sp29 [.inr (.inr (3, o))] μ = fn29 o μ := by simp only [sp29, am_aR_c, am_aI_c, am_aJ_c, am_a0_c]
theorem sd29 : am_Sd 29 sp29 := by
  refine am_Sd_of (by decide) (fun vs μ μ' x h hv hM => ?_)
  obtain ⟨o, vs0, rfl, h0⟩ := am_aR_s h
  obtain ⟨rfl, hz⟩ := am_a0_s h0
  refine ⟨Nat.le_of_ble_eq_true rfl, fun X C hG hr => ?_⟩
  have h := hz
  unfold fn29 at h
  exact (show am_W X C 29 _ 0 0 0 [(0, .inr (.inr (3, o)))] [] μ from (am_c_aload_n hG (pc := 0) d29_0 rfl (x_get_n (v := .inl (μ o 1)) hG (pc := 1) d29_1 mo29 f3_13 rfl (x_if_ne (tgt := 11) hG (pc := 4) d29_4 rfl h (fun h => (am_c_iconst hG (pc := 11) d29_11 (by decide) (x_zret0 hG (by decide) hr (pc := 12) d29_12 mr29 h))) (fun h => (am_c_iconst hG (pc := 7) d29_7 (by decide) (x_goto (tgt := 12) hG (pc := 8) d29_8 rfl (x_zret1 hG (by decide) hr (pc := 12) d29_12 mr29 h))))))))
/-! ChartPress$Letters.at(I)C -/
theorem D30 (k : Nat) {pc : Nat} {i : Instr} (h : tbi30[k]? = some (pc, i)) (hs : am_isw i = false) {n : Nat} (hn : am_il i = n) : decode (am_mc 30) pc = .ok (i, n) := am_d2 (by decide) (by decide) rfl h hs hn
theorem d30_0 : decode (am_mc 30) 0 = .ok (.iload_n 1, 1) := D30 0 rfl rfl rfl
theorem d30_1 : decode (am_mc 30) 1 = .ok (.ifCond .lt 29, 3) := D30 1 rfl rfl rfl
theorem d30_4 : decode (am_mc 30) 4 = .ok (.iload_n 1, 1) := D30 2 rfl rfl rfl
theorem d30_5 : decode (am_mc 30) 5 = .ok (.aload_n 0, 1) := D30 3 rfl rfl rfl
theorem d30_6 : decode (am_mc 30) 6 = .ok (.getfield 13, 3) := D30 4 rfl rfl rfl
theorem d30_9 : decode (am_mc 30) 9 = .ok (.if_icmp .ge 21, 3) := D30 5 rfl rfl rfl
theorem d30_12 : decode (am_mc 30) 12 = .ok (.iload_n 1, 1) := D30 6 rfl rfl rfl
theorem d30_13 : decode (am_mc 30) 13 = .ok (.aload_n 0, 1) := D30 7 rfl rfl rfl
theorem d30_14 : decode (am_mc 30) 14 = .ok (.getfield 7, 3) := D30 8 rfl rfl rfl
theorem d30_17 : decode (am_mc 30) 17 = .ok (.arraylength, 1) := D30 9 rfl rfl rfl
theorem d30_18 : decode (am_mc 30) 18 = .ok (.if_icmp .ge 12, 3) := D30 10 rfl rfl rfl
theorem d30_21 : decode (am_mc 30) 21 = .ok (.aload_n 0, 1) := D30 11 rfl rfl rfl
theorem d30_22 : decode (am_mc 30) 22 = .ok (.getfield 7, 3) := D30 12 rfl rfl rfl
theorem d30_25 : decode (am_mc 30) 25 = .ok (.iload_n 1, 1) := D30 13 rfl rfl rfl
theorem d30_26 : decode (am_mc 30) 26 = .ok (.caload, 1) := D30 14 rfl rfl rfl
theorem d30_27 : decode (am_mc 30) 27 = .ok (.goto 4, 3) := D30 15 rfl rfl rfl
theorem d30_30 : decode (am_mc 30) 30 = .ok (.iconst 0, 1) := D30 16 rfl rfl rfl
theorem d30_31 : decode (am_mc 30) 31 = .ok (.ireturn, 1) := D30 17 rfl rfl rfl
theorem ml30 : ∀ n, n < 2 → n < am_ml 30 := fun _ h => h
theorem mo30 : am_mo 30 = 3 := by decide +kernel
theorem mr30 : am_mr 30 = some .char := by decide +kernel
theorem rg30 : am_rcg 30 = 4 := by decide +kernel
def fn30 (o : Nat) (a : Int) (μ : am_M) : Option (Int × am_M) := (if a < 0 then some (0, μ) else (if a < μ o 1 then (if a < ((am_len (am_ref o 0) : Nat) : Int) then (if (0 : Int) ≤ a ∧ a < ((am_len (am_ref o 0) : Nat) : Int) then (if 0 ≤ μ (am_ref o 0) (a : Int).toNat ∧ μ (am_ref o 0) (a : Int).toNat ≤ 65535 then some (μ (am_ref o 0) (a : Int).toNat, μ) else none) else none) else some (0, μ)) else some (0, μ)))
def sp30 : am_F := fun vs μ => am_aR 3 vs fun o vs => am_aI vs fun a vs => am_a0 vs (fn30 o a μ)
theorem e30 (o : Nat) (a : Int) (μ : am_M) : sp30 [.inr (.inr (3, o)), .inl a] μ = fn30 o a μ := by simp only [sp30, am_aR_c, am_aI_c, am_aJ_c, am_a0_c]
theorem sd30 : am_Sd 30 sp30 := by
  refine am_Sd_of (by decide) (fun vs μ μ' x h hv hM => ?_)
  obtain ⟨o, vs0, rfl, h0⟩ := am_aR_s h
  obtain ⟨a, vs1, rfl, h1⟩ := am_aI_s h0
  obtain ⟨rfl, hz⟩ := am_a0_s h1
  refine ⟨Nat.le_of_ble_eq_true rfl, fun X C hG hr => ?_⟩
  have h := hz
  unfold fn30 at h
  exact (show am_W X C 30 _ 0 0 0 [(0, .inr (.inr (3, o))), (1, .inl a)] [] μ from (am_c_iload_n hG (pc := 0) d30_0 rfl (x_if_lt (tgt := 30) hG (pc := 1) d30_1 rfl h (fun h => (am_c_iconst hG (pc := 30) d30_30 (by decide) (x_cret0 hG (by decide) hr (pc := 31) d30_31 mr30 h))) (fun h => (am_c_iload_n hG (pc := 4) d30_4 rfl (am_c_aload_n hG (pc := 5) d30_5 rfl (x_get_n (v := .inl (μ o 1)) hG (pc := 6) d30_6 mo30 f3_13 rfl (x_icmp_ge (tgt := 30) hG (pc := 9) d30_9 rfl h (fun h => (am_c_iconst hG (pc := 30) d30_30 (by decide) (x_cret0 hG (by decide) hr (pc := 31) d30_31 mr30 h))) (fun h => (am_c_iload_n hG (pc := 12) d30_12 rfl (am_c_aload_n hG (pc := 13) d30_13 rfl (x_get_n (v := .inr (.inr (18, am_ref o 0))) hG (pc := 14) d30_14 mo30 f3_7 rfl (am_c_len hG (pc := 17) d30_17 (by decide) (x_icmp_ge (tgt := 30) hG (pc := 18) d30_18 rfl h (fun h => (am_c_iconst hG (pc := 30) d30_30 (by decide) (x_cret0 hG (by decide) hr (pc := 31) d30_31 mr30 h))) (fun h => (am_c_aload_n hG (pc := 21) d30_21 rfl (x_get_n (v := .inr (.inr (18, am_ref o 0))) hG (pc := 22) d30_22 mo30 f3_7 rfl (am_c_iload_n hG (pc := 25) d30_25 rfl (x_caload hG (pc := 26) d30_26 h (fun h => (x_goto (tgt := 31) hG (pc := 27) d30_27 rfl (x_cret hG (by decide) hr (pc := 31) d30_31 mr30 h))))))))))))))))))))))
/-! ChartPress$Letters.isDigit(C)Z -/
theorem D31 (k : Nat) {pc : Nat} {i : Instr} (h : tbi31[k]? = some (pc, i)) (hs : am_isw i = false) {n : Nat} (hn : am_il i = n) : decode (am_mc 31) pc = .ok (i, n) := am_d2 (by decide) (by decide) rfl h hs hn
theorem d31_0 : decode (am_mc 31) 0 = .ok (.iload_n 0, 1) := D31 0 rfl rfl rfl
theorem d31_1 : decode (am_mc 31) 1 = .ok (.bipush 48, 2) := D31 1 rfl rfl rfl
theorem d31_3 : decode (am_mc 31) 3 = .ok (.if_icmp .lt 13, 3) := D31 2 rfl rfl rfl
theorem d31_6 : decode (am_mc 31) 6 = .ok (.iload_n 0, 1) := D31 3 rfl rfl rfl
theorem d31_7 : decode (am_mc 31) 7 = .ok (.bipush 57, 2) := D31 4 rfl rfl rfl
theorem d31_9 : decode (am_mc 31) 9 = .ok (.if_icmp .gt 7, 3) := D31 5 rfl rfl rfl
theorem d31_12 : decode (am_mc 31) 12 = .ok (.iconst 1, 1) := D31 6 rfl rfl rfl
theorem d31_13 : decode (am_mc 31) 13 = .ok (.goto 4, 3) := D31 7 rfl rfl rfl
theorem d31_16 : decode (am_mc 31) 16 = .ok (.iconst 0, 1) := D31 8 rfl rfl rfl
theorem d31_17 : decode (am_mc 31) 17 = .ok (.ireturn, 1) := D31 9 rfl rfl rfl
theorem ml31 : ∀ n, n < 1 → n < am_ml 31 := fun _ h => h
theorem mo31 : am_mo 31 = 3 := by decide +kernel
theorem mr31 : am_mr 31 = some .boolean := by decide +kernel
theorem rg31 : am_rcg 31 = 0 := by decide +kernel
def fn31 (a : Int) (μ : am_M) : Option (Int × am_M) := (if a < 48 then some (0, μ) else (if 57 < a then some (0, μ) else some (1, μ)))
def sp31 : am_F := fun vs μ => am_aI vs fun a vs => am_a0 vs (fn31 a μ)
theorem e31 (a : Int) (μ : am_M) : sp31 [.inl a] μ = fn31 a μ := by simp only [sp31, am_aR_c, am_aI_c, am_aJ_c, am_a0_c]
theorem sd31 : am_Sd 31 sp31 := by
  refine am_Sd_of (by decide) (fun vs μ μ' x h hv hM => ?_)
  obtain ⟨a, vs0, rfl, h0⟩ := am_aI_s h
  obtain ⟨rfl, hz⟩ := am_a0_s h0
  refine ⟨Nat.le_of_ble_eq_true rfl, fun X C hG hr => ?_⟩
  have h := hz
  unfold fn31 at h
  exact (show am_W X C 31 _ 0 0 0 [(0, .inl a)] [] μ from (am_c_iload_n hG (pc := 0) d31_0 rfl (am_c_bipush hG (pc := 1) d31_1 (by decide) (x_icmp_lt (tgt := 16) hG (pc := 3) d31_3 rfl h (fun h => (am_c_iconst hG (pc := 16) d31_16 (by decide) (x_zret0 hG (by decide) hr (pc := 17) d31_17 mr31 h))) (fun h => (am_c_iload_n hG (pc := 6) d31_6 rfl (am_c_bipush hG (pc := 7) d31_7 (by decide) (x_icmp_gt (tgt := 16) hG (pc := 9) d31_9 rfl h (fun h => (am_c_iconst hG (pc := 16) d31_16 (by decide) (x_zret0 hG (by decide) hr (pc := 17) d31_17 mr31 h))) (fun h => (am_c_iconst hG (pc := 12) d31_12 (by decide) (x_goto (tgt := 17) hG (pc := 13) d31_13 rfl (x_zret1 hG (by decide) hr (pc := 17) d31_17 mr31 h))))))))))))
/-! ChartPress$Letters.daysOf(II)I -/
theorem D35 (k : Nat) {pc : Nat} {i : Instr} (h : tbi35[k]? = some (pc, i)) (hs : am_isw i = false) {n : Nat} (hn : am_il i = n) : decode (am_mc 35) pc = .ok (i, n) := am_d2 (by decide) (by decide) rfl h hs hn
theorem d35_0 : decode (am_mc 35) 0 = .ok (.iload_n 1, 1) := D35 0 rfl rfl rfl
theorem d35_1 : decode (am_mc 35) 1 = .ok (.iconst 1, 1) := D35 1 rfl rfl rfl
theorem d35_2 : decode (am_mc 35) 2 = .ok (.if_icmp .lt 11, 3) := D35 2 rfl rfl rfl
theorem d35_5 : decode (am_mc 35) 5 = .ok (.iload_n 1, 1) := D35 3 rfl rfl rfl
theorem d35_6 : decode (am_mc 35) 6 = .ok (.getstatic 56, 3) := D35 4 rfl rfl rfl
theorem d35_9 : decode (am_mc 35) 9 = .ok (.arraylength, 1) := D35 5 rfl rfl rfl
theorem d35_10 : decode (am_mc 35) 10 = .ok (.if_icmp .le 5, 3) := D35 6 rfl rfl rfl
theorem d35_13 : decode (am_mc 35) 13 = .ok (.iconst 0, 1) := D35 7 rfl rfl rfl
theorem d35_14 : decode (am_mc 35) 14 = .ok (.ireturn, 1) := D35 8 rfl rfl rfl
theorem d35_15 : decode (am_mc 35) 15 = .ok (.iload_n 0, 1) := D35 9 rfl rfl rfl
theorem d35_16 : decode (am_mc 35) 16 = .ok (.iconst 4, 1) := D35 10 rfl rfl rfl
theorem d35_17 : decode (am_mc 35) 17 = .ok (.irem, 1) := D35 11 rfl rfl rfl
theorem d35_18 : decode (am_mc 35) 18 = .ok (.ifCond .ne 22, 3) := D35 12 rfl rfl rfl
theorem d35_21 : decode (am_mc 35) 21 = .ok (.iload_n 0, 1) := D35 13 rfl rfl rfl
theorem d35_22 : decode (am_mc 35) 22 = .ok (.bipush 100, 2) := D35 14 rfl rfl rfl
theorem d35_24 : decode (am_mc 35) 24 = .ok (.irem, 1) := D35 15 rfl rfl rfl
theorem d35_25 : decode (am_mc 35) 25 = .ok (.ifCond .ne 11, 3) := D35 16 rfl rfl rfl
theorem d35_28 : decode (am_mc 35) 28 = .ok (.iload_n 0, 1) := D35 17 rfl rfl rfl
theorem d35_29 : decode (am_mc 35) 29 = .ok (.sipush 400, 3) := D35 18 rfl rfl rfl
theorem d35_32 : decode (am_mc 35) 32 = .ok (.irem, 1) := D35 19 rfl rfl rfl
theorem d35_33 : decode (am_mc 35) 33 = .ok (.ifCond .ne 7, 3) := D35 20 rfl rfl rfl
theorem d35_36 : decode (am_mc 35) 36 = .ok (.iconst 1, 1) := D35 21 rfl rfl rfl
theorem d35_37 : decode (am_mc 35) 37 = .ok (.goto 4, 3) := D35 22 rfl rfl rfl
theorem d35_40 : decode (am_mc 35) 40 = .ok (.iconst 0, 1) := D35 23 rfl rfl rfl
theorem d35_41 : decode (am_mc 35) 41 = .ok (.istore_n 2, 1) := D35 24 rfl rfl rfl
theorem d35_42 : decode (am_mc 35) 42 = .ok (.getstatic 56, 3) := D35 25 rfl rfl rfl
theorem d35_45 : decode (am_mc 35) 45 = .ok (.iload_n 1, 1) := D35 26 rfl rfl rfl
theorem d35_46 : decode (am_mc 35) 46 = .ok (.iconst 1, 1) := D35 27 rfl rfl rfl
theorem d35_47 : decode (am_mc 35) 47 = .ok (.isub, 1) := D35 28 rfl rfl rfl
theorem d35_48 : decode (am_mc 35) 48 = .ok (.iaload, 1) := D35 29 rfl rfl rfl
theorem d35_49 : decode (am_mc 35) 49 = .ok (.iload_n 1, 1) := D35 30 rfl rfl rfl
theorem d35_50 : decode (am_mc 35) 50 = .ok (.iconst 2, 1) := D35 31 rfl rfl rfl
theorem d35_51 : decode (am_mc 35) 51 = .ok (.if_icmp .ne 11, 3) := D35 32 rfl rfl rfl
theorem d35_54 : decode (am_mc 35) 54 = .ok (.iload_n 2, 1) := D35 33 rfl rfl rfl
theorem d35_55 : decode (am_mc 35) 55 = .ok (.ifCond .eq 7, 3) := D35 34 rfl rfl rfl
theorem d35_58 : decode (am_mc 35) 58 = .ok (.iconst 1, 1) := D35 35 rfl rfl rfl
theorem d35_59 : decode (am_mc 35) 59 = .ok (.goto 4, 3) := D35 36 rfl rfl rfl
theorem d35_62 : decode (am_mc 35) 62 = .ok (.iconst 0, 1) := D35 37 rfl rfl rfl
theorem d35_63 : decode (am_mc 35) 63 = .ok (.iadd, 1) := D35 38 rfl rfl rfl
theorem d35_64 : decode (am_mc 35) 64 = .ok (.ireturn, 1) := D35 39 rfl rfl rfl
theorem ml35 : ∀ n, n < 3 → n < am_ml 35 := fun _ h => h
theorem mo35 : am_mo 35 = 3 := by decide +kernel
theorem mr35 : am_mr 35 = some .int := by decide +kernel
theorem rg35 : am_rcg 35 = 0 := by decide +kernel
def fn35 (a : Int) (b : Int) (μ : am_M) : Option (Int × am_M) := (if b < 1 then some (0, μ) else (if ((am_clen 0 : Nat) : Int) < b then some (0, μ) else (if o_rem a 4 = 0 then (if o_rem a 100 = 0 then (if o_rem a 400 = 0 then (if (0 : Int) ≤ w32 (b - 1) ∧ w32 (b - 1) < ((am_clen 0 : Nat) : Int) then (if b = 2 then some (w32 ((am_cst 0 (w32 (b - 1) : Int).toNat) + 1), μ) else some (w32 ((am_cst 0 (w32 (b - 1) : Int).toNat) + 0), μ)) else none) else (if (0 : Int) ≤ w32 (b - 1) ∧ w32 (b - 1) < ((am_clen 0 : Nat) : Int) then (if b = 2 then some (w32 ((am_cst 0 (w32 (b - 1) : Int).toNat) + 0), μ) else some (w32 ((am_cst 0 (w32 (b - 1) : Int).toNat) + 0), μ)) else none)) else (if (0 : Int) ≤ w32 (b - 1) ∧ w32 (b - 1) < ((am_clen 0 : Nat) : Int) then (if b = 2 then some (w32 ((am_cst 0 (w32 (b - 1) : Int).toNat) + 1), μ) else some (w32 ((am_cst 0 (w32 (b - 1) : Int).toNat) + 0), μ)) else none)) else (if (0 : Int) ≤ w32 (b - 1) ∧ w32 (b - 1) < ((am_clen 0 : Nat) : Int) then (if b = 2 then some (w32 ((am_cst 0 (w32 (b - 1) : Int).toNat) + 0), μ) else some (w32 ((am_cst 0 (w32 (b - 1) : Int).toNat) + 0), μ)) else none))))
def sp35 : am_F := fun vs μ => am_aI vs fun a vs => am_aI vs fun b vs => am_a0 vs (fn35 a b μ)
theorem e35 (a : Int) (b : Int) (μ : am_M) : sp35 [.inl a, .inl b] μ = fn35 a b μ := by simp only [sp35, am_aR_c, am_aI_c, am_aJ_c, am_a0_c]
theorem sd35 : am_Sd 35 sp35 := by
  refine am_Sd_of (by decide) (fun vs μ μ' x h hv hM => ?_)
  obtain ⟨a, vs0, rfl, h0⟩ := am_aI_s h
  obtain ⟨b, vs1, rfl, h1⟩ := am_aI_s h0
  obtain ⟨rfl, hz⟩ := am_a0_s h1
  refine ⟨Nat.le_of_ble_eq_true rfl, fun X C hG hr => ?_⟩
  have h := hz
  unfold fn35 at h
  exact (show am_W X C 35 _ 0 0 0 [(0, .inl a), (1, .inl b)] [] μ from (am_c_iload_n hG (pc := 0) d35_0 rfl (am_c_iconst hG (pc := 1) d35_1 (by decide) (x_icmp_lt (tgt := 13) hG (pc := 2) d35_2 rfl h (fun h => (am_c_iconst hG (pc := 13) d35_13 (by decide) (x_iret hG (by decide) hr (pc := 14) d35_14 mr35 h))) (fun h => (am_c_iload_n hG (pc := 5) d35_5 rfl (am_c_getstatic hG (pc := 6) d35_6 (v := .inr (.inr (30, 0))) (by decide +kernel) (am_c_klen hG (pc := 9) d35_9 (x_icmp_le (tgt := 15) hG (pc := 10) d35_10 rfl h (fun h => (am_c_iload_n hG (pc := 15) d35_15 rfl (am_c_iconst hG (pc := 16) d35_16 (by decide) (am_c_irem hG (pc := 17) d35_17 (by decide) (x_if_ne (tgt := 40) hG (pc := 18) d35_18 rfl h (fun h => (am_c_iconst hG (pc := 40) d35_40 (by decide) (x_istore_n (lv' := [(2, .inl 0), (0, .inl a), (1, .inl b)]) hG (pc := 41) d35_41 (ml35 _ (by decide)) rfl (am_c_getstatic hG (pc := 42) d35_42 (v := .inr (.inr (30, 0))) (by decide +kernel) (am_c_iload_n hG (pc := 45) d35_45 rfl (am_c_iconst hG (pc := 46) d35_46 (by decide) (am_c_isub hG (pc := 47) d35_47 (x_kaload hG (pc := 48) d35_48 h (fun h => (am_c_iload_n hG (pc := 49) d35_49 rfl (am_c_iconst hG (pc := 50) d35_50 (by decide) (x_icmp_ne (tgt := 62) hG (pc := 51) d35_51 rfl h (fun h => (am_c_iconst hG (pc := 62) d35_62 (by decide) (am_c_iadd hG (pc := 63) d35_63 (x_iret hG (by decide) hr (pc := 64) d35_64 mr35 h)))) (fun h => (am_c_iload_n hG (pc := 54) d35_54 rfl (y_if_eq (tgt := 62) hG (pc := 55) d35_55 rfl (by decide) (am_c_iconst hG (pc := 62) d35_62 (by decide) (am_c_iadd hG (pc := 63) d35_63 (x_iret hG (by decide) hr (pc := 64) d35_64 mr35 h)))))))))))))))))) (fun h => (am_c_iload_n hG (pc := 21) d35_21 rfl (am_c_bipush hG (pc := 22) d35_22 (by decide) (am_c_irem hG (pc := 24) d35_24 (by decide) (x_if_ne (tgt := 36) hG (pc := 25) d35_25 rfl h (fun h => (am_c_iconst hG (pc := 36) d35_36 (by decide) (x_goto (tgt := 41) hG (pc := 37) d35_37 rfl (x_istore_n (lv' := [(2, .inl 1), (0, .inl a), (1, .inl b)]) hG (pc := 41) d35_41 (ml35 _ (by decide)) rfl (am_c_getstatic hG (pc := 42) d35_42 (v := .inr (.inr (30, 0))) (by decide +kernel) (am_c_iload_n hG (pc := 45) d35_45 rfl (am_c_iconst hG (pc := 46) d35_46 (by decide) (am_c_isub hG (pc := 47) d35_47 (x_kaload hG (pc := 48) d35_48 h (fun h => (am_c_iload_n hG (pc := 49) d35_49 rfl (am_c_iconst hG (pc := 50) d35_50 (by decide) (x_icmp_ne (tgt := 62) hG (pc := 51) d35_51 rfl h (fun h => (am_c_iconst hG (pc := 62) d35_62 (by decide) (am_c_iadd hG (pc := 63) d35_63 (x_iret hG (by decide) hr (pc := 64) d35_64 mr35 h)))) (fun h => (am_c_iload_n hG (pc := 54) d35_54 rfl (n_if_eq (tgt := 62) hG (pc := 55) d35_55 rfl (by decide) (am_c_iconst hG (pc := 58) d35_58 (by decide) (x_goto (tgt := 63) hG (pc := 59) d35_59 rfl (am_c_iadd hG (pc := 63) d35_63 (x_iret hG (by decide) hr (pc := 64) d35_64 mr35 h)))))))))))))))))))) (fun h => (am_c_iload_n hG (pc := 28) d35_28 rfl (am_c_sipush hG (pc := 29) d35_29 (by decide) (am_c_irem hG (pc := 32) d35_32 (by decide) (x_if_ne (tgt := 40) hG (pc := 33) d35_33 rfl h (fun h => (am_c_iconst hG (pc := 40) d35_40 (by decide) (x_istore_n (lv' := [(2, .inl 0), (0, .inl a), (1, .inl b)]) hG (pc := 41) d35_41 (ml35 _ (by decide)) rfl (am_c_getstatic hG (pc := 42) d35_42 (v := .inr (.inr (30, 0))) (by decide +kernel) (am_c_iload_n hG (pc := 45) d35_45 rfl (am_c_iconst hG (pc := 46) d35_46 (by decide) (am_c_isub hG (pc := 47) d35_47 (x_kaload hG (pc := 48) d35_48 h (fun h => (am_c_iload_n hG (pc := 49) d35_49 rfl (am_c_iconst hG (pc := 50) d35_50 (by decide) (x_icmp_ne (tgt := 62) hG (pc := 51) d35_51 rfl h (fun h => (am_c_iconst hG (pc := 62) d35_62 (by decide) (am_c_iadd hG (pc := 63) d35_63 (x_iret hG (by decide) hr (pc := 64) d35_64 mr35 h)))) (fun h => (am_c_iload_n hG (pc := 54) d35_54 rfl (y_if_eq (tgt := 62) hG (pc := 55) d35_55 rfl (by decide) (am_c_iconst hG (pc := 62) d35_62 (by decide) (am_c_iadd hG (pc := 63) d35_63 (x_iret hG (by decide) hr (pc := 64) d35_64 mr35 h)))))))))))))))))) (fun h => (am_c_iconst hG (pc := 36) d35_36 (by decide) (x_goto (tgt := 41) hG (pc := 37) d35_37 rfl (x_istore_n (lv' := [(2, .inl 1), (0, .inl a), (1, .inl b)]) hG (pc := 41) d35_41 (ml35 _ (by decide)) rfl (am_c_getstatic hG (pc := 42) d35_42 (v := .inr (.inr (30, 0))) (by decide +kernel) (am_c_iload_n hG (pc := 45) d35_45 rfl (am_c_iconst hG (pc := 46) d35_46 (by decide) (am_c_isub hG (pc := 47) d35_47 (x_kaload hG (pc := 48) d35_48 h (fun h => (am_c_iload_n hG (pc := 49) d35_49 rfl (am_c_iconst hG (pc := 50) d35_50 (by decide) (x_icmp_ne (tgt := 62) hG (pc := 51) d35_51 rfl h (fun h => (am_c_iconst hG (pc := 62) d35_62 (by decide) (am_c_iadd hG (pc := 63) d35_63 (x_iret hG (by decide) hr (pc := 64) d35_64 mr35 h)))) (fun h => (am_c_iload_n hG (pc := 54) d35_54 rfl (n_if_eq (tgt := 62) hG (pc := 55) d35_55 rfl (by decide) (am_c_iconst hG (pc := 58) d35_58 (by decide) (x_goto (tgt := 63) hG (pc := 59) d35_59 rfl (am_c_iadd hG (pc := 63) d35_63 (x_iret hG (by decide) hr (pc := 64) d35_64 mr35 h))))))))))))))))))))))))))))))))))) (fun h => (am_c_iconst hG (pc := 13) d35_13 (by decide) (x_iret hG (by decide) hr (pc := 14) d35_14 mr35 h))))))))))))
/-! ChartPress$Table.isWithinLimits()Z -/
theorem D43 (k : Nat) {pc : Nat} {i : Instr} (h : tbi43[k]? = some (pc, i)) (hs : am_isw i = false) {n : Nat} (hn : am_il i = n) : decode (am_mc 43) pc = .ok (i, n) := am_d2 (by decide) (by decide) rfl h hs hn
theorem d43_0 : decode (am_mc 43) 0 = .ok (.aload_n 0, 1) := D43 0 rfl rfl rfl
theorem d43_1 : decode (am_mc 43) 1 = .ok (.getfield 49, 3) := D43 1 rfl rfl rfl
theorem d43_4 : decode (am_mc 43) 4 = .ok (.ireturn, 1) := D43 2 rfl rfl rfl
theorem ml43 : ∀ n, n < 1 → n < am_ml 43 := fun _ h => h
theorem mo43 : am_mo 43 = 2 := by decide +kernel
theorem mr43 : am_mr 43 = some .boolean := by decide +kernel
theorem rg43 : am_rcg 43 = 3 := by decide +kernel
def fn43 (o : Nat) (μ : am_M) : Option (Int × am_M) := (if μ o 11 = 0 ∨ μ o 11 = 1 then some (μ o 11, μ) else none)
def sp43 : am_F := fun vs μ => am_aR 2 vs fun o vs => am_a0 vs (fn43 o μ)
theorem e43 (o : Nat) (μ : am_M) : sp43 [.inr (.inr (2, o))] μ = fn43 o μ := by simp only [sp43, am_aR_c, am_aI_c, am_aJ_c, am_a0_c]
theorem sd43 : am_Sd 43 sp43 := by
  refine am_Sd_of (by decide) (fun vs μ μ' x h hv hM => ?_)
  obtain ⟨o, vs0, rfl, h0⟩ := am_aR_s h
  obtain ⟨rfl, hz⟩ := am_a0_s h0
  refine ⟨Nat.le_of_ble_eq_true rfl, fun X C hG hr => ?_⟩
  have h := hz
  unfold fn43 at h
  exact (show am_W X C 43 _ 0 0 0 [(0, .inr (.inr (2, o)))] [] μ from (am_c_aload_n hG (pc := 0) d43_0 rfl (x_get_n (v := .inl (μ o 11)) hG (pc := 1) d43_1 mo43 f2_49 rfl (x_zret hG (by decide) hr (pc := 4) d43_4 mr43 h))))
/-! ChartPress$Table.columns()I -/
theorem D44 (k : Nat) {pc : Nat} {i : Instr} (h : tbi44[k]? = some (pc, i)) (hs : am_isw i = false) {n : Nat} (hn : am_il i = n) : decode (am_mc 44) pc = .ok (i, n) := am_d2 (by decide) (by decide) rfl h hs hn
theorem d44_0 : decode (am_mc 44) 0 = .ok (.aload_n 0, 1) := D44 0 rfl rfl rfl
theorem d44_1 : decode (am_mc 44) 1 = .ok (.getfield 52, 3) := D44 1 rfl rfl rfl
theorem d44_4 : decode (am_mc 44) 4 = .ok (.ireturn, 1) := D44 2 rfl rfl rfl
theorem ml44 : ∀ n, n < 1 → n < am_ml 44 := fun _ h => h
theorem mo44 : am_mo 44 = 2 := by decide +kernel
theorem mr44 : am_mr 44 = some .int := by decide +kernel
theorem rg44 : am_rcg 44 = 3 := by decide +kernel
def fn44 (o : Nat) (μ : am_M) : Option (Int × am_M) := some (μ o 5, μ)
def sp44 : am_F := fun vs μ => am_aR 2 vs fun o vs => am_a0 vs (fn44 o μ)
theorem e44 (o : Nat) (μ : am_M) : sp44 [.inr (.inr (2, o))] μ = fn44 o μ := by simp only [sp44, am_aR_c, am_aI_c, am_aJ_c, am_a0_c]
theorem sd44 : am_Sd 44 sp44 := by
  refine am_Sd_of (by decide) (fun vs μ μ' x h hv hM => ?_)
  obtain ⟨o, vs0, rfl, h0⟩ := am_aR_s h
  obtain ⟨rfl, hz⟩ := am_a0_s h0
  refine ⟨Nat.le_of_ble_eq_true rfl, fun X C hG hr => ?_⟩
  have h := hz
  unfold fn44 at h
  exact (show am_W X C 44 _ 0 0 0 [(0, .inr (.inr (2, o)))] [] μ from (am_c_aload_n hG (pc := 0) d44_0 rfl (x_get_n (v := .inl (μ o 5)) hG (pc := 1) d44_1 mo44 f2_52 rfl (x_iret hG (by decide) hr (pc := 4) d44_4 mr44 h))))
/-! ChartPress$Table.typeOf(I)I -/
theorem D45 (k : Nat) {pc : Nat} {i : Instr} (h : tbi45[k]? = some (pc, i)) (hs : am_isw i = false) {n : Nat} (hn : am_il i = n) : decode (am_mc 45) pc = .ok (i, n) := am_d2 (by decide) (by decide) rfl h hs hn
theorem d45_0 : decode (am_mc 45) 0 = .ok (.iload_n 1, 1) := D45 0 rfl rfl rfl
theorem d45_1 : decode (am_mc 45) 1 = .ok (.ifCond .lt 21, 3) := D45 1 rfl rfl rfl
theorem d45_4 : decode (am_mc 45) 4 = .ok (.iload_n 1, 1) := D45 2 rfl rfl rfl
theorem d45_5 : decode (am_mc 45) 5 = .ok (.aload_n 0, 1) := D45 3 rfl rfl rfl
theorem d45_6 : decode (am_mc 45) 6 = .ok (.getfield 28, 3) := D45 4 rfl rfl rfl
theorem d45_9 : decode (am_mc 45) 9 = .ok (.arraylength, 1) := D45 5 rfl rfl rfl
theorem d45_10 : decode (am_mc 45) 10 = .ok (.if_icmp .ge 12, 3) := D45 6 rfl rfl rfl
theorem d45_13 : decode (am_mc 45) 13 = .ok (.aload_n 0, 1) := D45 7 rfl rfl rfl
theorem d45_14 : decode (am_mc 45) 14 = .ok (.getfield 28, 3) := D45 8 rfl rfl rfl
theorem d45_17 : decode (am_mc 45) 17 = .ok (.iload_n 1, 1) := D45 9 rfl rfl rfl
theorem d45_18 : decode (am_mc 45) 18 = .ok (.iaload, 1) := D45 10 rfl rfl rfl
theorem d45_19 : decode (am_mc 45) 19 = .ok (.goto 4, 3) := D45 11 rfl rfl rfl
theorem d45_22 : decode (am_mc 45) 22 = .ok (.iconst 0, 1) := D45 12 rfl rfl rfl
theorem d45_23 : decode (am_mc 45) 23 = .ok (.ireturn, 1) := D45 13 rfl rfl rfl
theorem ml45 : ∀ n, n < 2 → n < am_ml 45 := fun _ h => h
theorem mo45 : am_mo 45 = 2 := by decide +kernel
theorem mr45 : am_mr 45 = some .int := by decide +kernel
theorem rg45 : am_rcg 45 = 3 := by decide +kernel
theorem f2_28 : tb_f 2 28 = some (2, 3, 5, 16) := by decide +kernel
def fn45 (o : Nat) (a : Int) (μ : am_M) : Option (Int × am_M) := (if a < 0 then some (0, μ) else (if a < ((am_len (am_ref o 3) : Nat) : Int) then (if (0 : Int) ≤ a ∧ a < ((am_len (am_ref o 3) : Nat) : Int) then some (μ (am_ref o 3) (a : Int).toNat, μ) else none) else some (0, μ)))
def sp45 : am_F := fun vs μ => am_aR 2 vs fun o vs => am_aI vs fun a vs => am_a0 vs (fn45 o a μ)
theorem e45 (o : Nat) (a : Int) (μ : am_M) : sp45 [.inr (.inr (2, o)), .inl a] μ = fn45 o a μ := by simp only [sp45, am_aR_c, am_aI_c, am_aJ_c, am_a0_c]
theorem sd45 : am_Sd 45 sp45 := by
  refine am_Sd_of (by decide) (fun vs μ μ' x h hv hM => ?_)
  obtain ⟨o, vs0, rfl, h0⟩ := am_aR_s h
  obtain ⟨a, vs1, rfl, h1⟩ := am_aI_s h0
  obtain ⟨rfl, hz⟩ := am_a0_s h1
  refine ⟨Nat.le_of_ble_eq_true rfl, fun X C hG hr => ?_⟩
  have h := hz
  unfold fn45 at h
  exact (show am_W X C 45 _ 0 0 0 [(0, .inr (.inr (2, o))), (1, .inl a)] [] μ from (am_c_iload_n hG (pc := 0) d45_0 rfl (x_if_lt (tgt := 22) hG (pc := 1) d45_1 rfl h (fun h => (am_c_iconst hG (pc := 22) d45_22 (by decide) (x_iret hG (by decide) hr (pc := 23) d45_23 mr45 h))) (fun h => (am_c_iload_n hG (pc := 4) d45_4 rfl (am_c_aload_n hG (pc := 5) d45_5 rfl (x_get_n (v := .inr (.inr (16, am_ref o 3))) hG (pc := 6) d45_6 mo45 f2_28 rfl (am_c_len hG (pc := 9) d45_9 (by decide) (x_icmp_ge (tgt := 22) hG (pc := 10) d45_10 rfl h (fun h => (am_c_iconst hG (pc := 22) d45_22 (by decide) (x_iret hG (by decide) hr (pc := 23) d45_23 mr45 h))) (fun h => (am_c_aload_n hG (pc := 13) d45_13 rfl (x_get_n (v := .inr (.inr (16, am_ref o 3))) hG (pc := 14) d45_14 mo45 f2_28 rfl (am_c_iload_n hG (pc := 17) d45_17 rfl (x_iaload hG (pc := 18) d45_18 h (fun h => (x_goto (tgt := 23) hG (pc := 19) d45_19 rfl (x_iret hG (by decide) hr (pc := 23) d45_23 mr45 h)))))))))))))))))
/-! ChartPress.value(I)J -/
theorem D47 (k : Nat) {pc : Nat} {i : Instr} (h : tbi47[k]? = some (pc, i)) (hs : am_isw i = false) {n : Nat} (hn : am_il i = n) : decode (am_mc 47) pc = .ok (i, n) := am_d2 (by decide) (by decide) rfl h hs hn
theorem d47_0 : decode (am_mc 47) 0 = .ok (.aload_n 0, 1) := D47 0 rfl rfl rfl
theorem d47_1 : decode (am_mc 47) 1 = .ok (.getfield 79, 3) := D47 1 rfl rfl rfl
theorem d47_4 : decode (am_mc 47) 4 = .ok (.ifCond .eq 37, 3) := D47 2 rfl rfl rfl
theorem d47_7 : decode (am_mc 47) 7 = .ok (.iload_n 1, 1) := D47 3 rfl rfl rfl
theorem d47_8 : decode (am_mc 47) 8 = .ok (.ifCond .lt 33, 3) := D47 4 rfl rfl rfl
theorem d47_11 : decode (am_mc 47) 11 = .ok (.iload_n 1, 1) := D47 5 rfl rfl rfl
theorem d47_12 : decode (am_mc 47) 12 = .ok (.i2l, 1) := D47 6 rfl rfl rfl
theorem d47_13 : decode (am_mc 47) 13 = .ok (.aload_n 0, 1) := D47 7 rfl rfl rfl
theorem d47_14 : decode (am_mc 47) 14 = .ok (.getfield 72, 3) := D47 8 rfl rfl rfl
theorem d47_17 : decode (am_mc 47) 17 = .ok (.iconst 0, 1) := D47 9 rfl rfl rfl
theorem d47_18 : decode (am_mc 47) 18 = .ok (.laload, 1) := D47 10 rfl rfl rfl
theorem d47_19 : decode (am_mc 47) 19 = .ok (.lcmp, 1) := D47 11 rfl rfl rfl
theorem d47_20 : decode (am_mc 47) 20 = .ok (.ifCond .ge 21, 3) := D47 12 rfl rfl rfl
theorem d47_23 : decode (am_mc 47) 23 = .ok (.iload_n 1, 1) := D47 13 rfl rfl rfl
theorem d47_24 : decode (am_mc 47) 24 = .ok (.aload_n 0, 1) := D47 14 rfl rfl rfl
theorem d47_25 : decode (am_mc 47) 25 = .ok (.getfield 76, 3) := D47 15 rfl rfl rfl
theorem d47_28 : decode (am_mc 47) 28 = .ok (.arraylength, 1) := D47 16 rfl rfl rfl
theorem d47_29 : decode (am_mc 47) 29 = .ok (.if_icmp .ge 12, 3) := D47 17 rfl rfl rfl
theorem d47_32 : decode (am_mc 47) 32 = .ok (.aload_n 0, 1) := D47 18 rfl rfl rfl
theorem d47_33 : decode (am_mc 47) 33 = .ok (.getfield 76, 3) := D47 19 rfl rfl rfl
theorem d47_36 : decode (am_mc 47) 36 = .ok (.iload_n 1, 1) := D47 20 rfl rfl rfl
theorem d47_37 : decode (am_mc 47) 37 = .ok (.laload, 1) := D47 21 rfl rfl rfl
theorem d47_38 : decode (am_mc 47) 38 = .ok (.goto 4, 3) := D47 22 rfl rfl rfl
theorem d47_41 : decode (am_mc 47) 41 = .ok (.lconst 0, 1) := D47 23 rfl rfl rfl
theorem d47_42 : decode (am_mc 47) 42 = .ok (.lreturn, 1) := D47 24 rfl rfl rfl
theorem ml47 : ∀ n, n < 2 → n < am_ml 47 := fun _ h => h
theorem mo47 : am_mo 47 = 0 := by decide +kernel
theorem rk47 : am_rk 47 = 2 := by decide +kernel
theorem rg47 : am_rcg 47 = 1 := by decide +kernel
theorem f0_76 : tb_f 0 76 = some (0, 10, 5, 17) := by decide +kernel
def fn47 (o : Nat) (a : Int) (μ : am_M) : Option (Int × am_M) := (if μ o 11 = 0 then some (0, μ) else (if a < 0 then some (0, μ) else (if (0 : Int) ≤ 0 ∧ 0 < ((am_len (am_ref o 9) : Nat) : Int) then (if o_cmp a (μ (am_ref o 9) (0 : Int).toNat) < 0 then (if a < ((am_len (am_ref o 10) : Nat) : Int) then (if (0 : Int) ≤ a ∧ a < ((am_len (am_ref o 10) : Nat) : Int) then some (μ (am_ref o 10) (a : Int).toNat, μ) else none) else some (0, μ)) else some (0, μ)) else none)))
def sp47 : am_F := fun vs μ => am_aR 0 vs fun o vs => am_aI vs fun a vs => am_a0 vs (fn47 o a μ)
theorem e47 (o : Nat) (a : Int) (μ : am_M) : sp47 [.inr (.inr (0, o)), .inl a] μ = fn47 o a μ := by simp only [sp47, am_aR_c, am_aI_c, am_aJ_c, am_a0_c]
theorem sd47 : am_Sd 47 sp47 := by
  refine am_Sd_of (by decide) (fun vs μ μ' x h hv hM => ?_)
  obtain ⟨o, vs0, rfl, h0⟩ := am_aR_s h
  obtain ⟨a, vs1, rfl, h1⟩ := am_aI_s h0
  obtain ⟨rfl, hz⟩ := am_a0_s h1
  refine ⟨Nat.le_of_ble_eq_true rfl, fun X C hG hr => ?_⟩
  have h := hz
  unfold fn47 at h
  exact (show am_W X C 47 _ 0 0 0 [(0, .inr (.inr (0, o))), (1, .inl a)] [] μ from (am_c_aload_n hG (pc := 0) d47_0 rfl (x_get_n (v := .inl (μ o 11)) hG (pc := 1) d47_1 mo47 f0_79 rfl (x_if_eq (tgt := 41) hG (pc := 4) d47_4 rfl h (fun h => (am_c_lconst hG (pc := 41) d47_41 (x_lret hG (by decide) hr (pc := 42) d47_42 rk47 h))) (fun h => (am_c_iload_n hG (pc := 7) d47_7 rfl (x_if_lt (tgt := 41) hG (pc := 8) d47_8 rfl h (fun h => (am_c_lconst hG (pc := 41) d47_41 (x_lret hG (by decide) hr (pc := 42) d47_42 rk47 h))) (fun h => (am_c_iload_n hG (pc := 11) d47_11 rfl (am_c_i2l hG (pc := 12) d47_12 (am_c_aload_n hG (pc := 13) d47_13 rfl (x_get_n (v := .inr (.inr (17, am_ref o 9))) hG (pc := 14) d47_14 mo47 f0_72 rfl (am_c_iconst hG (pc := 17) d47_17 (by decide) (x_laload hG (pc := 18) d47_18 h (fun h => (am_c_lcmp hG (pc := 19) d47_19 (x_if_ge (tgt := 41) hG (pc := 20) d47_20 rfl h (fun h => (am_c_lconst hG (pc := 41) d47_41 (x_lret hG (by decide) hr (pc := 42) d47_42 rk47 h))) (fun h => (am_c_iload_n hG (pc := 23) d47_23 rfl (am_c_aload_n hG (pc := 24) d47_24 rfl (x_get_n (v := .inr (.inr (17, am_ref o 10))) hG (pc := 25) d47_25 mo47 f0_76 rfl (am_c_len hG (pc := 28) d47_28 (by decide) (x_icmp_ge (tgt := 41) hG (pc := 29) d47_29 rfl h (fun h => (am_c_lconst hG (pc := 41) d47_41 (x_lret hG (by decide) hr (pc := 42) d47_42 rk47 h))) (fun h => (am_c_aload_n hG (pc := 32) d47_32 rfl (x_get_n (v := .inr (.inr (17, am_ref o 10))) hG (pc := 33) d47_33 mo47 f0_76 rfl (am_c_iload_n hG (pc := 36) d47_36 rfl (x_laload hG (pc := 37) d47_37 h (fun h => (x_goto (tgt := 42) hG (pc := 38) d47_38 rfl (x_lret hG (by decide) hr (pc := 42) d47_42 rk47 h)))))))))))))))))))))))))))))))
/-! ChartPress$Table.isWellFormed()Z -/
theorem D48 (k : Nat) {pc : Nat} {i : Instr} (h : tbi48[k]? = some (pc, i)) (hs : am_isw i = false) {n : Nat} (hn : am_il i = n) : decode (am_mc 48) pc = .ok (i, n) := am_d2 (by decide) (by decide) rfl h hs hn
theorem d48_0 : decode (am_mc 48) 0 = .ok (.aload_n 0, 1) := D48 0 rfl rfl rfl
theorem d48_1 : decode (am_mc 48) 1 = .ok (.getfield 46, 3) := D48 1 rfl rfl rfl
theorem d48_4 : decode (am_mc 48) 4 = .ok (.ireturn, 1) := D48 2 rfl rfl rfl
theorem ml48 : ∀ n, n < 1 → n < am_ml 48 := fun _ h => h
theorem mo48 : am_mo 48 = 2 := by decide +kernel
theorem mr48 : am_mr 48 = some .boolean := by decide +kernel
theorem rg48 : am_rcg 48 = 3 := by decide +kernel
def fn48 (o : Nat) (μ : am_M) : Option (Int × am_M) := (if μ o 10 = 0 ∨ μ o 10 = 1 then some (μ o 10, μ) else none)
def sp48 : am_F := fun vs μ => am_aR 2 vs fun o vs => am_a0 vs (fn48 o μ)
theorem e48 (o : Nat) (μ : am_M) : sp48 [.inr (.inr (2, o))] μ = fn48 o μ := by simp only [sp48, am_aR_c, am_aI_c, am_aJ_c, am_a0_c]
theorem sd48 : am_Sd 48 sp48 := by
  refine am_Sd_of (by decide) (fun vs μ μ' x h hv hM => ?_)
  obtain ⟨o, vs0, rfl, h0⟩ := am_aR_s h
  obtain ⟨rfl, hz⟩ := am_a0_s h0
  refine ⟨Nat.le_of_ble_eq_true rfl, fun X C hG hr => ?_⟩
  have h := hz
  unfold fn48 at h
  exact (show am_W X C 48 _ 0 0 0 [(0, .inr (.inr (2, o)))] [] μ from (am_c_aload_n hG (pc := 0) d48_0 rfl (x_get_n (v := .inl (μ o 10)) hG (pc := 1) d48_1 mo48 f2_46 rfl (x_zret hG (by decide) hr (pc := 4) d48_4 mr48 h))))
/-! ChartPress$Request.forget()V -/
theorem D49 (k : Nat) {pc : Nat} {i : Instr} (h : tbi49[k]? = some (pc, i)) (hs : am_isw i = false) {n : Nat} (hn : am_il i = n) : decode (am_mc 49) pc = .ok (i, n) := am_d2 (by decide) (by decide) rfl h hs hn
theorem d49_0 : decode (am_mc 49) 0 = .ok (.aload_n 0, 1) := D49 0 rfl rfl rfl
theorem d49_1 : decode (am_mc 49) 1 = .ok (.iconst 0, 1) := D49 1 rfl rfl rfl
theorem d49_2 : decode (am_mc 49) 2 = .ok (.putfield 38, 3) := D49 2 rfl rfl rfl
theorem d49_5 : decode (am_mc 49) 5 = .ok (.aload_n 0, 1) := D49 3 rfl rfl rfl
theorem d49_6 : decode (am_mc 49) 6 = .ok (.iconst 0, 1) := D49 4 rfl rfl rfl
theorem d49_7 : decode (am_mc 49) 7 = .ok (.putfield 53, 3) := D49 5 rfl rfl rfl
theorem d49_10 : decode (am_mc 49) 10 = .ok (.aload_n 0, 1) := D49 6 rfl rfl rfl
theorem d49_11 : decode (am_mc 49) 11 = .ok (.iconst (-1), 1) := D49 7 rfl rfl rfl
theorem d49_12 : decode (am_mc 49) 12 = .ok (.putfield 68, 3) := D49 8 rfl rfl rfl
theorem d49_15 : decode (am_mc 49) 15 = .ok (.aload_n 0, 1) := D49 9 rfl rfl rfl
theorem d49_16 : decode (am_mc 49) 16 = .ok (.iconst (-1), 1) := D49 10 rfl rfl rfl
theorem d49_17 : decode (am_mc 49) 17 = .ok (.putfield 71, 3) := D49 11 rfl rfl rfl
theorem d49_20 : decode (am_mc 49) 20 = .ok (.aload_n 0, 1) := D49 12 rfl rfl rfl
theorem d49_21 : decode (am_mc 49) 21 = .ok (.iconst (-1), 1) := D49 13 rfl rfl rfl
theorem d49_22 : decode (am_mc 49) 22 = .ok (.putfield 74, 3) := D49 14 rfl rfl rfl
theorem d49_25 : decode (am_mc 49) 25 = .ok (.aload_n 0, 1) := D49 15 rfl rfl rfl
theorem d49_26 : decode (am_mc 49) 26 = .ok (.iconst (-1), 1) := D49 16 rfl rfl rfl
theorem d49_27 : decode (am_mc 49) 27 = .ok (.putfield 77, 3) := D49 17 rfl rfl rfl
theorem d49_30 : decode (am_mc 49) 30 = .ok (.aload_n 0, 1) := D49 18 rfl rfl rfl
theorem d49_31 : decode (am_mc 49) 31 = .ok (.iconst 0, 1) := D49 19 rfl rfl rfl
theorem d49_32 : decode (am_mc 49) 32 = .ok (.putfield 59, 3) := D49 20 rfl rfl rfl
theorem d49_35 : decode (am_mc 49) 35 = .ok (.aload_n 0, 1) := D49 21 rfl rfl rfl
theorem d49_36 : decode (am_mc 49) 36 = .ok (.iconst 0, 1) := D49 22 rfl rfl rfl
theorem d49_37 : decode (am_mc 49) 37 = .ok (.putfield 80, 3) := D49 23 rfl rfl rfl
theorem d49_40 : decode (am_mc 49) 40 = .ok (.aload_n 0, 1) := D49 24 rfl rfl rfl
theorem d49_41 : decode (am_mc 49) 41 = .ok (.iconst (-1), 1) := D49 25 rfl rfl rfl
theorem d49_42 : decode (am_mc 49) 42 = .ok (.putfield 83, 3) := D49 26 rfl rfl rfl
theorem d49_45 : decode (am_mc 49) 45 = .ok (.aload_n 0, 1) := D49 27 rfl rfl rfl
theorem d49_46 : decode (am_mc 49) 46 = .ok (.iconst 0, 1) := D49 28 rfl rfl rfl
theorem d49_47 : decode (am_mc 49) 47 = .ok (.putfield 86, 3) := D49 29 rfl rfl rfl
theorem d49_50 : decode (am_mc 49) 50 = .ok (.return_, 1) := D49 30 rfl rfl rfl
theorem ml49 : ∀ n, n < 1 → n < am_ml 49 := fun _ h => h
theorem mo49 : am_mo 49 = 4 := by decide +kernel
theorem rk49 : am_rk 49 = 0 := by decide +kernel
theorem rg49 : am_rcg 49 = 5 := by decide +kernel
theorem f4_38 : tb_f 4 38 = some (4, 3, 0, 0) := by decide +kernel
theorem f4_53 : tb_f 4 53 = some (4, 4, 0, 0) := by decide +kernel
theorem f4_59 : tb_f 4 59 = some (4, 9, 0, 0) := by decide +kernel
theorem f4_68 : tb_f 4 68 = some (4, 5, 0, 0) := by decide +kernel
theorem f4_71 : tb_f 4 71 = some (4, 6, 0, 0) := by decide +kernel
theorem f4_74 : tb_f 4 74 = some (4, 7, 0, 0) := by decide +kernel
theorem f4_77 : tb_f 4 77 = some (4, 8, 0, 0) := by decide +kernel
theorem f4_80 : tb_f 4 80 = some (4, 10, 0, 0) := by decide +kernel
theorem f4_83 : tb_f 4 83 = some (4, 11, 0, 0) := by decide +kernel
theorem f4_86 : tb_f 4 86 = some (4, 12, 0, 0) := by decide +kernel
def fn49 (o : Nat) (μ : am_M) : Option (Int × am_M) := some (0, am_up (am_up (am_up (am_up (am_up (am_up (am_up (am_up (am_up (am_up μ o 3 0) o 4 0) o 5 ((-1))) o 6 ((-1))) o 7 ((-1))) o 8 ((-1))) o 9 0) o 10 0) o 11 ((-1))) o 12 0)
def sp49 : am_F := fun vs μ => am_aR 4 vs fun o vs => am_a0 vs (fn49 o μ)
theorem e49 (o : Nat) (μ : am_M) : sp49 [.inr (.inr (4, o))] μ = fn49 o μ := by simp only [sp49, am_aR_c, am_aI_c, am_aJ_c, am_a0_c]
theorem sd49 : am_Sd 49 sp49 := by
  refine am_Sd_of (by decide) (fun vs μ μ' x h hv hM => ?_)
  obtain ⟨o, vs0, rfl, h0⟩ := am_aR_s h
  obtain ⟨rfl, hz⟩ := am_a0_s h0
  refine ⟨Nat.le_of_ble_eq_true rfl, fun X C hG hr => ?_⟩
  have h := hz
  unfold fn49 at h
  exact (show am_W X C 49 _ 0 0 0 [(0, .inr (.inr (4, o)))] [] μ from (am_c_aload_n hG (pc := 0) d49_0 rfl (am_c_iconst hG (pc := 1) d49_1 (by decide) (x_put_i hG (pc := 2) d49_2 mo49 f4_38 (by decide) (am_c_aload_n hG (pc := 5) d49_5 rfl (am_c_iconst hG (pc := 6) d49_6 (by decide) (x_put_i hG (pc := 7) d49_7 mo49 f4_53 (by decide) (am_c_aload_n hG (pc := 10) d49_10 rfl (am_c_iconst hG (pc := 11) d49_11 (by decide) (x_put_i hG (pc := 12) d49_12 mo49 f4_68 (by decide) (am_c_aload_n hG (pc := 15) d49_15 rfl (am_c_iconst hG (pc := 16) d49_16 (by decide) (x_put_i hG (pc := 17) d49_17 mo49 f4_71 (by decide) (am_c_aload_n hG (pc := 20) d49_20 rfl (am_c_iconst hG (pc := 21) d49_21 (by decide) (x_put_i hG (pc := 22) d49_22 mo49 f4_74 (by decide) (am_c_aload_n hG (pc := 25) d49_25 rfl (am_c_iconst hG (pc := 26) d49_26 (by decide) (x_put_i hG (pc := 27) d49_27 mo49 f4_77 (by decide) (am_c_aload_n hG (pc := 30) d49_30 rfl (am_c_iconst hG (pc := 31) d49_31 (by decide) (x_put_i hG (pc := 32) d49_32 mo49 f4_59 (by decide) (am_c_aload_n hG (pc := 35) d49_35 rfl (am_c_iconst hG (pc := 36) d49_36 (by decide) (x_put_i hG (pc := 37) d49_37 mo49 f4_80 (by decide) (am_c_aload_n hG (pc := 40) d49_40 rfl (am_c_iconst hG (pc := 41) d49_41 (by decide) (x_put_i hG (pc := 42) d49_42 mo49 f4_83 (by decide) (am_c_aload_n hG (pc := 45) d49_45 rfl (am_c_iconst hG (pc := 46) d49_46 (by decide) (x_put_i hG (pc := 47) d49_47 mo49 f4_86 (by decide) (x_vret hG (by decide) hr (pc := 50) d49_50 rk49 h))))))))))))))))))))))))))))))))
/-! ChartPress$Request.beginWord()V -/
theorem D50 (k : Nat) {pc : Nat} {i : Instr} (h : tbi50[k]? = some (pc, i)) (hs : am_isw i = false) {n : Nat} (hn : am_il i = n) : decode (am_mc 50) pc = .ok (i, n) := am_d2 (by decide) (by decide) rfl h hs hn
theorem d50_0 : decode (am_mc 50) 0 = .ok (.aload_n 0, 1) := D50 0 rfl rfl rfl
theorem d50_1 : decode (am_mc 50) 1 = .ok (.getfield 38, 3) := D50 1 rfl rfl rfl
theorem d50_4 : decode (am_mc 50) 4 = .ok (.aload_n 0, 1) := D50 2 rfl rfl rfl
theorem d50_5 : decode (am_mc 50) 5 = .ok (.getfield 13, 3) := D50 3 rfl rfl rfl
theorem d50_8 : decode (am_mc 50) 8 = .ok (.arraylength, 1) := D50 4 rfl rfl rfl
theorem d50_9 : decode (am_mc 50) 9 = .ok (.if_icmp .ge 15, 3) := D50 5 rfl rfl rfl
theorem d50_12 : decode (am_mc 50) 12 = .ok (.aload_n 0, 1) := D50 6 rfl rfl rfl
theorem d50_13 : decode (am_mc 50) 13 = .ok (.getfield 13, 3) := D50 7 rfl rfl rfl
theorem d50_16 : decode (am_mc 50) 16 = .ok (.aload_n 0, 1) := D50 8 rfl rfl rfl
theorem d50_17 : decode (am_mc 50) 17 = .ok (.getfield 38, 3) := D50 9 rfl rfl rfl
theorem d50_20 : decode (am_mc 50) 20 = .ok (.aaload, 1) := D50 10 rfl rfl rfl
theorem d50_21 : decode (am_mc 50) 21 = .ok (.invokevirtual 106, 3) := D50 11 rfl rfl rfl
theorem d50_24 : decode (am_mc 50) 24 = .ok (.aload_n 0, 1) := D50 12 rfl rfl rfl
theorem d50_25 : decode (am_mc 50) 25 = .ok (.dup, 1) := D50 13 rfl rfl rfl
theorem d50_26 : decode (am_mc 50) 26 = .ok (.getfield 38, 3) := D50 14 rfl rfl rfl
theorem d50_29 : decode (am_mc 50) 29 = .ok (.iconst 1, 1) := D50 15 rfl rfl rfl
theorem d50_30 : decode (am_mc 50) 30 = .ok (.iadd, 1) := D50 16 rfl rfl rfl
theorem d50_31 : decode (am_mc 50) 31 = .ok (.putfield 38, 3) := D50 17 rfl rfl rfl
theorem d50_34 : decode (am_mc 50) 34 = .ok (.return_, 1) := D50 18 rfl rfl rfl
theorem ml50 : ∀ n, n < 1 → n < am_ml 50 := fun _ h => h
theorem mo50 : am_mo 50 = 4 := by decide +kernel
theorem rk50 : am_rk 50 = 0 := by decide +kernel
theorem rg50 : am_rcg 50 = 5 := by decide +kernel
theorem f4_13 : tb_f 4 13 = some (4, 0, 5, 21) := by decide +kernel
theorem m4_106 : tb_m 4 106 = some (14, 1, 0, 0) := by decide +kernel
theorem dp50_14 : am_md 14 + 1 ≤ am_md 50 ∧ 8 + (am_ml 14 + 11) + am_lr 14 ≤ am_lr 50 := by decide +kernel
def fn50 (o : Nat) (μ : am_M) : Option (Int × am_M) := (if μ o 3 < ((am_len (am_ref o 0) : Nat) : Int) then (if (0 : Int) ≤ μ o 3 ∧ μ o 3 < ((am_len (am_ref o 0) : Nat) : Int) then (am_op (fn14 (am_ref (am_ref o 0) (μ o 3 : Int).toNat) μ) (fun z1 => some (0, am_up z1.2 o 3 (w32 ((z1.2 o 3) + 1))))) else none) else some (0, am_up μ o 3 (w32 ((μ o 3) + 1))))
def sp50 : am_F := fun vs μ => am_aR 4 vs fun o vs => am_a0 vs (fn50 o μ)
theorem e50 (o : Nat) (μ : am_M) : sp50 [.inr (.inr (4, o))] μ = fn50 o μ := by simp only [sp50, am_aR_c, am_aI_c, am_aJ_c, am_a0_c]
theorem sd50 : am_Sd 50 sp50 := by
  refine am_Sd_of (by decide) (fun vs μ μ' x h hv hM => ?_)
  obtain ⟨o, vs0, rfl, h0⟩ := am_aR_s h
  obtain ⟨rfl, hz⟩ := am_a0_s h0
  refine ⟨Nat.le_of_ble_eq_true rfl, fun X C hG hr => ?_⟩
  have h := hz
  unfold fn50 at h
  exact (show am_W X C 50 _ 0 0 0 [(0, .inr (.inr (4, o)))] [] μ from (am_c_aload_n hG (pc := 0) d50_0 rfl (x_get_n (v := .inl (μ o 3)) hG (pc := 1) d50_1 mo50 f4_38 rfl (am_c_aload_n hG (pc := 4) d50_4 rfl (x_get_n (v := .inr (.inr (21, am_ref o 0))) hG (pc := 5) d50_5 mo50 f4_13 rfl (am_c_len hG (pc := 8) d50_8 (by decide) (x_icmp_ge (tgt := 24) hG (pc := 9) d50_9 rfl h (fun h => (am_c_aload_n hG (pc := 24) d50_24 rfl (am_c_dup hG (pc := 25) d50_25 rfl (x_get_n (v := .inl (μ o 3)) hG (pc := 26) d50_26 mo50 f4_38 rfl (am_c_iconst hG (pc := 29) d50_29 (by decide) (am_c_iadd hG (pc := 30) d50_30 (x_put_i hG (pc := 31) d50_31 mo50 f4_38 (by decide) (x_vret hG (by decide) hr (pc := 34) d50_34 rk50 h)))))))) (fun h => (am_c_aload_n hG (pc := 12) d50_12 rfl (x_get_n (v := .inr (.inr (21, am_ref o 0))) hG (pc := 13) d50_13 mo50 f4_13 rfl (am_c_aload_n hG (pc := 16) d50_16 rfl (x_get_n (v := .inl (μ o 3)) hG (pc := 17) d50_17 mo50 f4_38 rfl (x_aaload_L hG (pc := 20) d50_20 h (fun h => (x_virtual_v (t := 3) (o := am_ref (am_ref o 0) (μ o 3 : Int).toNat) (as2 := []) (rest := []) hG (pc := 21) d50_21 mo50 m4_106 (by decide) dp50_14 rfl rfl (Nat.le_of_ble_eq_true rfl) (Nat.le_of_ble_eq_true rfl) rg14 sd14 (e14 _ _) h (fun z1 h => (am_c_aload_n hG (pc := 24) d50_24 rfl (am_c_dup hG (pc := 25) d50_25 rfl (x_get_n (v := .inl (z1.2 o 3)) hG (pc := 26) d50_26 mo50 f4_38 rfl (am_c_iconst hG (pc := 29) d50_29 (by decide) (am_c_iadd hG (pc := 30) d50_30 (x_put_i hG (pc := 31) d50_31 mo50 f4_38 (by decide) (x_vret hG (by decide) hr (pc := 34) d50_34 rk50 h)))))))))))))))))))))))
/-! ChartPress$Request.addToWord(C)V -/
theorem D51 (k : Nat) {pc : Nat} {i : Instr} (h : tbi51[k]? = some (pc, i)) (hs : am_isw i = false) {n : Nat} (hn : am_il i = n) : decode (am_mc 51) pc = .ok (i, n) := am_d2 (by decide) (by decide) rfl h hs hn
theorem d51_0 : decode (am_mc 51) 0 = .ok (.aload_n 0, 1) := D51 0 rfl rfl rfl
theorem d51_1 : decode (am_mc 51) 1 = .ok (.getfield 38, 3) := D51 1 rfl rfl rfl
theorem d51_4 : decode (am_mc 51) 4 = .ok (.iconst 1, 1) := D51 2 rfl rfl rfl
theorem d51_5 : decode (am_mc 51) 5 = .ok (.if_icmp .lt 30, 3) := D51 3 rfl rfl rfl
theorem d51_8 : decode (am_mc 51) 8 = .ok (.aload_n 0, 1) := D51 4 rfl rfl rfl
theorem d51_9 : decode (am_mc 51) 9 = .ok (.getfield 38, 3) := D51 5 rfl rfl rfl
theorem d51_12 : decode (am_mc 51) 12 = .ok (.aload_n 0, 1) := D51 6 rfl rfl rfl
theorem d51_13 : decode (am_mc 51) 13 = .ok (.getfield 13, 3) := D51 7 rfl rfl rfl
theorem d51_16 : decode (am_mc 51) 16 = .ok (.arraylength, 1) := D51 8 rfl rfl rfl
theorem d51_17 : decode (am_mc 51) 17 = .ok (.if_icmp .gt 18, 3) := D51 9 rfl rfl rfl
theorem d51_20 : decode (am_mc 51) 20 = .ok (.aload_n 0, 1) := D51 10 rfl rfl rfl
theorem d51_21 : decode (am_mc 51) 21 = .ok (.getfield 13, 3) := D51 11 rfl rfl rfl
theorem d51_24 : decode (am_mc 51) 24 = .ok (.aload_n 0, 1) := D51 12 rfl rfl rfl
theorem d51_25 : decode (am_mc 51) 25 = .ok (.getfield 38, 3) := D51 13 rfl rfl rfl
theorem d51_28 : decode (am_mc 51) 28 = .ok (.iconst 1, 1) := D51 14 rfl rfl rfl
theorem d51_29 : decode (am_mc 51) 29 = .ok (.isub, 1) := D51 15 rfl rfl rfl
theorem d51_30 : decode (am_mc 51) 30 = .ok (.aaload, 1) := D51 16 rfl rfl rfl
theorem d51_31 : decode (am_mc 51) 31 = .ok (.iload_n 1, 1) := D51 17 rfl rfl rfl
theorem d51_32 : decode (am_mc 51) 32 = .ok (.invokevirtual 109, 3) := D51 18 rfl rfl rfl
theorem d51_35 : decode (am_mc 51) 35 = .ok (.return_, 1) := D51 19 rfl rfl rfl
theorem ml51 : ∀ n, n < 2 → n < am_ml 51 := fun _ h => h
theorem mo51 : am_mo 51 = 4 := by decide +kernel
theorem rk51 : am_rk 51 = 0 := by decide +kernel
theorem rg51 : am_rcg 51 = 5 := by decide +kernel
theorem m4_109 : tb_m 4 109 = some (17, 2, 0, 0) := by decide +kernel
theorem dp51_17 : am_md 17 + 1 ≤ am_md 51 ∧ 8 + (am_ml 17 + 11) + am_lr 17 ≤ am_lr 51 := by decide +kernel
def fn51 (o : Nat) (a : Int) (μ : am_M) : Option (Int × am_M) := (if μ o 3 < 1 then some (0, μ) else (if ((am_len (am_ref o 0) : Nat) : Int) < μ o 3 then some (0, μ) else (if (0 : Int) ≤ w32 ((μ o 3) - 1) ∧ w32 ((μ o 3) - 1) < ((am_len (am_ref o 0) : Nat) : Int) then (am_op (fn17 (am_ref (am_ref o 0) (w32 ((μ o 3) - 1) : Int).toNat) a μ) (fun z1 => some (0, z1.2))) else none)))
def sp51 : am_F := fun vs μ => am_aR 4 vs fun o vs => am_aI vs fun a vs => am_a0 vs (fn51 o a μ)
theorem e51 (o : Nat) (a : Int) (μ : am_M) : sp51 [.inr (.inr (4, o)), .inl a] μ = fn51 o a μ := by simp only [sp51, am_aR_c, am_aI_c, am_aJ_c, am_a0_c]
theorem sd51 : am_Sd 51 sp51 := by
  refine am_Sd_of (by decide) (fun vs μ μ' x h hv hM => ?_)
  obtain ⟨o, vs0, rfl, h0⟩ := am_aR_s h
  obtain ⟨a, vs1, rfl, h1⟩ := am_aI_s h0
  obtain ⟨rfl, hz⟩ := am_a0_s h1
  refine ⟨Nat.le_of_ble_eq_true rfl, fun X C hG hr => ?_⟩
  have h := hz
  unfold fn51 at h
  exact (show am_W X C 51 _ 0 0 0 [(0, .inr (.inr (4, o))), (1, .inl a)] [] μ from (am_c_aload_n hG (pc := 0) d51_0 rfl (x_get_n (v := .inl (μ o 3)) hG (pc := 1) d51_1 mo51 f4_38 rfl (am_c_iconst hG (pc := 4) d51_4 (by decide) (x_icmp_lt (tgt := 35) hG (pc := 5) d51_5 rfl h (fun h => (x_vret hG (by decide) hr (pc := 35) d51_35 rk51 h)) (fun h => (am_c_aload_n hG (pc := 8) d51_8 rfl (x_get_n (v := .inl (μ o 3)) hG (pc := 9) d51_9 mo51 f4_38 rfl (am_c_aload_n hG (pc := 12) d51_12 rfl (x_get_n (v := .inr (.inr (21, am_ref o 0))) hG (pc := 13) d51_13 mo51 f4_13 rfl (am_c_len hG (pc := 16) d51_16 (by decide) (x_icmp_gt (tgt := 35) hG (pc := 17) d51_17 rfl h (fun h => (x_vret hG (by decide) hr (pc := 35) d51_35 rk51 h)) (fun h => (am_c_aload_n hG (pc := 20) d51_20 rfl (x_get_n (v := .inr (.inr (21, am_ref o 0))) hG (pc := 21) d51_21 mo51 f4_13 rfl (am_c_aload_n hG (pc := 24) d51_24 rfl (x_get_n (v := .inl (μ o 3)) hG (pc := 25) d51_25 mo51 f4_38 rfl (am_c_iconst hG (pc := 28) d51_28 (by decide) (am_c_isub hG (pc := 29) d51_29 (x_aaload_L hG (pc := 30) d51_30 h (fun h => (am_c_iload_n hG (pc := 31) d51_31 rfl (x_virtual_v (t := 3) (o := am_ref (am_ref o 0) (w32 ((μ o 3) - 1) : Int).toNat) (as2 := [.inl a]) (rest := []) hG (pc := 32) d51_32 mo51 m4_109 (by decide) dp51_17 rfl rfl (Nat.le_of_ble_eq_true rfl) (Nat.le_of_ble_eq_true rfl) rg17 sd17 (e17 _ _ _) h (fun z1 h => (x_vret hG (by decide) hr (pc := 35) d51_35 rk51 h)))))))))))))))))))))))))
/-! ChartPress$Request.takeWord()LChartPress$Letters; -/
theorem D53 (k : Nat) {pc : Nat} {i : Instr} (h : tbi53[k]? = some (pc, i)) (hs : am_isw i = false) {n : Nat} (hn : am_il i = n) : decode (am_mc 53) pc = .ok (i, n) := am_d2 (by decide) (by decide) rfl h hs hn
theorem d53_0 : decode (am_mc 53) 0 = .ok (.aload_n 0, 1) := D53 0 rfl rfl rfl
theorem d53_1 : decode (am_mc 53) 1 = .ok (.getfield 53, 3) := D53 1 rfl rfl rfl
theorem d53_4 : decode (am_mc 53) 4 = .ok (.aload_n 0, 1) := D53 2 rfl rfl rfl
theorem d53_5 : decode (am_mc 53) 5 = .ok (.getfield 38, 3) := D53 3 rfl rfl rfl
theorem d53_8 : decode (am_mc 53) 8 = .ok (.if_icmp .ge 15, 3) := D53 4 rfl rfl rfl
theorem d53_11 : decode (am_mc 53) 11 = .ok (.aload_n 0, 1) := D53 5 rfl rfl rfl
theorem d53_12 : decode (am_mc 53) 12 = .ok (.getfield 53, 3) := D53 6 rfl rfl rfl
theorem d53_15 : decode (am_mc 53) 15 = .ok (.aload_n 0, 1) := D53 7 rfl rfl rfl
theorem d53_16 : decode (am_mc 53) 16 = .ok (.getfield 13, 3) := D53 8 rfl rfl rfl
theorem d53_19 : decode (am_mc 53) 19 = .ok (.arraylength, 1) := D53 9 rfl rfl rfl
theorem d53_20 : decode (am_mc 53) 20 = .ok (.if_icmp .lt 8, 3) := D53 10 rfl rfl rfl
theorem d53_23 : decode (am_mc 53) 23 = .ok (.aload_n 0, 1) := D53 11 rfl rfl rfl
theorem d53_24 : decode (am_mc 53) 24 = .ok (.getfield 20, 3) := D53 12 rfl rfl rfl
theorem d53_27 : decode (am_mc 53) 27 = .ok (.areturn, 1) := D53 13 rfl rfl rfl
theorem d53_28 : decode (am_mc 53) 28 = .ok (.aload_n 0, 1) := D53 14 rfl rfl rfl
theorem d53_29 : decode (am_mc 53) 29 = .ok (.dup, 1) := D53 15 rfl rfl rfl
theorem d53_30 : decode (am_mc 53) 30 = .ok (.getfield 53, 3) := D53 16 rfl rfl rfl
theorem d53_33 : decode (am_mc 53) 33 = .ok (.iconst 1, 1) := D53 17 rfl rfl rfl
theorem d53_34 : decode (am_mc 53) 34 = .ok (.iadd, 1) := D53 18 rfl rfl rfl
theorem d53_35 : decode (am_mc 53) 35 = .ok (.putfield 53, 3) := D53 19 rfl rfl rfl
theorem d53_38 : decode (am_mc 53) 38 = .ok (.aload_n 0, 1) := D53 20 rfl rfl rfl
theorem d53_39 : decode (am_mc 53) 39 = .ok (.getfield 13, 3) := D53 21 rfl rfl rfl
theorem d53_42 : decode (am_mc 53) 42 = .ok (.aload_n 0, 1) := D53 22 rfl rfl rfl
theorem d53_43 : decode (am_mc 53) 43 = .ok (.getfield 53, 3) := D53 23 rfl rfl rfl
theorem d53_46 : decode (am_mc 53) 46 = .ok (.iconst 1, 1) := D53 24 rfl rfl rfl
theorem d53_47 : decode (am_mc 53) 47 = .ok (.isub, 1) := D53 25 rfl rfl rfl
theorem d53_48 : decode (am_mc 53) 48 = .ok (.aaload, 1) := D53 26 rfl rfl rfl
theorem d53_49 : decode (am_mc 53) 49 = .ok (.areturn, 1) := D53 27 rfl rfl rfl
theorem ml53 : ∀ n, n < 1 → n < am_ml 53 := fun _ h => h
theorem mo53 : am_mo 53 = 4 := by decide +kernel
theorem rk53 : am_rk 53 = 3 := by decide +kernel
theorem rtg53 : am_rtg 53 = 3 := by decide +kernel
theorem rg53 : am_rcg 53 = 5 := by decide +kernel
theorem f4_20 : tb_f 4 20 = some (4, 1, 5, 3) := by decide +kernel
def fn53 (o : Nat) (μ : am_M) : Option (Int × am_M) := (if μ o 4 < μ o 3 then (if μ o 4 < ((am_len (am_ref o 0) : Nat) : Int) then (if (0 : Int) ≤ w32 (((am_up μ o 4 (w32 ((μ o 4) + 1))) o 4) - 1) ∧ w32 (((am_up μ o 4 (w32 ((μ o 4) + 1))) o 4) - 1) < ((am_len (am_ref o 0) : Nat) : Int) then some (((am_ref (am_ref o 0) (w32 (((am_up μ o 4 (w32 ((μ o 4) + 1))) o 4) - 1) : Int).toNat : Nat) : Int), am_up μ o 4 (w32 ((μ o 4) + 1))) else none) else some (((am_ref o 1 : Nat) : Int), μ)) else some (((am_ref o 1 : Nat) : Int), μ))
def sp53 : am_F := fun vs μ => am_aR 4 vs fun o vs => am_a0 vs (fn53 o μ)
theorem e53 (o : Nat) (μ : am_M) : sp53 [.inr (.inr (4, o))] μ = fn53 o μ := by simp only [sp53, am_aR_c, am_aI_c, am_aJ_c, am_a0_c]
theorem sd53 : am_Sd 53 sp53 := by
  refine am_Sd_of (by decide) (fun vs μ μ' x h hv hM => ?_)
  obtain ⟨o, vs0, rfl, h0⟩ := am_aR_s h
  obtain ⟨rfl, hz⟩ := am_a0_s h0
  refine ⟨Nat.le_of_ble_eq_true rfl, fun X C hG hr => ?_⟩
  have h := hz
  unfold fn53 at h
  exact (show am_W X C 53 _ 0 0 0 [(0, .inr (.inr (4, o)))] [] μ from (am_c_aload_n hG (pc := 0) d53_0 rfl (x_get_n (v := .inl (μ o 4)) hG (pc := 1) d53_1 mo53 f4_53 rfl (am_c_aload_n hG (pc := 4) d53_4 rfl (x_get_n (v := .inl (μ o 3)) hG (pc := 5) d53_5 mo53 f4_38 rfl (x_icmp_ge (tgt := 23) hG (pc := 8) d53_8 rfl h (fun h => (am_c_aload_n hG (pc := 23) d53_23 rfl (x_get_n (v := .inr (.inr (3, am_ref o 1))) hG (pc := 24) d53_24 mo53 f4_20 rfl (x_aret hG (by decide) hr (pc := 27) d53_27 rk53 rtg53 h)))) (fun h => (am_c_aload_n hG (pc := 11) d53_11 rfl (x_get_n (v := .inl (μ o 4)) hG (pc := 12) d53_12 mo53 f4_53 rfl (am_c_aload_n hG (pc := 15) d53_15 rfl (x_get_n (v := .inr (.inr (21, am_ref o 0))) hG (pc := 16) d53_16 mo53 f4_13 rfl (am_c_len hG (pc := 19) d53_19 (by decide) (x_icmp_lt (tgt := 28) hG (pc := 20) d53_20 rfl h (fun h => (am_c_aload_n hG (pc := 28) d53_28 rfl (am_c_dup hG (pc := 29) d53_29 rfl (x_get_n (v := .inl (μ o 4)) hG (pc := 30) d53_30 mo53 f4_53 rfl (am_c_iconst hG (pc := 33) d53_33 (by decide) (am_c_iadd hG (pc := 34) d53_34 (x_put_i hG (pc := 35) d53_35 mo53 f4_53 (by decide) (am_c_aload_n hG (pc := 38) d53_38 rfl (x_get_n (v := .inr (.inr (21, am_ref o 0))) hG (pc := 39) d53_39 mo53 f4_13 rfl (am_c_aload_n hG (pc := 42) d53_42 rfl (x_get_n (v := .inl ((am_up μ o 4 (w32 ((μ o 4) + 1))) o 4)) hG (pc := 43) d53_43 mo53 f4_53 rfl (am_c_iconst hG (pc := 46) d53_46 (by decide) (am_c_isub hG (pc := 47) d53_47 (x_aaload_L hG (pc := 48) d53_48 h (fun h => (x_aret hG (by decide) hr (pc := 49) d53_49 rk53 rtg53 h)))))))))))))))) (fun h => (am_c_aload_n hG (pc := 23) d53_23 rfl (x_get_n (v := .inr (.inr (3, am_ref o 1))) hG (pc := 24) d53_24 mo53 f4_20 rfl (x_aret hG (by decide) hr (pc := 27) d53_27 rk53 rtg53 h)))))))))))))))))
/-! java/lang/String.coder()B -/
theorem D54 (k : Nat) {pc : Nat} {i : Instr} (h : tbi54[k]? = some (pc, i)) (hs : am_isw i = false) {n : Nat} (hn : am_il i = n) : decode (am_mc 54) pc = .ok (i, n) := am_d2 (by decide) (by decide) rfl h hs hn
theorem d54_0 : decode (am_mc 54) 0 = .ok (.getstatic 38, 3) := D54 0 rfl rfl rfl
theorem d54_3 : decode (am_mc 54) 3 = .ok (.ifCond .eq 10, 3) := D54 1 rfl rfl rfl
theorem d54_6 : decode (am_mc 54) 6 = .ok (.aload_n 0, 1) := D54 2 rfl rfl rfl
theorem d54_7 : decode (am_mc 54) 7 = .ok (.getfield 15, 3) := D54 3 rfl rfl rfl
theorem d54_10 : decode (am_mc 54) 10 = .ok (.goto 4, 3) := D54 4 rfl rfl rfl
theorem d54_13 : decode (am_mc 54) 13 = .ok (.iconst 1, 1) := D54 5 rfl rfl rfl
theorem d54_14 : decode (am_mc 54) 14 = .ok (.ireturn, 1) := D54 6 rfl rfl rfl
theorem ml54 : ∀ n, n < 1 → n < am_ml 54 := fun _ h => h
theorem mo54 : am_mo 54 = 15 := by decide +kernel
theorem mr54 : am_mr 54 = some .byte := by decide +kernel
theorem rg54 : am_rcg 54 = 32 := by decide +kernel
def fn54 (o : Nat) (μ : am_M) : Option (Int × am_M) := (if -128 ≤ 0 ∧ 0 ≤ 127 then some (0, μ) else none)
def sp54 : am_F := fun vs μ => am_aR 31 vs fun o vs => am_a0 vs (fn54 o μ)
theorem e54 (o : Nat) (μ : am_M) : sp54 [.inr (.inr (31, o))] μ = fn54 o μ := by simp only [sp54, am_aR_c, am_aI_c, am_aJ_c, am_a0_c]
theorem sd54 : am_Sd 54 sp54 := by
  refine am_Sd_of (by decide) (fun vs μ μ' x h hv hM => ?_)
  obtain ⟨o, vs0, rfl, h0⟩ := am_aR_s h
  obtain ⟨rfl, hz⟩ := am_a0_s h0
  refine ⟨Nat.le_of_ble_eq_true rfl, fun X C hG hr => ?_⟩
  have h := hz
  unfold fn54 at h
  exact (show am_W X C 54 _ 0 0 0 [(0, .inr (.inr (31, o)))] [] μ from (am_c_getstatic hG (pc := 0) d54_0 (v := .inl 1) (by decide +kernel) (n_if_eq (tgt := 13) hG (pc := 3) d54_3 rfl (by decide) (am_c_aload_n hG (pc := 6) d54_6 rfl (am_c_strcod hG (pc := 7) d54_7 mo54 (x_goto (tgt := 14) hG (pc := 10) d54_10 rfl (x_bret hG (by decide) hr (pc := 14) d54_14 mr54 h)))))))
/-! java/lang/String.length()I -/
theorem D55 (k : Nat) {pc : Nat} {i : Instr} (h : tbi55[k]? = some (pc, i)) (hs : am_isw i = false) {n : Nat} (hn : am_il i = n) : decode (am_mc 55) pc = .ok (i, n) := am_d2 (by decide) (by decide) rfl h hs hn
theorem d55_0 : decode (am_mc 55) 0 = .ok (.aload_n 0, 1) := D55 0 rfl rfl rfl
theorem d55_1 : decode (am_mc 55) 1 = .ok (.getfield 9, 3) := D55 1 rfl rfl rfl
theorem d55_4 : decode (am_mc 55) 4 = .ok (.arraylength, 1) := D55 2 rfl rfl rfl
theorem d55_5 : decode (am_mc 55) 5 = .ok (.aload_n 0, 1) := D55 3 rfl rfl rfl
theorem d55_6 : decode (am_mc 55) 6 = .ok (.invokevirtual 335, 3) := D55 4 rfl rfl rfl
theorem d55_9 : decode (am_mc 55) 9 = .ok (.ishr, 1) := D55 5 rfl rfl rfl
theorem d55_10 : decode (am_mc 55) 10 = .ok (.ireturn, 1) := D55 6 rfl rfl rfl
theorem ml55 : ∀ n, n < 1 → n < am_ml 55 := fun _ h => h
theorem mo55 : am_mo 55 = 15 := by decide +kernel
theorem mr55 : am_mr 55 = some .int := by decide +kernel
theorem rg55 : am_rcg 55 = 32 := by decide +kernel
theorem m15_335 : tb_m 15 335 = some (54, 1, 1, 0) := by decide +kernel
theorem dp55_54 : am_md 54 + 1 ≤ am_md 55 ∧ 8 + (am_ml 54 + 11) + am_lr 54 ≤ am_lr 55 := by decide +kernel
def fn55 (o : Nat) (μ : am_M) : Option (Int × am_M) := (am_op (fn54 o μ) (fun z1 => some (o_shr (((am_slen o : Nat) : Int)) z1.1, z1.2)))
def sp55 : am_F := fun vs μ => am_aR 31 vs fun o vs => am_a0 vs (fn55 o μ)
theorem e55 (o : Nat) (μ : am_M) : sp55 [.inr (.inr (31, o))] μ = fn55 o μ := by simp only [sp55, am_aR_c, am_aI_c, am_aJ_c, am_a0_c]
theorem sd55 : am_Sd 55 sp55 := by
  refine am_Sd_of (by decide) (fun vs μ μ' x h hv hM => ?_)
  obtain ⟨o, vs0, rfl, h0⟩ := am_aR_s h
  obtain ⟨rfl, hz⟩ := am_a0_s h0
  refine ⟨Nat.le_of_ble_eq_true rfl, fun X C hG hr => ?_⟩
  have h := hz
  unfold fn55 at h
  exact (show am_W X C 55 _ 0 0 0 [(0, .inr (.inr (31, o)))] [] μ from (am_c_aload_n hG (pc := 0) d55_0 rfl (am_c_strval hG (pc := 1) d55_1 mo55 (am_c_slen hG (pc := 4) d55_4 (am_c_aload_n hG (pc := 5) d55_5 rfl (x_virtual_i (t := 31) (o := o) (as2 := []) (rest := [.inl (((am_slen o : Nat) : Int))]) hG (pc := 6) d55_6 mo55 m15_335 (by decide) dp55_54 rfl rfl (Nat.le_of_ble_eq_true rfl) (Nat.le_of_ble_eq_true rfl) rg54 sd54 (e54 _ _) h (fun z1 h => (am_c_ishr hG (pc := 9) d55_9 (x_iret hG (by decide) hr (pc := 10) d55_10 mr55 h)))))))))
/-! java/lang/String.isLatin1()Z -/
theorem D56 (k : Nat) {pc : Nat} {i : Instr} (h : tbi56[k]? = some (pc, i)) (hs : am_isw i = false) {n : Nat} (hn : am_il i = n) : decode (am_mc 56) pc = .ok (i, n) := am_d2 (by decide) (by decide) rfl h hs hn
theorem d56_0 : decode (am_mc 56) 0 = .ok (.getstatic 38, 3) := D56 0 rfl rfl rfl
theorem d56_3 : decode (am_mc 56) 3 = .ok (.ifCond .eq 14, 3) := D56 1 rfl rfl rfl
theorem d56_6 : decode (am_mc 56) 6 = .ok (.aload_n 0, 1) := D56 2 rfl rfl rfl
theorem d56_7 : decode (am_mc 56) 7 = .ok (.getfield 15, 3) := D56 3 rfl rfl rfl
theorem d56_10 : decode (am_mc 56) 10 = .ok (.ifCond .ne 7, 3) := D56 4 rfl rfl rfl
theorem d56_13 : decode (am_mc 56) 13 = .ok (.iconst 1, 1) := D56 5 rfl rfl rfl
theorem d56_14 : decode (am_mc 56) 14 = .ok (.goto 4, 3) := D56 6 rfl rfl rfl
theorem d56_17 : decode (am_mc 56) 17 = .ok (.iconst 0, 1) := D56 7 rfl rfl rfl
theorem d56_18 : decode (am_mc 56) 18 = .ok (.ireturn, 1) := D56 8 rfl rfl rfl
theorem ml56 : ∀ n, n < 1 → n < am_ml 56 := fun _ h => h
theorem mo56 : am_mo 56 = 15 := by decide +kernel
theorem mr56 : am_mr 56 = some .boolean := by decide +kernel
theorem rg56 : am_rcg 56 = 32 := by decide +kernel
def fn56 (o : Nat) (μ : am_M) : Option (Int × am_M) := some (1, μ)
def sp56 : am_F := fun vs μ => am_aR 31 vs fun o vs => am_a0 vs (fn56 o μ)
theorem e56 (o : Nat) (μ : am_M) : sp56 [.inr (.inr (31, o))] μ = fn56 o μ := by simp only [sp56, am_aR_c, am_aI_c, am_aJ_c, am_a0_c]
theorem sd56 : am_Sd 56 sp56 := by
  refine am_Sd_of (by decide) (fun vs μ μ' x h hv hM => ?_)
  obtain ⟨o, vs0, rfl, h0⟩ := am_aR_s h
  obtain ⟨rfl, hz⟩ := am_a0_s h0
  refine ⟨Nat.le_of_ble_eq_true rfl, fun X C hG hr => ?_⟩
  have h := hz
  unfold fn56 at h
  exact (show am_W X C 56 _ 0 0 0 [(0, .inr (.inr (31, o)))] [] μ from (am_c_getstatic hG (pc := 0) d56_0 (v := .inl 1) (by decide +kernel) (n_if_eq (tgt := 17) hG (pc := 3) d56_3 rfl (by decide) (am_c_aload_n hG (pc := 6) d56_6 rfl (am_c_strcod hG (pc := 7) d56_7 mo56 (y_if_ne (tgt := 17) hG (pc := 10) d56_10 rfl (by decide) (am_c_iconst hG (pc := 13) d56_13 (by decide) (x_goto (tgt := 18) hG (pc := 14) d56_14 rfl (x_zret1 hG (by decide) hr (pc := 18) d56_18 mr56 h)))))))))
/-! ChartPress$Request.readTicks()Z -/
theorem D72 (k : Nat) {pc : Nat} {i : Instr} (h : tbi72[k]? = some (pc, i)) (hs : am_isw i = false) {n : Nat} (hn : am_il i = n) : decode (am_mc 72) pc = .ok (i, n) := am_d2 (by decide) (by decide) rfl h hs hn
theorem d72_0 : decode (am_mc 72) 0 = .ok (.aload_n 0, 1) := D72 0 rfl rfl rfl
theorem d72_1 : decode (am_mc 72) 1 = .ok (.invokevirtual 112, 3) := D72 1 rfl rfl rfl
theorem d72_4 : decode (am_mc 72) 4 = .ok (.astore_n 1, 1) := D72 2 rfl rfl rfl
theorem d72_5 : decode (am_mc 72) 5 = .ok (.aload_n 1, 1) := D72 3 rfl rfl rfl
theorem d72_6 : decode (am_mc 72) 6 = .ok (.invokevirtual 181, 3) := D72 4 rfl rfl rfl
theorem d72_9 : decode (am_mc 72) 9 = .ok (.iconst 1, 1) := D72 5 rfl rfl rfl
theorem d72_10 : decode (am_mc 72) 10 = .ok (.if_icmp .ne 27, 3) := D72 6 rfl rfl rfl
theorem d72_13 : decode (am_mc 72) 13 = .ok (.aload_n 1, 1) := D72 7 rfl rfl rfl
theorem d72_14 : decode (am_mc 72) 14 = .ok (.iconst 0, 1) := D72 8 rfl rfl rfl
theorem d72_15 : decode (am_mc 72) 15 = .ok (.invokevirtual 184, 3) := D72 9 rfl rfl rfl
theorem d72_18 : decode (am_mc 72) 18 = .ok (.bipush 51, 2) := D72 10 rfl rfl rfl
theorem d72_20 : decode (am_mc 72) 20 = .ok (.if_icmp .lt 17, 3) := D72 11 rfl rfl rfl
theorem d72_23 : decode (am_mc 72) 23 = .ok (.aload_n 1, 1) := D72 12 rfl rfl rfl
theorem d72_24 : decode (am_mc 72) 24 = .ok (.iconst 0, 1) := D72 13 rfl rfl rfl
theorem d72_25 : decode (am_mc 72) 25 = .ok (.invokevirtual 184, 3) := D72 14 rfl rfl rfl
theorem d72_28 : decode (am_mc 72) 28 = .ok (.bipush 57, 2) := D72 15 rfl rfl rfl
theorem d72_30 : decode (am_mc 72) 30 = .ok (.if_icmp .gt 7, 3) := D72 16 rfl rfl rfl
theorem d72_33 : decode (am_mc 72) 33 = .ok (.iconst 1, 1) := D72 17 rfl rfl rfl
theorem d72_34 : decode (am_mc 72) 34 = .ok (.goto 4, 3) := D72 18 rfl rfl rfl
theorem d72_37 : decode (am_mc 72) 37 = .ok (.iconst 0, 1) := D72 19 rfl rfl rfl
theorem d72_38 : decode (am_mc 72) 38 = .ok (.istore_n 2, 1) := D72 20 rfl rfl rfl
theorem d72_39 : decode (am_mc 72) 39 = .ok (.aload_n 0, 1) := D72 21 rfl rfl rfl
theorem d72_40 : decode (am_mc 72) 40 = .ok (.iload_n 2, 1) := D72 22 rfl rfl rfl
theorem d72_41 : decode (am_mc 72) 41 = .ok (.ifCond .eq 14, 3) := D72 23 rfl rfl rfl
theorem d72_44 : decode (am_mc 72) 44 = .ok (.aload_n 1, 1) := D72 24 rfl rfl rfl
theorem d72_45 : decode (am_mc 72) 45 = .ok (.iconst 0, 1) := D72 25 rfl rfl rfl
theorem d72_46 : decode (am_mc 72) 46 = .ok (.invokevirtual 184, 3) := D72 26 rfl rfl rfl
theorem d72_49 : decode (am_mc 72) 49 = .ok (.bipush 48, 2) := D72 27 rfl rfl rfl
theorem d72_51 : decode (am_mc 72) 51 = .ok (.isub, 1) := D72 28 rfl rfl rfl
theorem d72_52 : decode (am_mc 72) 52 = .ok (.goto 4, 3) := D72 29 rfl rfl rfl
theorem d72_55 : decode (am_mc 72) 55 = .ok (.iconst 0, 1) := D72 30 rfl rfl rfl
theorem d72_56 : decode (am_mc 72) 56 = .ok (.putfield 86, 3) := D72 31 rfl rfl rfl
theorem d72_59 : decode (am_mc 72) 59 = .ok (.iload_n 2, 1) := D72 32 rfl rfl rfl
theorem d72_60 : decode (am_mc 72) 60 = .ok (.ireturn, 1) := D72 33 rfl rfl rfl
theorem ml72 : ∀ n, n < 3 → n < am_ml 72 := fun _ h => h
theorem mo72 : am_mo 72 = 4 := by decide +kernel
theorem mr72 : am_mr 72 = some .boolean := by decide +kernel
theorem rg72 : am_rcg 72 = 5 := by decide +kernel
theorem m4_112 : tb_m 4 112 = some (53, 1, 3, 3) := by decide +kernel
theorem m4_181 : tb_m 4 181 = some (21, 1, 1, 0) := by decide +kernel
theorem m4_184 : tb_m 4 184 = some (30, 2, 1, 0) := by decide +kernel
theorem dp72_21 : am_md 21 + 1 ≤ am_md 72 ∧ 8 + (am_ml 21 + 11) + am_lr 21 ≤ am_lr 72 := by decide +kernel
theorem dp72_30 : am_md 30 + 1 ≤ am_md 72 ∧ 8 + (am_ml 30 + 11) + am_lr 30 ≤ am_lr 72 := by decide +kernel
theorem dp72_53 : am_md 53 + 1 ≤ am_md 72 ∧ 8 + (am_ml 53 + 11) + am_lr 53 ≤ am_lr 72 := by decide +kernel
def fn72 (o : Nat) (μ : am_M) : Option (Int × am_M) := (am_op (fn53 o μ) (fun z1 => (am_op (fn21 z1.1.toNat z1.2) (fun z2 => (if z2.1 = 1 then (am_op (fn30 z1.1.toNat 0 z2.2) (fun z3 => (if z3.1 < 51 then some (0, am_up z3.2 o 12 0) else (am_op (fn30 z1.1.toNat 0 z3.2) (fun z4 => (if 57 < z4.1 then some (0, am_up z4.2 o 12 0) else (am_op (fn30 z1.1.toNat 0 z4.2) (fun z5 => some (1, am_up z5.2 o 12 (w32 (z5.1 - 48))))))))))) else some (0, am_up z2.2 o 12 0))))))
def sp72 : am_F := fun vs μ => am_aR 4 vs fun o vs => am_a0 vs (fn72 o μ)
theorem e72 (o : Nat) (μ : am_M) : sp72 [.inr (.inr (4, o))] μ = fn72 o μ := by simp only [sp72, am_aR_c, am_aI_c, am_aJ_c, am_a0_c]
theorem sd72 : am_Sd 72 sp72 := by
  refine am_Sd_of (by decide) (fun vs μ μ' x h hv hM => ?_)
  obtain ⟨o, vs0, rfl, h0⟩ := am_aR_s h
  obtain ⟨rfl, hz⟩ := am_a0_s h0
  refine ⟨Nat.le_of_ble_eq_true rfl, fun X C hG hr => ?_⟩
  have h := hz
  unfold fn72 at h
  exact (show am_W X C 72 _ 0 0 0 [(0, .inr (.inr (4, o)))] [] μ from (am_c_aload_n hG (pc := 0) d72_0 rfl (x_virtual_r (t := 4) (o := o) (as2 := []) (rest := []) hG (pc := 1) d72_1 mo72 m4_112 (by decide) dp72_53 rfl rfl (Nat.le_of_ble_eq_true rfl) (Nat.le_of_ble_eq_true rfl) rg53 sd53 (e53 _ _) h (fun z1 h => (x_astore_n (lv' := [(1, .inr (.inr (3, z1.1.toNat))), (0, .inr (.inr (4, o)))]) hG (pc := 4) d72_4 (ml72 _ (by decide)) rfl (am_c_aload_n hG (pc := 5) d72_5 rfl (x_virtual_i (t := 3) (o := z1.1.toNat) (as2 := []) (rest := []) hG (pc := 6) d72_6 mo72 m4_181 (by decide) dp72_21 rfl rfl (Nat.le_of_ble_eq_true rfl) (Nat.le_of_ble_eq_true rfl) rg21 sd21 (e21 _ _) h (fun z2 h => (am_c_iconst hG (pc := 9) d72_9 (by decide) (x_icmp_ne (tgt := 37) hG (pc := 10) d72_10 rfl h (fun h => (am_c_iconst hG (pc := 37) d72_37 (by decide) (x_istore_n (lv' := [(2, .inl 0), (1, .inr (.inr (3, z1.1.toNat))), (0, .inr (.inr (4, o)))]) hG (pc := 38) d72_38 (ml72 _ (by decide)) rfl (am_c_aload_n hG (pc := 39) d72_39 rfl (am_c_iload_n hG (pc := 40) d72_40 rfl (y_if_eq (tgt := 55) hG (pc := 41) d72_41 rfl (by decide) (am_c_iconst hG (pc := 55) d72_55 (by decide) (x_put_i hG (pc := 56) d72_56 mo72 f4_86 (by decide) (am_c_iload_n hG (pc := 59) d72_59 rfl (x_zret0 hG (by decide) hr (pc := 60) d72_60 mr72 h)))))))))) (fun h => (am_c_aload_n hG (pc := 13) d72_13 rfl (am_c_iconst hG (pc := 14) d72_14 (by decide) (x_virtual_i (t := 3) (o := z1.1.toNat) (as2 := [.inl 0]) (rest := []) hG (pc := 15) d72_15 mo72 m4_184 (by decide) dp72_30 rfl rfl (Nat.le_of_ble_eq_true rfl) (Nat.le_of_ble_eq_true rfl) rg30 sd30 (e30 _ _ _) h (fun z3 h => (am_c_bipush hG (pc := 18) d72_18 (by decide) (x_icmp_lt (tgt := 37) hG (pc := 20) d72_20 rfl h (fun h => (am_c_iconst hG (pc := 37) d72_37 (by decide) (x_istore_n (lv' := [(2, .inl 0), (1, .inr (.inr (3, z1.1.toNat))), (0, .inr (.inr (4, o)))]) hG (pc := 38) d72_38 (ml72 _ (by decide)) rfl (am_c_aload_n hG (pc := 39) d72_39 rfl (am_c_iload_n hG (pc := 40) d72_40 rfl (y_if_eq (tgt := 55) hG (pc := 41) d72_41 rfl (by decide) (am_c_iconst hG (pc := 55) d72_55 (by decide) (x_put_i hG (pc := 56) d72_56 mo72 f4_86 (by decide) (am_c_iload_n hG (pc := 59) d72_59 rfl (x_zret0 hG (by decide) hr (pc := 60) d72_60 mr72 h)))))))))) (fun h => (am_c_aload_n hG (pc := 23) d72_23 rfl (am_c_iconst hG (pc := 24) d72_24 (by decide) (x_virtual_i (t := 3) (o := z1.1.toNat) (as2 := [.inl 0]) (rest := []) hG (pc := 25) d72_25 mo72 m4_184 (by decide) dp72_30 rfl rfl (Nat.le_of_ble_eq_true rfl) (Nat.le_of_ble_eq_true rfl) rg30 sd30 (e30 _ _ _) h (fun z4 h => (am_c_bipush hG (pc := 28) d72_28 (by decide) (x_icmp_gt (tgt := 37) hG (pc := 30) d72_30 rfl h (fun h => (am_c_iconst hG (pc := 37) d72_37 (by decide) (x_istore_n (lv' := [(2, .inl 0), (1, .inr (.inr (3, z1.1.toNat))), (0, .inr (.inr (4, o)))]) hG (pc := 38) d72_38 (ml72 _ (by decide)) rfl (am_c_aload_n hG (pc := 39) d72_39 rfl (am_c_iload_n hG (pc := 40) d72_40 rfl (y_if_eq (tgt := 55) hG (pc := 41) d72_41 rfl (by decide) (am_c_iconst hG (pc := 55) d72_55 (by decide) (x_put_i hG (pc := 56) d72_56 mo72 f4_86 (by decide) (am_c_iload_n hG (pc := 59) d72_59 rfl (x_zret0 hG (by decide) hr (pc := 60) d72_60 mr72 h)))))))))) (fun h => (am_c_iconst hG (pc := 33) d72_33 (by decide) (x_goto (tgt := 38) hG (pc := 34) d72_34 rfl (x_istore_n (lv' := [(2, .inl 1), (1, .inr (.inr (3, z1.1.toNat))), (0, .inr (.inr (4, o)))]) hG (pc := 38) d72_38 (ml72 _ (by decide)) rfl (am_c_aload_n hG (pc := 39) d72_39 rfl (am_c_iload_n hG (pc := 40) d72_40 rfl (n_if_eq (tgt := 55) hG (pc := 41) d72_41 rfl (by decide) (am_c_aload_n hG (pc := 44) d72_44 rfl (am_c_iconst hG (pc := 45) d72_45 (by decide) (x_virtual_i (t := 3) (o := z1.1.toNat) (as2 := [.inl 0]) (rest := [.inr (.inr (4, o))]) hG (pc := 46) d72_46 mo72 m4_184 (by decide) dp72_30 rfl rfl (Nat.le_of_ble_eq_true rfl) (Nat.le_of_ble_eq_true rfl) rg30 sd30 (e30 _ _ _) h (fun z5 h => (am_c_bipush hG (pc := 49) d72_49 (by decide) (am_c_isub hG (pc := 51) d72_51 (x_goto (tgt := 56) hG (pc := 52) d72_52 rfl (x_put_i hG (pc := 56) d72_56 mo72 f4_86 (by decide) (am_c_iload_n hG (pc := 59) d72_59 rfl (x_zret1 hG (by decide) hr (pc := 60) d72_60 mr72 h)))))))))))))))))))))))))))))))))))))))))
/-! ChartPress$Request.isStackAllowed()Z -/
theorem D76 (k : Nat) {pc : Nat} {i : Instr} (h : tbi76[k]? = some (pc, i)) (hs : am_isw i = false) {n : Nat} (hn : am_il i = n) : decode (am_mc 76) pc = .ok (i, n) := am_d2 (by decide) (by decide) rfl h hs hn
theorem d76_0 : decode (am_mc 76) 0 = .ok (.aload_n 0, 1) := D76 0 rfl rfl rfl
theorem d76_1 : decode (am_mc 76) 1 = .ok (.getfield 83, 3) := D76 1 rfl rfl rfl
theorem d76_4 : decode (am_mc 76) 4 = .ok (.iconst (-1), 1) := D76 2 rfl rfl rfl
theorem d76_5 : decode (am_mc 76) 5 = .ok (.if_icmp .eq 25, 3) := D76 3 rfl rfl rfl
theorem d76_8 : decode (am_mc 76) 8 = .ok (.aload_n 0, 1) := D76 4 rfl rfl rfl
theorem d76_9 : decode (am_mc 76) 9 = .ok (.getfield 68, 3) := D76 5 rfl rfl rfl
theorem d76_12 : decode (am_mc 76) 12 = .ok (.ifCond .ne 22, 3) := D76 6 rfl rfl rfl
theorem d76_15 : decode (am_mc 76) 15 = .ok (.aload_n 0, 1) := D76 7 rfl rfl rfl
theorem d76_16 : decode (am_mc 76) 16 = .ok (.getfield 74, 3) := D76 8 rfl rfl rfl
theorem d76_19 : decode (am_mc 76) 19 = .ok (.ifCond .eq 11, 3) := D76 9 rfl rfl rfl
theorem d76_22 : decode (am_mc 76) 22 = .ok (.aload_n 0, 1) := D76 10 rfl rfl rfl
theorem d76_23 : decode (am_mc 76) 23 = .ok (.getfield 74, 3) := D76 11 rfl rfl rfl
theorem d76_26 : decode (am_mc 76) 26 = .ok (.iconst 1, 1) := D76 12 rfl rfl rfl
theorem d76_27 : decode (am_mc 76) 27 = .ok (.if_icmp .ne 7, 3) := D76 13 rfl rfl rfl
theorem d76_30 : decode (am_mc 76) 30 = .ok (.iconst 1, 1) := D76 14 rfl rfl rfl
theorem d76_31 : decode (am_mc 76) 31 = .ok (.goto 4, 3) := D76 15 rfl rfl rfl
theorem d76_34 : decode (am_mc 76) 34 = .ok (.iconst 0, 1) := D76 16 rfl rfl rfl
theorem d76_35 : decode (am_mc 76) 35 = .ok (.ireturn, 1) := D76 17 rfl rfl rfl
theorem ml76 : ∀ n, n < 1 → n < am_ml 76 := fun _ h => h
theorem mo76 : am_mo 76 = 4 := by decide +kernel
theorem mr76 : am_mr 76 = some .boolean := by decide +kernel
theorem rg76 : am_rcg 76 = 5 := by decide +kernel
def fn76 (o : Nat) (μ : am_M) : Option (Int × am_M) := (if μ o 11 = (-1) then some (1, μ) else (if μ o 5 = 0 then (if μ o 7 = 0 then some (1, μ) else (if μ o 7 = 1 then some (1, μ) else some (0, μ))) else some (0, μ)))
def sp76 : am_F := fun vs μ => am_aR 4 vs fun o vs => am_a0 vs (fn76 o μ)
theorem e76 (o : Nat) (μ : am_M) : sp76 [.inr (.inr (4, o))] μ = fn76 o μ := by simp only [sp76, am_aR_c, am_aI_c, am_aJ_c, am_a0_c]
theorem sd76 : am_Sd 76 sp76 := by
  refine am_Sd_of (by decide) (fun vs μ μ' x h hv hM => ?_)
  obtain ⟨o, vs0, rfl, h0⟩ := am_aR_s h
  obtain ⟨rfl, hz⟩ := am_a0_s h0
  refine ⟨Nat.le_of_ble_eq_true rfl, fun X C hG hr => ?_⟩
  have h := hz
  unfold fn76 at h
  exact (show am_W X C 76 _ 0 0 0 [(0, .inr (.inr (4, o)))] [] μ from (am_c_aload_n hG (pc := 0) d76_0 rfl (x_get_n (v := .inl (μ o 11)) hG (pc := 1) d76_1 mo76 f4_83 rfl (am_c_iconst hG (pc := 4) d76_4 (by decide) (x_icmp_eq (tgt := 30) hG (pc := 5) d76_5 rfl h (fun h => (am_c_iconst hG (pc := 30) d76_30 (by decide) (x_goto (tgt := 35) hG (pc := 31) d76_31 rfl (x_zret1 hG (by decide) hr (pc := 35) d76_35 mr76 h)))) (fun h => (am_c_aload_n hG (pc := 8) d76_8 rfl (x_get_n (v := .inl (μ o 5)) hG (pc := 9) d76_9 mo76 f4_68 rfl (x_if_ne (tgt := 34) hG (pc := 12) d76_12 rfl h (fun h => (am_c_iconst hG (pc := 34) d76_34 (by decide) (x_zret0 hG (by decide) hr (pc := 35) d76_35 mr76 h))) (fun h => (am_c_aload_n hG (pc := 15) d76_15 rfl (x_get_n (v := .inl (μ o 7)) hG (pc := 16) d76_16 mo76 f4_74 rfl (x_if_eq (tgt := 30) hG (pc := 19) d76_19 rfl h (fun h => (am_c_iconst hG (pc := 30) d76_30 (by decide) (x_goto (tgt := 35) hG (pc := 31) d76_31 rfl (x_zret1 hG (by decide) hr (pc := 35) d76_35 mr76 h)))) (fun h => (am_c_aload_n hG (pc := 22) d76_22 rfl (x_get_n (v := .inl (μ o 7)) hG (pc := 23) d76_23 mo76 f4_74 rfl (am_c_iconst hG (pc := 26) d76_26 (by decide) (x_icmp_ne (tgt := 34) hG (pc := 27) d76_27 rfl h (fun h => (am_c_iconst hG (pc := 34) d76_34 (by decide) (x_zret0 hG (by decide) hr (pc := 35) d76_35 mr76 h))) (fun h => (am_c_iconst hG (pc := 30) d76_30 (by decide) (x_goto (tgt := 35) hG (pc := 31) d76_31 rfl (x_zret1 hG (by decide) hr (pc := 35) d76_35 mr76 h))))))))))))))))))))))
/-! java/lang/Math.min(II)I -/
theorem D78 (k : Nat) {pc : Nat} {i : Instr} (h : tbi78[k]? = some (pc, i)) (hs : am_isw i = false) {n : Nat} (hn : am_il i = n) : decode (am_mc 78) pc = .ok (i, n) := am_d2 (by decide) (by decide) rfl h hs hn
theorem d78_0 : decode (am_mc 78) 0 = .ok (.iload_n 0, 1) := D78 0 rfl rfl rfl
theorem d78_1 : decode (am_mc 78) 1 = .ok (.iload_n 1, 1) := D78 1 rfl rfl rfl
theorem d78_2 : decode (am_mc 78) 2 = .ok (.if_icmp .gt 7, 3) := D78 2 rfl rfl rfl
theorem d78_5 : decode (am_mc 78) 5 = .ok (.iload_n 0, 1) := D78 3 rfl rfl rfl
theorem d78_6 : decode (am_mc 78) 6 = .ok (.goto 4, 3) := D78 4 rfl rfl rfl
theorem d78_9 : decode (am_mc 78) 9 = .ok (.iload_n 1, 1) := D78 5 rfl rfl rfl
theorem d78_10 : decode (am_mc 78) 10 = .ok (.ireturn, 1) := D78 6 rfl rfl rfl
theorem ml78 : ∀ n, n < 2 → n < am_ml 78 := fun _ h => h
theorem mo78 : am_mo 78 = 13 := by decide +kernel
theorem mr78 : am_mr 78 = some .int := by decide +kernel
theorem rg78 : am_rcg 78 = 0 := by decide +kernel
def fn78 (a : Int) (b : Int) (μ : am_M) : Option (Int × am_M) := (if b < a then some (b, μ) else some (a, μ))
def sp78 : am_F := fun vs μ => am_aI vs fun a vs => am_aI vs fun b vs => am_a0 vs (fn78 a b μ)
theorem e78 (a : Int) (b : Int) (μ : am_M) : sp78 [.inl a, .inl b] μ = fn78 a b μ := by simp only [sp78, am_aR_c, am_aI_c, am_aJ_c, am_a0_c]
theorem sd78 : am_Sd 78 sp78 := by
  refine am_Sd_of (by decide) (fun vs μ μ' x h hv hM => ?_)
  obtain ⟨a, vs0, rfl, h0⟩ := am_aI_s h
  obtain ⟨b, vs1, rfl, h1⟩ := am_aI_s h0
  obtain ⟨rfl, hz⟩ := am_a0_s h1
  refine ⟨Nat.le_of_ble_eq_true rfl, fun X C hG hr => ?_⟩
  have h := hz
  unfold fn78 at h
  exact (show am_W X C 78 _ 0 0 0 [(0, .inl a), (1, .inl b)] [] μ from (am_c_iload_n hG (pc := 0) d78_0 rfl (am_c_iload_n hG (pc := 1) d78_1 rfl (x_icmp_gt (tgt := 9) hG (pc := 2) d78_2 rfl h (fun h => (am_c_iload_n hG (pc := 9) d78_9 rfl (x_iret hG (by decide) hr (pc := 10) d78_10 mr78 h))) (fun h => (am_c_iload_n hG (pc := 5) d78_5 rfl (x_goto (tgt := 10) hG (pc := 6) d78_6 rfl (x_iret hG (by decide) hr (pc := 10) d78_10 mr78 h))))))))
/-! ChartPress$Table.isMissing(II)Z -/
theorem D79 (k : Nat) {pc : Nat} {i : Instr} (h : tbi79[k]? = some (pc, i)) (hs : am_isw i = false) {n : Nat} (hn : am_il i = n) : decode (am_mc 79) pc = .ok (i, n) := am_d2 (by decide) (by decide) rfl h hs hn
theorem d79_0 : decode (am_mc 79) 0 = .ok (.aload_n 0, 1) := D79 0 rfl rfl rfl
theorem d79_1 : decode (am_mc 79) 1 = .ok (.iload_n 1, 1) := D79 1 rfl rfl rfl
theorem d79_2 : decode (am_mc 79) 2 = .ok (.iload_n 2, 1) := D79 2 rfl rfl rfl
theorem d79_3 : decode (am_mc 79) 3 = .ok (.invokevirtual 116, 3) := D79 3 rfl rfl rfl
theorem d79_6 : decode (am_mc 79) 6 = .ok (.invokevirtual 120, 3) := D79 4 rfl rfl rfl
theorem d79_9 : decode (am_mc 79) 9 = .ok (.ireturn, 1) := D79 5 rfl rfl rfl
theorem ml79 : ∀ n, n < 3 → n < am_ml 79 := fun _ h => h
theorem mo79 : am_mo 79 = 2 := by decide +kernel
theorem mr79 : am_mr 79 = some .boolean := by decide +kernel
theorem rg79 : am_rcg 79 = 3 := by decide +kernel
theorem m2_116 : tb_m 2 116 = some (28, 3, 3, 3) := by decide +kernel
theorem m2_120 : tb_m 2 120 = some (29, 1, 1, 0) := by decide +kernel
theorem dp79_28 : am_md 28 + 1 ≤ am_md 79 ∧ 8 + (am_ml 28 + 11) + am_lr 28 ≤ am_lr 79 := by decide +kernel
theorem dp79_29 : am_md 29 + 1 ≤ am_md 79 ∧ 8 + (am_ml 29 + 11) + am_lr 29 ≤ am_lr 79 := by decide +kernel
def fn79 (o : Nat) (a : Int) (b : Int) (μ : am_M) : Option (Int × am_M) := (am_op (fn28 o a b μ) (fun z1 => (am_op (fn29 z1.1.toNat z1.2) (fun z2 => (if z2.1 = 0 ∨ z2.1 = 1 then some (z2.1, z2.2) else none)))))
def sp79 : am_F := fun vs μ => am_aR 2 vs fun o vs => am_aI vs fun a vs => am_aI vs fun b vs => am_a0 vs (fn79 o a b μ)
theorem e79 (o : Nat) (a : Int) (b : Int) (μ : am_M) : sp79 [.inr (.inr (2, o)), .inl a, .inl b] μ = fn79 o a b μ := by simp only [sp79, am_aR_c, am_aI_c, am_aJ_c, am_a0_c]
theorem sd79 : am_Sd 79 sp79 := by
  refine am_Sd_of (by decide) (fun vs μ μ' x h hv hM => ?_)
  obtain ⟨o, vs0, rfl, h0⟩ := am_aR_s h
  obtain ⟨a, vs1, rfl, h1⟩ := am_aI_s h0
  obtain ⟨b, vs2, rfl, h2⟩ := am_aI_s h1
  obtain ⟨rfl, hz⟩ := am_a0_s h2
  refine ⟨Nat.le_of_ble_eq_true rfl, fun X C hG hr => ?_⟩
  have h := hz
  unfold fn79 at h
  exact (show am_W X C 79 _ 0 0 0 [(0, .inr (.inr (2, o))), (1, .inl a), (2, .inl b)] [] μ from (am_c_aload_n hG (pc := 0) d79_0 rfl (am_c_iload_n hG (pc := 1) d79_1 rfl (am_c_iload_n hG (pc := 2) d79_2 rfl (x_virtual_r (t := 2) (o := o) (as2 := [.inl a, .inl b]) (rest := []) hG (pc := 3) d79_3 mo79 m2_116 (by decide) dp79_28 rfl rfl (Nat.le_of_ble_eq_true rfl) (Nat.le_of_ble_eq_true rfl) rg28 sd28 (e28 _ _ _ _) h (fun z1 h => (x_virtual_i (t := 3) (o := z1.1.toNat) (as2 := []) (rest := []) hG (pc := 6) d79_6 mo79 m2_120 (by decide) dp79_29 rfl rfl (Nat.le_of_ble_eq_true rfl) (Nat.le_of_ble_eq_true rfl) rg29 sd29 (e29 _ _) h (fun z2 h => (x_zret hG (by decide) hr (pc := 9) d79_9 mr79 h)))))))))
/-! ChartPress$Table.worth(II)J -/
theorem D80 (k : Nat) {pc : Nat} {i : Instr} (h : tbi80[k]? = some (pc, i)) (hs : am_isw i = false) {n : Nat} (hn : am_il i = n) : decode (am_mc 80) pc = .ok (i, n) := am_d2 (by decide) (by decide) rfl h hs hn
theorem d80_0 : decode (am_mc 80) 0 = .ok (.aload_n 0, 1) := D80 0 rfl rfl rfl
theorem d80_1 : decode (am_mc 80) 1 = .ok (.iload_n 1, 1) := D80 1 rfl rfl rfl
theorem d80_2 : decode (am_mc 80) 2 = .ok (.iload_n 2, 1) := D80 2 rfl rfl rfl
theorem d80_3 : decode (am_mc 80) 3 = .ok (.invokevirtual 130, 3) := D80 3 rfl rfl rfl
theorem d80_6 : decode (am_mc 80) 6 = .ok (.istore_n 3, 1) := D80 4 rfl rfl rfl
theorem d80_7 : decode (am_mc 80) 7 = .ok (.iload_n 3, 1) := D80 5 rfl rfl rfl
theorem d80_8 : decode (am_mc 80) 8 = .ok (.iconst (-1), 1) := D80 6 rfl rfl rfl
theorem d80_9 : decode (am_mc 80) 9 = .ok (.if_icmp .eq 12, 3) := D80 7 rfl rfl rfl
theorem d80_12 : decode (am_mc 80) 12 = .ok (.aload_n 0, 1) := D80 8 rfl rfl rfl
theorem d80_13 : decode (am_mc 80) 13 = .ok (.getfield 24, 3) := D80 9 rfl rfl rfl
theorem d80_16 : decode (am_mc 80) 16 = .ok (.iload_n 3, 1) := D80 10 rfl rfl rfl
theorem d80_17 : decode (am_mc 80) 17 = .ok (.laload, 1) := D80 11 rfl rfl rfl
theorem d80_18 : decode (am_mc 80) 18 = .ok (.goto 4, 3) := D80 12 rfl rfl rfl
theorem d80_21 : decode (am_mc 80) 21 = .ok (.lconst 0, 1) := D80 13 rfl rfl rfl
theorem d80_22 : decode (am_mc 80) 22 = .ok (.lreturn, 1) := D80 14 rfl rfl rfl
theorem ml80 : ∀ n, n < 4 → n < am_ml 80 := fun _ h => h
theorem mo80 : am_mo 80 = 2 := by decide +kernel
theorem rk80 : am_rk 80 = 2 := by decide +kernel
theorem rg80 : am_rcg 80 = 3 := by decide +kernel
theorem f2_24 : tb_f 2 24 = some (2, 2, 5, 17) := by decide +kernel
theorem dp80_27 : am_md 27 + 1 ≤ am_md 80 ∧ 8 + (am_ml 27 + 11) + am_lr 27 ≤ am_lr 80 := by decide +kernel
def fn80 (o : Nat) (a : Int) (b : Int) (μ : am_M) : Option (Int × am_M) := (am_op (fn27 o a b μ) (fun z1 => (if z1.1 = (-1) then some (0, z1.2) else (if (0 : Int) ≤ z1.1 ∧ z1.1 < ((am_len (am_ref o 2) : Nat) : Int) then some (z1.2 (am_ref o 2) (z1.1 : Int).toNat, z1.2) else none))))
def sp80 : am_F := fun vs μ => am_aR 2 vs fun o vs => am_aI vs fun a vs => am_aI vs fun b vs => am_a0 vs (fn80 o a b μ)
theorem e80 (o : Nat) (a : Int) (b : Int) (μ : am_M) : sp80 [.inr (.inr (2, o)), .inl a, .inl b] μ = fn80 o a b μ := by simp only [sp80, am_aR_c, am_aI_c, am_aJ_c, am_a0_c]
theorem sd80 : am_Sd 80 sp80 := by
  refine am_Sd_of (by decide) (fun vs μ μ' x h hv hM => ?_)
  obtain ⟨o, vs0, rfl, h0⟩ := am_aR_s h
  obtain ⟨a, vs1, rfl, h1⟩ := am_aI_s h0
  obtain ⟨b, vs2, rfl, h2⟩ := am_aI_s h1
  obtain ⟨rfl, hz⟩ := am_a0_s h2
  refine ⟨Nat.le_of_ble_eq_true rfl, fun X C hG hr => ?_⟩
  have h := hz
  unfold fn80 at h
  exact (show am_W X C 80 _ 0 0 0 [(0, .inr (.inr (2, o))), (1, .inl a), (2, .inl b)] [] μ from (am_c_aload_n hG (pc := 0) d80_0 rfl (am_c_iload_n hG (pc := 1) d80_1 rfl (am_c_iload_n hG (pc := 2) d80_2 rfl (x_virtual_i (t := 2) (o := o) (as2 := [.inl a, .inl b]) (rest := []) hG (pc := 3) d80_3 mo80 m2_130 (by decide) dp80_27 rfl rfl (Nat.le_of_ble_eq_true rfl) (Nat.le_of_ble_eq_true rfl) rg27 sd27 (e27 _ _ _ _) h (fun z1 h => (x_istore_n (lv' := [(3, .inl z1.1), (0, .inr (.inr (2, o))), (1, .inl a), (2, .inl b)]) hG (pc := 6) d80_6 (ml80 _ (by decide)) rfl (am_c_iload_n hG (pc := 7) d80_7 rfl (am_c_iconst hG (pc := 8) d80_8 (by decide) (x_icmp_eq (tgt := 21) hG (pc := 9) d80_9 rfl h (fun h => (am_c_lconst hG (pc := 21) d80_21 (x_lret hG (by decide) hr (pc := 22) d80_22 rk80 h))) (fun h => (am_c_aload_n hG (pc := 12) d80_12 rfl (x_get_n (v := .inr (.inr (17, am_ref o 2))) hG (pc := 13) d80_13 mo80 f2_24 rfl (am_c_iload_n hG (pc := 16) d80_16 rfl (x_laload hG (pc := 17) d80_17 h (fun h => (x_goto (tgt := 22) hG (pc := 18) d80_18 rfl (x_lret hG (by decide) hr (pc := 22) d80_22 rk80 h))))))))))))))))))
/-! ChartPress$Request.xColumn()I -/
theorem D83 (k : Nat) {pc : Nat} {i : Instr} (h : tbi83[k]? = some (pc, i)) (hs : am_isw i = false) {n : Nat} (hn : am_il i = n) : decode (am_mc 83) pc = .ok (i, n) := am_d2 (by decide) (by decide) rfl h hs hn
theorem d83_0 : decode (am_mc 83) 0 = .ok (.aload_n 0, 1) := D83 0 rfl rfl rfl
theorem d83_1 : decode (am_mc 83) 1 = .ok (.getfield 71, 3) := D83 1 rfl rfl rfl
theorem d83_4 : decode (am_mc 83) 4 = .ok (.ireturn, 1) := D83 2 rfl rfl rfl
theorem ml83 : ∀ n, n < 1 → n < am_ml 83 := fun _ h => h
theorem mo83 : am_mo 83 = 4 := by decide +kernel
theorem mr83 : am_mr 83 = some .int := by decide +kernel
theorem rg83 : am_rcg 83 = 5 := by decide +kernel
def fn83 (o : Nat) (μ : am_M) : Option (Int × am_M) := some (μ o 6, μ)
def sp83 : am_F := fun vs μ => am_aR 4 vs fun o vs => am_a0 vs (fn83 o μ)
theorem e83 (o : Nat) (μ : am_M) : sp83 [.inr (.inr (4, o))] μ = fn83 o μ := by simp only [sp83, am_aR_c, am_aI_c, am_aJ_c, am_a0_c]
theorem sd83 : am_Sd 83 sp83 := by
  refine am_Sd_of (by decide) (fun vs μ μ' x h hv hM => ?_)
  obtain ⟨o, vs0, rfl, h0⟩ := am_aR_s h
  obtain ⟨rfl, hz⟩ := am_a0_s h0
  refine ⟨Nat.le_of_ble_eq_true rfl, fun X C hG hr => ?_⟩
  have h := hz
  unfold fn83 at h
  exact (show am_W X C 83 _ 0 0 0 [(0, .inr (.inr (4, o)))] [] μ from (am_c_aload_n hG (pc := 0) d83_0 rfl (x_get_n (v := .inl (μ o 6)) hG (pc := 1) d83_1 mo83 f4_71 rfl (x_iret hG (by decide) hr (pc := 4) d83_4 mr83 h))))
/-! ChartPress$Request.stackColumn()I -/
theorem D86 (k : Nat) {pc : Nat} {i : Instr} (h : tbi86[k]? = some (pc, i)) (hs : am_isw i = false) {n : Nat} (hn : am_il i = n) : decode (am_mc 86) pc = .ok (i, n) := am_d2 (by decide) (by decide) rfl h hs hn
theorem d86_0 : decode (am_mc 86) 0 = .ok (.aload_n 0, 1) := D86 0 rfl rfl rfl
theorem d86_1 : decode (am_mc 86) 1 = .ok (.getfield 83, 3) := D86 1 rfl rfl rfl
theorem d86_4 : decode (am_mc 86) 4 = .ok (.ireturn, 1) := D86 2 rfl rfl rfl
theorem ml86 : ∀ n, n < 1 → n < am_ml 86 := fun _ h => h
theorem mo86 : am_mo 86 = 4 := by decide +kernel
theorem mr86 : am_mr 86 = some .int := by decide +kernel
theorem rg86 : am_rcg 86 = 5 := by decide +kernel
def fn86 (o : Nat) (μ : am_M) : Option (Int × am_M) := some (μ o 11, μ)
def sp86 : am_F := fun vs μ => am_aR 4 vs fun o vs => am_a0 vs (fn86 o μ)
theorem e86 (o : Nat) (μ : am_M) : sp86 [.inr (.inr (4, o))] μ = fn86 o μ := by simp only [sp86, am_aR_c, am_aI_c, am_aJ_c, am_a0_c]
theorem sd86 : am_Sd 86 sp86 := by
  refine am_Sd_of (by decide) (fun vs μ μ' x h hv hM => ?_)
  obtain ⟨o, vs0, rfl, h0⟩ := am_aR_s h
  obtain ⟨rfl, hz⟩ := am_a0_s h0
  refine ⟨Nat.le_of_ble_eq_true rfl, fun X C hG hr => ?_⟩
  have h := hz
  unfold fn86 at h
  exact (show am_W X C 86 _ 0 0 0 [(0, .inr (.inr (4, o)))] [] μ from (am_c_aload_n hG (pc := 0) d86_0 rfl (x_get_n (v := .inl (μ o 11)) hG (pc := 1) d86_1 mo86 f4_83 rfl (x_iret hG (by decide) hr (pc := 4) d86_4 mr86 h))))
/-! ChartPress$Tally.clear()V -/
theorem D88 (k : Nat) {pc : Nat} {i : Instr} (h : tbi88[k]? = some (pc, i)) (hs : am_isw i = false) {n : Nat} (hn : am_il i = n) : decode (am_mc 88) pc = .ok (i, n) := am_d2 (by decide) (by decide) rfl h hs hn
theorem d88_0 : decode (am_mc 88) 0 = .ok (.aload_n 0, 1) := D88 0 rfl rfl rfl
theorem d88_1 : decode (am_mc 88) 1 = .ok (.iconst 0, 1) := D88 1 rfl rfl rfl
theorem d88_2 : decode (am_mc 88) 2 = .ok (.putfield 9, 3) := D88 2 rfl rfl rfl
theorem d88_5 : decode (am_mc 88) 5 = .ok (.aload_n 0, 1) := D88 3 rfl rfl rfl
theorem d88_6 : decode (am_mc 88) 6 = .ok (.iconst 0, 1) := D88 4 rfl rfl rfl
theorem d88_7 : decode (am_mc 88) 7 = .ok (.putfield 15, 3) := D88 5 rfl rfl rfl
theorem d88_10 : decode (am_mc 88) 10 = .ok (.aload_n 0, 1) := D88 6 rfl rfl rfl
theorem d88_11 : decode (am_mc 88) 11 = .ok (.lconst 0, 1) := D88 7 rfl rfl rfl
theorem d88_12 : decode (am_mc 88) 12 = .ok (.putfield 18, 3) := D88 8 rfl rfl rfl
theorem d88_15 : decode (am_mc 88) 15 = .ok (.aload_n 0, 1) := D88 9 rfl rfl rfl
theorem d88_16 : decode (am_mc 88) 16 = .ok (.lconst 0, 1) := D88 10 rfl rfl rfl
theorem d88_17 : decode (am_mc 88) 17 = .ok (.putfield 22, 3) := D88 11 rfl rfl rfl
theorem d88_20 : decode (am_mc 88) 20 = .ok (.aload_n 0, 1) := D88 12 rfl rfl rfl
theorem d88_21 : decode (am_mc 88) 21 = .ok (.lconst 0, 1) := D88 13 rfl rfl rfl
theorem d88_22 : decode (am_mc 88) 22 = .ok (.putfield 25, 3) := D88 14 rfl rfl rfl
theorem d88_25 : decode (am_mc 88) 25 = .ok (.return_, 1) := D88 15 rfl rfl rfl
theorem ml88 : ∀ n, n < 1 → n < am_ml 88 := fun _ h => h
theorem mo88 : am_mo 88 = 7 := by decide +kernel
theorem rk88 : am_rk 88 = 0 := by decide +kernel
theorem rg88 : am_rcg 88 = 8 := by decide +kernel
theorem f7_9 : tb_f 7 9 = some (7, 0, 0, 0) := by decide +kernel
theorem f7_15 : tb_f 7 15 = some (7, 1, 0, 0) := by decide +kernel
theorem f7_18 : tb_f 7 18 = some (7, 2, 1, 0) := by decide +kernel
theorem f7_22 : tb_f 7 22 = some (7, 3, 1, 0) := by decide +kernel
theorem f7_25 : tb_f 7 25 = some (7, 4, 1, 0) := by decide +kernel
def fn88 (o : Nat) (μ : am_M) : Option (Int × am_M) := some (0, am_up (am_up (am_up (am_up (am_up μ o 0 0) o 1 0) o 2 0) o 3 0) o 4 0)
def sp88 : am_F := fun vs μ => am_aR 7 vs fun o vs => am_a0 vs (fn88 o μ)
theorem e88 (o : Nat) (μ : am_M) : sp88 [.inr (.inr (7, o))] μ = fn88 o μ := by simp only [sp88, am_aR_c, am_aI_c, am_aJ_c, am_a0_c]
theorem sd88 : am_Sd 88 sp88 := by
  refine am_Sd_of (by decide) (fun vs μ μ' x h hv hM => ?_)
  obtain ⟨o, vs0, rfl, h0⟩ := am_aR_s h
  obtain ⟨rfl, hz⟩ := am_a0_s h0
  refine ⟨Nat.le_of_ble_eq_true rfl, fun X C hG hr => ?_⟩
  have h := hz
  unfold fn88 at h
  exact (show am_W X C 88 _ 0 0 0 [(0, .inr (.inr (7, o)))] [] μ from (am_c_aload_n hG (pc := 0) d88_0 rfl (am_c_iconst hG (pc := 1) d88_1 (by decide) (x_put_i hG (pc := 2) d88_2 mo88 f7_9 (by decide) (am_c_aload_n hG (pc := 5) d88_5 rfl (am_c_iconst hG (pc := 6) d88_6 (by decide) (x_put_i hG (pc := 7) d88_7 mo88 f7_15 (by decide) (am_c_aload_n hG (pc := 10) d88_10 rfl (am_c_lconst hG (pc := 11) d88_11 (x_put_l hG (pc := 12) d88_12 mo88 f7_18 (by decide) (am_c_aload_n hG (pc := 15) d88_15 rfl (am_c_lconst hG (pc := 16) d88_16 (x_put_l hG (pc := 17) d88_17 mo88 f7_22 (by decide) (am_c_aload_n hG (pc := 20) d88_20 rfl (am_c_lconst hG (pc := 21) d88_21 (x_put_l hG (pc := 22) d88_22 mo88 f7_25 (by decide) (x_vret hG (by decide) hr (pc := 25) d88_25 rk88 h)))))))))))))))))
/-! ChartPress$Request.yColumn()I -/
theorem D89 (k : Nat) {pc : Nat} {i : Instr} (h : tbi89[k]? = some (pc, i)) (hs : am_isw i = false) {n : Nat} (hn : am_il i = n) : decode (am_mc 89) pc = .ok (i, n) := am_d2 (by decide) (by decide) rfl h hs hn
theorem d89_0 : decode (am_mc 89) 0 = .ok (.aload_n 0, 1) := D89 0 rfl rfl rfl
theorem d89_1 : decode (am_mc 89) 1 = .ok (.getfield 77, 3) := D89 1 rfl rfl rfl
theorem d89_4 : decode (am_mc 89) 4 = .ok (.ireturn, 1) := D89 2 rfl rfl rfl
theorem ml89 : ∀ n, n < 1 → n < am_ml 89 := fun _ h => h
theorem mo89 : am_mo 89 = 4 := by decide +kernel
theorem mr89 : am_mr 89 = some .int := by decide +kernel
theorem rg89 : am_rcg 89 = 5 := by decide +kernel
def fn89 (o : Nat) (μ : am_M) : Option (Int × am_M) := some (μ o 8, μ)
def sp89 : am_F := fun vs μ => am_aR 4 vs fun o vs => am_a0 vs (fn89 o μ)
theorem e89 (o : Nat) (μ : am_M) : sp89 [.inr (.inr (4, o))] μ = fn89 o μ := by simp only [sp89, am_aR_c, am_aI_c, am_aJ_c, am_a0_c]
theorem sd89 : am_Sd 89 sp89 := by
  refine am_Sd_of (by decide) (fun vs μ μ' x h hv hM => ?_)
  obtain ⟨o, vs0, rfl, h0⟩ := am_aR_s h
  obtain ⟨rfl, hz⟩ := am_a0_s h0
  refine ⟨Nat.le_of_ble_eq_true rfl, fun X C hG hr => ?_⟩
  have h := hz
  unfold fn89 at h
  exact (show am_W X C 89 _ 0 0 0 [(0, .inr (.inr (4, o)))] [] μ from (am_c_aload_n hG (pc := 0) d89_0 rfl (x_get_n (v := .inl (μ o 8)) hG (pc := 1) d89_1 mo89 f4_77 rfl (x_iret hG (by decide) hr (pc := 4) d89_4 mr89 h))))
/-! ChartPress$Tally.addRow()V -/
theorem D90 (k : Nat) {pc : Nat} {i : Instr} (h : tbi90[k]? = some (pc, i)) (hs : am_isw i = false) {n : Nat} (hn : am_il i = n) : decode (am_mc 90) pc = .ok (i, n) := am_d2 (by decide) (by decide) rfl h hs hn
theorem d90_0 : decode (am_mc 90) 0 = .ok (.aload_n 0, 1) := D90 0 rfl rfl rfl
theorem d90_1 : decode (am_mc 90) 1 = .ok (.dup, 1) := D90 1 rfl rfl rfl
theorem d90_2 : decode (am_mc 90) 2 = .ok (.getfield 9, 3) := D90 2 rfl rfl rfl
theorem d90_5 : decode (am_mc 90) 5 = .ok (.iconst 1, 1) := D90 3 rfl rfl rfl
theorem d90_6 : decode (am_mc 90) 6 = .ok (.iadd, 1) := D90 4 rfl rfl rfl
theorem d90_7 : decode (am_mc 90) 7 = .ok (.putfield 9, 3) := D90 5 rfl rfl rfl
theorem d90_10 : decode (am_mc 90) 10 = .ok (.return_, 1) := D90 6 rfl rfl rfl
theorem ml90 : ∀ n, n < 1 → n < am_ml 90 := fun _ h => h
theorem mo90 : am_mo 90 = 7 := by decide +kernel
theorem rk90 : am_rk 90 = 0 := by decide +kernel
theorem rg90 : am_rcg 90 = 8 := by decide +kernel
def fn90 (o : Nat) (μ : am_M) : Option (Int × am_M) := some (0, am_up μ o 0 (w32 ((μ o 0) + 1)))
def sp90 : am_F := fun vs μ => am_aR 7 vs fun o vs => am_a0 vs (fn90 o μ)
theorem e90 (o : Nat) (μ : am_M) : sp90 [.inr (.inr (7, o))] μ = fn90 o μ := by simp only [sp90, am_aR_c, am_aI_c, am_aJ_c, am_a0_c]
theorem sd90 : am_Sd 90 sp90 := by
  refine am_Sd_of (by decide) (fun vs μ μ' x h hv hM => ?_)
  obtain ⟨o, vs0, rfl, h0⟩ := am_aR_s h
  obtain ⟨rfl, hz⟩ := am_a0_s h0
  refine ⟨Nat.le_of_ble_eq_true rfl, fun X C hG hr => ?_⟩
  have h := hz
  unfold fn90 at h
  exact (show am_W X C 90 _ 0 0 0 [(0, .inr (.inr (7, o)))] [] μ from (am_c_aload_n hG (pc := 0) d90_0 rfl (am_c_dup hG (pc := 1) d90_1 rfl (x_get_n (v := .inl (μ o 0)) hG (pc := 2) d90_2 mo90 f7_9 rfl (am_c_iconst hG (pc := 5) d90_5 (by decide) (am_c_iadd hG (pc := 6) d90_6 (x_put_i hG (pc := 7) d90_7 mo90 f7_9 (by decide) (x_vret hG (by decide) hr (pc := 10) d90_10 rk90 h))))))))
/-! ChartPress$Tally.addKnown(J)V -/
theorem D91 (k : Nat) {pc : Nat} {i : Instr} (h : tbi91[k]? = some (pc, i)) (hs : am_isw i = false) {n : Nat} (hn : am_il i = n) : decode (am_mc 91) pc = .ok (i, n) := am_d2 (by decide) (by decide) rfl h hs hn
theorem d91_0 : decode (am_mc 91) 0 = .ok (.aload_n 0, 1) := D91 0 rfl rfl rfl
theorem d91_1 : decode (am_mc 91) 1 = .ok (.aload_n 0, 1) := D91 1 rfl rfl rfl
theorem d91_2 : decode (am_mc 91) 2 = .ok (.getfield 15, 3) := D91 2 rfl rfl rfl
theorem d91_5 : decode (am_mc 91) 5 = .ok (.ifCond .eq 12, 3) := D91 3 rfl rfl rfl
theorem d91_8 : decode (am_mc 91) 8 = .ok (.lload_n 1, 1) := D91 4 rfl rfl rfl
theorem d91_9 : decode (am_mc 91) 9 = .ok (.aload_n 0, 1) := D91 5 rfl rfl rfl
theorem d91_10 : decode (am_mc 91) 10 = .ok (.getfield 22, 3) := D91 6 rfl rfl rfl
theorem d91_13 : decode (am_mc 91) 13 = .ok (.lcmp, 1) := D91 7 rfl rfl rfl
theorem d91_14 : decode (am_mc 91) 14 = .ok (.ifCond .ge 7, 3) := D91 8 rfl rfl rfl
theorem d91_17 : decode (am_mc 91) 17 = .ok (.lload_n 1, 1) := D91 9 rfl rfl rfl
theorem d91_18 : decode (am_mc 91) 18 = .ok (.goto 7, 3) := D91 10 rfl rfl rfl
theorem d91_21 : decode (am_mc 91) 21 = .ok (.aload_n 0, 1) := D91 11 rfl rfl rfl
theorem d91_22 : decode (am_mc 91) 22 = .ok (.getfield 22, 3) := D91 12 rfl rfl rfl
theorem d91_25 : decode (am_mc 91) 25 = .ok (.putfield 22, 3) := D91 13 rfl rfl rfl
theorem d91_28 : decode (am_mc 91) 28 = .ok (.aload_n 0, 1) := D91 14 rfl rfl rfl
theorem d91_29 : decode (am_mc 91) 29 = .ok (.aload_n 0, 1) := D91 15 rfl rfl rfl
theorem d91_30 : decode (am_mc 91) 30 = .ok (.getfield 15, 3) := D91 16 rfl rfl rfl
theorem d91_33 : decode (am_mc 91) 33 = .ok (.ifCond .eq 12, 3) := D91 17 rfl rfl rfl
theorem d91_36 : decode (am_mc 91) 36 = .ok (.lload_n 1, 1) := D91 18 rfl rfl rfl
theorem d91_37 : decode (am_mc 91) 37 = .ok (.aload_n 0, 1) := D91 19 rfl rfl rfl
theorem d91_38 : decode (am_mc 91) 38 = .ok (.getfield 25, 3) := D91 20 rfl rfl rfl
theorem d91_41 : decode (am_mc 91) 41 = .ok (.lcmp, 1) := D91 21 rfl rfl rfl
theorem d91_42 : decode (am_mc 91) 42 = .ok (.ifCond .le 7, 3) := D91 22 rfl rfl rfl
theorem d91_45 : decode (am_mc 91) 45 = .ok (.lload_n 1, 1) := D91 23 rfl rfl rfl
theorem d91_46 : decode (am_mc 91) 46 = .ok (.goto 7, 3) := D91 24 rfl rfl rfl
theorem d91_49 : decode (am_mc 91) 49 = .ok (.aload_n 0, 1) := D91 25 rfl rfl rfl
theorem d91_50 : decode (am_mc 91) 50 = .ok (.getfield 25, 3) := D91 26 rfl rfl rfl
theorem d91_53 : decode (am_mc 91) 53 = .ok (.putfield 25, 3) := D91 27 rfl rfl rfl
theorem d91_56 : decode (am_mc 91) 56 = .ok (.aload_n 0, 1) := D91 28 rfl rfl rfl
theorem d91_57 : decode (am_mc 91) 57 = .ok (.dup, 1) := D91 29 rfl rfl rfl
theorem d91_58 : decode (am_mc 91) 58 = .ok (.getfield 18, 3) := D91 30 rfl rfl rfl
theorem d91_61 : decode (am_mc 91) 61 = .ok (.lload_n 1, 1) := D91 31 rfl rfl rfl
theorem d91_62 : decode (am_mc 91) 62 = .ok (.ladd, 1) := D91 32 rfl rfl rfl
theorem d91_63 : decode (am_mc 91) 63 = .ok (.putfield 18, 3) := D91 33 rfl rfl rfl
theorem d91_66 : decode (am_mc 91) 66 = .ok (.aload_n 0, 1) := D91 34 rfl rfl rfl
theorem d91_67 : decode (am_mc 91) 67 = .ok (.dup, 1) := D91 35 rfl rfl rfl
theorem d91_68 : decode (am_mc 91) 68 = .ok (.getfield 15, 3) := D91 36 rfl rfl rfl
theorem d91_71 : decode (am_mc 91) 71 = .ok (.iconst 1, 1) := D91 37 rfl rfl rfl
theorem d91_72 : decode (am_mc 91) 72 = .ok (.iadd, 1) := D91 38 rfl rfl rfl
theorem d91_73 : decode (am_mc 91) 73 = .ok (.putfield 15, 3) := D91 39 rfl rfl rfl
theorem d91_76 : decode (am_mc 91) 76 = .ok (.return_, 1) := D91 40 rfl rfl rfl
theorem ml91 : ∀ n, n < 3 → n < am_ml 91 := fun _ h => h
theorem mo91 : am_mo 91 = 7 := by decide +kernel
theorem rk91 : am_rk 91 = 0 := by decide +kernel
theorem rg91 : am_rcg 91 = 8 := by decide +kernel
def fn91 (o : Nat) (a : Int) (μ : am_M) : Option (Int × am_M) := (if μ o 1 = 0 then (if (am_up μ o 3 a) o 1 = 0 then some (0, am_up (am_up (am_up (am_up μ o 3 a) o 4 a) o 2 (w64 (((am_up (am_up μ o 3 a) o 4 a) o 2) + a))) o 1 (w32 (((am_up (am_up (am_up μ o 3 a) o 4 a) o 2 (w64 (((am_up (am_up μ o 3 a) o 4 a) o 2) + a))) o 1) + 1))) else (if 0 < o_cmp a ((am_up μ o 3 a) o 4) then some (0, am_up (am_up (am_up (am_up μ o 3 a) o 4 a) o 2 (w64 (((am_up (am_up μ o 3 a) o 4 a) o 2) + a))) o 1 (w32 (((am_up (am_up (am_up μ o 3 a) o 4 a) o 2 (w64 (((am_up (am_up μ o 3 a) o 4 a) o 2) + a))) o 1) + 1))) else some (0, am_up (am_up (am_up (am_up μ o 3 a) o 4 ((am_up μ o 3 a) o 4)) o 2 (w64 (((am_up (am_up μ o 3 a) o 4 ((am_up μ o 3 a) o 4)) o 2) + a))) o 1 (w32 (((am_up (am_up (am_up μ o 3 a) o 4 ((am_up μ o 3 a) o 4)) o 2 (w64 (((am_up (am_up μ o 3 a) o 4 ((am_up μ o 3 a) o 4)) o 2) + a))) o 1) + 1))))) else (if o_cmp a (μ o 3) < 0 then (if (am_up μ o 3 a) o 1 = 0 then some (0, am_up (am_up (am_up (am_up μ o 3 a) o 4 a) o 2 (w64 (((am_up (am_up μ o 3 a) o 4 a) o 2) + a))) o 1 (w32 (((am_up (am_up (am_up μ o 3 a) o 4 a) o 2 (w64 (((am_up (am_up μ o 3 a) o 4 a) o 2) + a))) o 1) + 1))) else (if 0 < o_cmp a ((am_up μ o 3 a) o 4) then some (0, am_up (am_up (am_up (am_up μ o 3 a) o 4 a) o 2 (w64 (((am_up (am_up μ o 3 a) o 4 a) o 2) + a))) o 1 (w32 (((am_up (am_up (am_up μ o 3 a) o 4 a) o 2 (w64 (((am_up (am_up μ o 3 a) o 4 a) o 2) + a))) o 1) + 1))) else some (0, am_up (am_up (am_up (am_up μ o 3 a) o 4 ((am_up μ o 3 a) o 4)) o 2 (w64 (((am_up (am_up μ o 3 a) o 4 ((am_up μ o 3 a) o 4)) o 2) + a))) o 1 (w32 (((am_up (am_up (am_up μ o 3 a) o 4 ((am_up μ o 3 a) o 4)) o 2 (w64 (((am_up (am_up μ o 3 a) o 4 ((am_up μ o 3 a) o 4)) o 2) + a))) o 1) + 1))))) else (if (am_up μ o 3 (μ o 3)) o 1 = 0 then some (0, am_up (am_up (am_up (am_up μ o 3 (μ o 3)) o 4 a) o 2 (w64 (((am_up (am_up μ o 3 (μ o 3)) o 4 a) o 2) + a))) o 1 (w32 (((am_up (am_up (am_up μ o 3 (μ o 3)) o 4 a) o 2 (w64 (((am_up (am_up μ o 3 (μ o 3)) o 4 a) o 2) + a))) o 1) + 1))) else (if 0 < o_cmp a ((am_up μ o 3 (μ o 3)) o 4) then some (0, am_up (am_up (am_up (am_up μ o 3 (μ o 3)) o 4 a) o 2 (w64 (((am_up (am_up μ o 3 (μ o 3)) o 4 a) o 2) + a))) o 1 (w32 (((am_up (am_up (am_up μ o 3 (μ o 3)) o 4 a) o 2 (w64 (((am_up (am_up μ o 3 (μ o 3)) o 4 a) o 2) + a))) o 1) + 1))) else some (0, am_up (am_up (am_up (am_up μ o 3 (μ o 3)) o 4 ((am_up μ o 3 (μ o 3)) o 4)) o 2 (w64 (((am_up (am_up μ o 3 (μ o 3)) o 4 ((am_up μ o 3 (μ o 3)) o 4)) o 2) + a))) o 1 (w32 (((am_up (am_up (am_up μ o 3 (μ o 3)) o 4 ((am_up μ o 3 (μ o 3)) o 4)) o 2 (w64 (((am_up (am_up μ o 3 (μ o 3)) o 4 ((am_up μ o 3 (μ o 3)) o 4)) o 2) + a))) o 1) + 1)))))))
def sp91 : am_F := fun vs μ => am_aR 7 vs fun o vs => am_aJ vs fun a vs => am_a0 vs (fn91 o a μ)
theorem e91 (o : Nat) (a : Int) (μ : am_M) : sp91 [.inr (.inr (7, o)), .inr (.inl a)] μ = fn91 o a μ := by simp only [sp91, am_aR_c, am_aI_c, am_aJ_c, am_a0_c]
theorem sd91 : am_Sd 91 sp91 := by
  refine am_Sd_of (by decide) (fun vs μ μ' x h hv hM => ?_)
  obtain ⟨o, vs0, rfl, h0⟩ := am_aR_s h
  obtain ⟨a, vs1, rfl, h1⟩ := am_aJ_s h0
  obtain ⟨rfl, hz⟩ := am_a0_s h1
  refine ⟨Nat.le_of_ble_eq_true rfl, fun X C hG hr => ?_⟩
  have h := hz
  unfold fn91 at h
  exact (show am_W X C 91 _ 0 0 0 [(0, .inr (.inr (7, o))), (1, .inr (.inl a))] [] μ from (am_c_aload_n hG (pc := 0) d91_0 rfl (am_c_aload_n hG (pc := 1) d91_1 rfl (x_get_n (v := .inl (μ o 1)) hG (pc := 2) d91_2 mo91 f7_15 rfl (x_if_eq (tgt := 17) hG (pc := 5) d91_5 rfl h (fun h => (am_c_lload_n hG (pc := 17) d91_17 rfl (x_goto (tgt := 25) hG (pc := 18) d91_18 rfl (x_put_l hG (pc := 25) d91_25 mo91 f7_22 (by decide) (am_c_aload_n hG (pc := 28) d91_28 rfl (am_c_aload_n hG (pc := 29) d91_29 rfl (x_get_n (v := .inl ((am_up μ o 3 a) o 1)) hG (pc := 30) d91_30 mo91 f7_15 rfl (x_if_eq (tgt := 45) hG (pc := 33) d91_33 rfl h (fun h => (am_c_lload_n hG (pc := 45) d91_45 rfl (x_goto (tgt := 53) hG (pc := 46) d91_46 rfl (x_put_l hG (pc := 53) d91_53 mo91 f7_25 (by decide) (am_c_aload_n hG (pc := 56) d91_56 rfl (am_c_dup hG (pc := 57) d91_57 rfl (x_get_n (v := .inr (.inl ((am_up (am_up μ o 3 a) o 4 a) o 2))) hG (pc := 58) d91_58 mo91 f7_18 rfl (am_c_lload_n hG (pc := 61) d91_61 rfl (am_c_ladd hG (pc := 62) d91_62 (x_put_l hG (pc := 63) d91_63 mo91 f7_18 (by decide) (am_c_aload_n hG (pc := 66) d91_66 rfl (am_c_dup hG (pc := 67) d91_67 rfl (x_get_n (v := .inl ((am_up (am_up (am_up μ o 3 a) o 4 a) o 2 (w64 (((am_up (am_up μ o 3 a) o 4 a) o 2) + a))) o 1)) hG (pc := 68) d91_68 mo91 f7_15 rfl (am_c_iconst hG (pc := 71) d91_71 (by decide) (am_c_iadd hG (pc := 72) d91_72 (x_put_i hG (pc := 73) d91_73 mo91 f7_15 (by decide) (x_vret hG (by decide) hr (pc := 76) d91_76 rk91 h))))))))))))))))) (fun h => (am_c_lload_n hG (pc := 36) d91_36 rfl (am_c_aload_n hG (pc := 37) d91_37 rfl (x_get_n (v := .inr (.inl ((am_up μ o 3 a) o 4))) hG (pc := 38) d91_38 mo91 f7_25 rfl (am_c_lcmp hG (pc := 41) d91_41 (x_if_le (tgt := 49) hG (pc := 42) d91_42 rfl h (fun h => (am_c_aload_n hG (pc := 49) d91_49 rfl (x_get_n (v := .inr (.inl ((am_up μ o 3 a) o 4))) hG (pc := 50) d91_50 mo91 f7_25 rfl (x_put_l hG (pc := 53) d91_53 mo91 f7_25 (by decide) (am_c_aload_n hG (pc := 56) d91_56 rfl (am_c_dup hG (pc := 57) d91_57 rfl (x_get_n (v := .inr (.inl ((am_up (am_up μ o 3 a) o 4 ((am_up μ o 3 a) o 4)) o 2))) hG (pc := 58) d91_58 mo91 f7_18 rfl (am_c_lload_n hG (pc := 61) d91_61 rfl (am_c_ladd hG (pc := 62) d91_62 (x_put_l hG (pc := 63) d91_63 mo91 f7_18 (by decide) (am_c_aload_n hG (pc := 66) d91_66 rfl (am_c_dup hG (pc := 67) d91_67 rfl (x_get_n (v := .inl ((am_up (am_up (am_up μ o 3 a) o 4 ((am_up μ o 3 a) o 4)) o 2 (w64 (((am_up (am_up μ o 3 a) o 4 ((am_up μ o 3 a) o 4)) o 2) + a))) o 1)) hG (pc := 68) d91_68 mo91 f7_15 rfl (am_c_iconst hG (pc := 71) d91_71 (by decide) (am_c_iadd hG (pc := 72) d91_72 (x_put_i hG (pc := 73) d91_73 mo91 f7_15 (by decide) (x_vret hG (by decide) hr (pc := 76) d91_76 rk91 h))))))))))))))))) (fun h => (am_c_lload_n hG (pc := 45) d91_45 rfl (x_goto (tgt := 53) hG (pc := 46) d91_46 rfl (x_put_l hG (pc := 53) d91_53 mo91 f7_25 (by decide) (am_c_aload_n hG (pc := 56) d91_56 rfl (am_c_dup hG (pc := 57) d91_57 rfl (x_get_n (v := .inr (.inl ((am_up (am_up μ o 3 a) o 4 a) o 2))) hG (pc := 58) d91_58 mo91 f7_18 rfl (am_c_lload_n hG (pc := 61) d91_61 rfl (am_c_ladd hG (pc := 62) d91_62 (x_put_l hG (pc := 63) d91_63 mo91 f7_18 (by decide) (am_c_aload_n hG (pc := 66) d91_66 rfl (am_c_dup hG (pc := 67) d91_67 rfl (x_get_n (v := .inl ((am_up (am_up (am_up μ o 3 a) o 4 a) o 2 (w64 (((am_up (am_up μ o 3 a) o 4 a) o 2) + a))) o 1)) hG (pc := 68) d91_68 mo91 f7_15 rfl (am_c_iconst hG (pc := 71) d91_71 (by decide) (am_c_iadd hG (pc := 72) d91_72 (x_put_i hG (pc := 73) d91_73 mo91 f7_15 (by decide) (x_vret hG (by decide) hr (pc := 76) d91_76 rk91 h))))))))))))))))))))))))))))))) (fun h => (am_c_lload_n hG (pc := 8) d91_8 rfl (am_c_aload_n hG (pc := 9) d91_9 rfl (x_get_n (v := .inr (.inl (μ o 3))) hG (pc := 10) d91_10 mo91 f7_22 rfl (am_c_lcmp hG (pc := 13) d91_13 (x_if_ge (tgt := 21) hG (pc := 14) d91_14 rfl h (fun h => (am_c_aload_n hG (pc := 21) d91_21 rfl (x_get_n (v := .inr (.inl (μ o 3))) hG (pc := 22) d91_22 mo91 f7_22 rfl (x_put_l hG (pc := 25) d91_25 mo91 f7_22 (by decide) (am_c_aload_n hG (pc := 28) d91_28 rfl (am_c_aload_n hG (pc := 29) d91_29 rfl (x_get_n (v := .inl ((am_up μ o 3 (μ o 3)) o 1)) hG (pc := 30) d91_30 mo91 f7_15 rfl (x_if_eq (tgt := 45) hG (pc := 33) d91_33 rfl h (fun h => (am_c_lload_n hG (pc := 45) d91_45 rfl (x_goto (tgt := 53) hG (pc := 46) d91_46 rfl (x_put_l hG (pc := 53) d91_53 mo91 f7_25 (by decide) (am_c_aload_n hG (pc := 56) d91_56 rfl (am_c_dup hG (pc := 57) d91_57 rfl (x_get_n (v := .inr (.inl ((am_up (am_up μ o 3 (μ o 3)) o 4 a) o 2))) hG (pc := 58) d91_58 mo91 f7_18 rfl (am_c_lload_n hG (pc := 61) d91_61 rfl (am_c_ladd hG (pc := 62) d91_62 (x_put_l hG (pc := 63) d91_63 mo91 f7_18 (by decide) (am_c_aload_n hG (pc := 66) d91_66 rfl (am_c_dup hG (pc := 67) d91_67 rfl (x_get_n (v := .inl ((am_up (am_up (am_up μ o 3 (μ o 3)) o 4 a) o 2 (w64 (((am_up (am_up μ o 3 (μ o 3)) o 4 a) o 2) + a))) o 1)) hG (pc := 68) d91_68 mo91 f7_15 rfl (am_c_iconst hG (pc := 71) d91_71 (by decide) (am_c_iadd hG (pc := 72) d91_72 (x_put_i hG (pc := 73) d91_73 mo91 f7_15 (by decide) (x_vret hG (by decide) hr (pc := 76) d91_76 rk91 h))))))))))))))))) (fun h => (am_c_lload_n hG (pc := 36) d91_36 rfl (am_c_aload_n hG (pc := 37) d91_37 rfl (x_get_n (v := .inr (.inl ((am_up μ o 3 (μ o 3)) o 4))) hG (pc := 38) d91_38 mo91 f7_25 rfl (am_c_lcmp hG (pc := 41) d91_41 (x_if_le (tgt := 49) hG (pc := 42) d91_42 rfl h (fun h => (am_c_aload_n hG (pc := 49) d91_49 rfl (x_get_n (v := .inr (.inl ((am_up μ o 3 (μ o 3)) o 4))) hG (pc := 50) d91_50 mo91 f7_25 rfl (x_put_l hG (pc := 53) d91_53 mo91 f7_25 (by decide) (am_c_aload_n hG (pc := 56) d91_56 rfl (am_c_dup hG (pc := 57) d91_57 rfl (x_get_n (v := .inr (.inl ((am_up (am_up μ o 3 (μ o 3)) o 4 ((am_up μ o 3 (μ o 3)) o 4)) o 2))) hG (pc := 58) d91_58 mo91 f7_18 rfl (am_c_lload_n hG (pc := 61) d91_61 rfl (am_c_ladd hG (pc := 62) d91_62 (x_put_l hG (pc := 63) d91_63 mo91 f7_18 (by decide) (am_c_aload_n hG (pc := 66) d91_66 rfl (am_c_dup hG (pc := 67) d91_67 rfl (x_get_n (v := .inl ((am_up (am_up (am_up μ o 3 (μ o 3)) o 4 ((am_up μ o 3 (μ o 3)) o 4)) o 2 (w64 (((am_up (am_up μ o 3 (μ o 3)) o 4 ((am_up μ o 3 (μ o 3)) o 4)) o 2) + a))) o 1)) hG (pc := 68) d91_68 mo91 f7_15 rfl (am_c_iconst hG (pc := 71) d91_71 (by decide) (am_c_iadd hG (pc := 72) d91_72 (x_put_i hG (pc := 73) d91_73 mo91 f7_15 (by decide) (x_vret hG (by decide) hr (pc := 76) d91_76 rk91 h))))))))))))))))) (fun h => (am_c_lload_n hG (pc := 45) d91_45 rfl (x_goto (tgt := 53) hG (pc := 46) d91_46 rfl (x_put_l hG (pc := 53) d91_53 mo91 f7_25 (by decide) (am_c_aload_n hG (pc := 56) d91_56 rfl (am_c_dup hG (pc := 57) d91_57 rfl (x_get_n (v := .inr (.inl ((am_up (am_up μ o 3 (μ o 3)) o 4 a) o 2))) hG (pc := 58) d91_58 mo91 f7_18 rfl (am_c_lload_n hG (pc := 61) d91_61 rfl (am_c_ladd hG (pc := 62) d91_62 (x_put_l hG (pc := 63) d91_63 mo91 f7_18 (by decide) (am_c_aload_n hG (pc := 66) d91_66 rfl (am_c_dup hG (pc := 67) d91_67 rfl (x_get_n (v := .inl ((am_up (am_up (am_up μ o 3 (μ o 3)) o 4 a) o 2 (w64 (((am_up (am_up μ o 3 (μ o 3)) o 4 a) o 2) + a))) o 1)) hG (pc := 68) d91_68 mo91 f7_15 rfl (am_c_iconst hG (pc := 71) d91_71 (by decide) (am_c_iadd hG (pc := 72) d91_72 (x_put_i hG (pc := 73) d91_73 mo91 f7_15 (by decide) (x_vret hG (by decide) hr (pc := 76) d91_76 rk91 h))))))))))))))))))))))))))))))) (fun h => (am_c_lload_n hG (pc := 17) d91_17 rfl (x_goto (tgt := 25) hG (pc := 18) d91_18 rfl (x_put_l hG (pc := 25) d91_25 mo91 f7_22 (by decide) (am_c_aload_n hG (pc := 28) d91_28 rfl (am_c_aload_n hG (pc := 29) d91_29 rfl (x_get_n (v := .inl ((am_up μ o 3 a) o 1)) hG (pc := 30) d91_30 mo91 f7_15 rfl (x_if_eq (tgt := 45) hG (pc := 33) d91_33 rfl h (fun h => (am_c_lload_n hG (pc := 45) d91_45 rfl (x_goto (tgt := 53) hG (pc := 46) d91_46 rfl (x_put_l hG (pc := 53) d91_53 mo91 f7_25 (by decide) (am_c_aload_n hG (pc := 56) d91_56 rfl (am_c_dup hG (pc := 57) d91_57 rfl (x_get_n (v := .inr (.inl ((am_up (am_up μ o 3 a) o 4 a) o 2))) hG (pc := 58) d91_58 mo91 f7_18 rfl (am_c_lload_n hG (pc := 61) d91_61 rfl (am_c_ladd hG (pc := 62) d91_62 (x_put_l hG (pc := 63) d91_63 mo91 f7_18 (by decide) (am_c_aload_n hG (pc := 66) d91_66 rfl (am_c_dup hG (pc := 67) d91_67 rfl (x_get_n (v := .inl ((am_up (am_up (am_up μ o 3 a) o 4 a) o 2 (w64 (((am_up (am_up μ o 3 a) o 4 a) o 2) + a))) o 1)) hG (pc := 68) d91_68 mo91 f7_15 rfl (am_c_iconst hG (pc := 71) d91_71 (by decide) (am_c_iadd hG (pc := 72) d91_72 (x_put_i hG (pc := 73) d91_73 mo91 f7_15 (by decide) (x_vret hG (by decide) hr (pc := 76) d91_76 rk91 h))))))))))))))))) (fun h => (am_c_lload_n hG (pc := 36) d91_36 rfl (am_c_aload_n hG (pc := 37) d91_37 rfl (x_get_n (v := .inr (.inl ((am_up μ o 3 a) o 4))) hG (pc := 38) d91_38 mo91 f7_25 rfl (am_c_lcmp hG (pc := 41) d91_41 (x_if_le (tgt := 49) hG (pc := 42) d91_42 rfl h (fun h => (am_c_aload_n hG (pc := 49) d91_49 rfl (x_get_n (v := .inr (.inl ((am_up μ o 3 a) o 4))) hG (pc := 50) d91_50 mo91 f7_25 rfl (x_put_l hG (pc := 53) d91_53 mo91 f7_25 (by decide) (am_c_aload_n hG (pc := 56) d91_56 rfl (am_c_dup hG (pc := 57) d91_57 rfl (x_get_n (v := .inr (.inl ((am_up (am_up μ o 3 a) o 4 ((am_up μ o 3 a) o 4)) o 2))) hG (pc := 58) d91_58 mo91 f7_18 rfl (am_c_lload_n hG (pc := 61) d91_61 rfl (am_c_ladd hG (pc := 62) d91_62 (x_put_l hG (pc := 63) d91_63 mo91 f7_18 (by decide) (am_c_aload_n hG (pc := 66) d91_66 rfl (am_c_dup hG (pc := 67) d91_67 rfl (x_get_n (v := .inl ((am_up (am_up (am_up μ o 3 a) o 4 ((am_up μ o 3 a) o 4)) o 2 (w64 (((am_up (am_up μ o 3 a) o 4 ((am_up μ o 3 a) o 4)) o 2) + a))) o 1)) hG (pc := 68) d91_68 mo91 f7_15 rfl (am_c_iconst hG (pc := 71) d91_71 (by decide) (am_c_iadd hG (pc := 72) d91_72 (x_put_i hG (pc := 73) d91_73 mo91 f7_15 (by decide) (x_vret hG (by decide) hr (pc := 76) d91_76 rk91 h))))))))))))))))) (fun h => (am_c_lload_n hG (pc := 45) d91_45 rfl (x_goto (tgt := 53) hG (pc := 46) d91_46 rfl (x_put_l hG (pc := 53) d91_53 mo91 f7_25 (by decide) (am_c_aload_n hG (pc := 56) d91_56 rfl (am_c_dup hG (pc := 57) d91_57 rfl (x_get_n (v := .inr (.inl ((am_up (am_up μ o 3 a) o 4 a) o 2))) hG (pc := 58) d91_58 mo91 f7_18 rfl (am_c_lload_n hG (pc := 61) d91_61 rfl (am_c_ladd hG (pc := 62) d91_62 (x_put_l hG (pc := 63) d91_63 mo91 f7_18 (by decide) (am_c_aload_n hG (pc := 66) d91_66 rfl (am_c_dup hG (pc := 67) d91_67 rfl (x_get_n (v := .inl ((am_up (am_up (am_up μ o 3 a) o 4 a) o 2 (w64 (((am_up (am_up μ o 3 a) o 4 a) o 2) + a))) o 1)) hG (pc := 68) d91_68 mo91 f7_15 rfl (am_c_iconst hG (pc := 71) d91_71 (by decide) (am_c_iadd hG (pc := 72) d91_72 (x_put_i hG (pc := 73) d91_73 mo91 f7_15 (by decide) (x_vret hG (by decide) hr (pc := 76) d91_76 rk91 h))))))))))))))))))))))))))))))))))))))))))
/-! ChartPress$Groups.addToTally(LChartPress$Table;II)V -/
theorem D92 (k : Nat) {pc : Nat} {i : Instr} (h : tbi92[k]? = some (pc, i)) (hs : am_isw i = false) {n : Nat} (hn : am_il i = n) : decode (am_mc 92) pc = .ok (i, n) := am_d2 (by decide) (by decide) rfl h hs hn
theorem d92_0 : decode (am_mc 92) 0 = .ok (.aload_n 0, 1) := D92 0 rfl rfl rfl
theorem d92_1 : decode (am_mc 92) 1 = .ok (.getfield 46, 3) := D92 1 rfl rfl rfl
theorem d92_4 : decode (am_mc 92) 4 = .ok (.invokevirtual 135, 3) := D92 2 rfl rfl rfl
theorem d92_7 : decode (am_mc 92) 7 = .ok (.iload_n 2, 1) := D92 3 rfl rfl rfl
theorem d92_8 : decode (am_mc 92) 8 = .ok (.iconst (-1), 1) := D92 4 rfl rfl rfl
theorem d92_9 : decode (am_mc 92) 9 = .ok (.if_icmp .eq 25, 3) := D92 5 rfl rfl rfl
theorem d92_12 : decode (am_mc 92) 12 = .ok (.aload_n 1, 1) := D92 6 rfl rfl rfl
theorem d92_13 : decode (am_mc 92) 13 = .ok (.iload_n 3, 1) := D92 7 rfl rfl rfl
theorem d92_14 : decode (am_mc 92) 14 = .ok (.iload_n 2, 1) := D92 8 rfl rfl rfl
theorem d92_15 : decode (am_mc 92) 15 = .ok (.invokevirtual 138, 3) := D92 9 rfl rfl rfl
theorem d92_18 : decode (am_mc 92) 18 = .ok (.ifCond .ne 16, 3) := D92 10 rfl rfl rfl
theorem d92_21 : decode (am_mc 92) 21 = .ok (.aload_n 0, 1) := D92 11 rfl rfl rfl
theorem d92_22 : decode (am_mc 92) 22 = .ok (.getfield 46, 3) := D92 12 rfl rfl rfl
theorem d92_25 : decode (am_mc 92) 25 = .ok (.aload_n 1, 1) := D92 13 rfl rfl rfl
theorem d92_26 : decode (am_mc 92) 26 = .ok (.iload_n 3, 1) := D92 14 rfl rfl rfl
theorem d92_27 : decode (am_mc 92) 27 = .ok (.iload_n 2, 1) := D92 15 rfl rfl rfl
theorem d92_28 : decode (am_mc 92) 28 = .ok (.invokevirtual 142, 3) := D92 16 rfl rfl rfl
theorem d92_31 : decode (am_mc 92) 31 = .ok (.invokevirtual 146, 3) := D92 17 rfl rfl rfl
theorem d92_34 : decode (am_mc 92) 34 = .ok (.return_, 1) := D92 18 rfl rfl rfl
theorem ml92 : ∀ n, n < 4 → n < am_ml 92 := fun _ h => h
theorem mo92 : am_mo 92 = 6 := by decide +kernel
theorem rk92 : am_rk 92 = 0 := by decide +kernel
theorem rg92 : am_rcg 92 = 7 := by decide +kernel
theorem f6_46 : tb_f 6 46 = some (6, 8, 5, 7) := by decide +kernel
theorem m6_135 : tb_m 6 135 = some (90, 1, 0, 0) := by decide +kernel
theorem m6_138 : tb_m 6 138 = some (79, 3, 1, 0) := by decide +kernel
theorem m6_142 : tb_m 6 142 = some (80, 3, 2, 0) := by decide +kernel
theorem m6_146 : tb_m 6 146 = some (91, 2, 0, 0) := by decide +kernel
theorem dp92_79 : am_md 79 + 1 ≤ am_md 92 ∧ 8 + (am_ml 79 + 11) + am_lr 79 ≤ am_lr 92 := by decide +kernel
theorem dp92_80 : am_md 80 + 1 ≤ am_md 92 ∧ 8 + (am_ml 80 + 11) + am_lr 80 ≤ am_lr 92 := by decide +kernel
theorem dp92_90 : am_md 90 + 1 ≤ am_md 92 ∧ 8 + (am_ml 90 + 11) + am_lr 90 ≤ am_lr 92 := by decide +kernel
theorem dp92_91 : am_md 91 + 1 ≤ am_md 92 ∧ 8 + (am_ml 91 + 11) + am_lr 91 ≤ am_lr 92 := by decide +kernel
def fn92 (o : Nat) (a : Nat) (b : Int) (c : Int) (μ : am_M) : Option (Int × am_M) := (am_op (fn90 (am_ref o 8) μ) (fun z1 => (if b = (-1) then some (0, z1.2) else (am_op (fn79 a c b z1.2) (fun z2 => (if z2.1 = 0 then (am_op (fn80 a c b z2.2) (fun z3 => (am_op (fn91 (am_ref o 8) z3.1 z3.2) (fun z4 => some (0, z4.2))))) else some (0, z2.2)))))))
def sp92 : am_F := fun vs μ => am_aR 6 vs fun o vs => am_aR 2 vs fun a vs => am_aI vs fun b vs => am_aI vs fun c vs => am_a0 vs (fn92 o a b c μ)
theorem e92 (o : Nat) (a : Nat) (b : Int) (c : Int) (μ : am_M) : sp92 [.inr (.inr (6, o)), .inr (.inr (2, a)), .inl b, .inl c] μ = fn92 o a b c μ := by simp only [sp92, am_aR_c, am_aI_c, am_aJ_c, am_a0_c]
theorem sd92 : am_Sd 92 sp92 := by
  refine am_Sd_of (by decide) (fun vs μ μ' x h hv hM => ?_)
  obtain ⟨o, vs0, rfl, h0⟩ := am_aR_s h
  obtain ⟨a, vs1, rfl, h1⟩ := am_aR_s h0
  obtain ⟨b, vs2, rfl, h2⟩ := am_aI_s h1
  obtain ⟨c, vs3, rfl, h3⟩ := am_aI_s h2
  obtain ⟨rfl, hz⟩ := am_a0_s h3
  refine ⟨Nat.le_of_ble_eq_true rfl, fun X C hG hr => ?_⟩
  have h := hz
  unfold fn92 at h
  exact (show am_W X C 92 _ 0 0 0 [(0, .inr (.inr (6, o))), (1, .inr (.inr (2, a))), (2, .inl b), (3, .inl c)] [] μ from (am_c_aload_n hG (pc := 0) d92_0 rfl (x_get_n (v := .inr (.inr (7, am_ref o 8))) hG (pc := 1) d92_1 mo92 f6_46 rfl (x_virtual_v (t := 7) (o := am_ref o 8) (as2 := []) (rest := []) hG (pc := 4) d92_4 mo92 m6_135 (by decide) dp92_90 rfl rfl (Nat.le_of_ble_eq_true rfl) (Nat.le_of_ble_eq_true rfl) rg90 sd90 (e90 _ _) h (fun z1 h => (am_c_iload_n hG (pc := 7) d92_7 rfl (am_c_iconst hG (pc := 8) d92_8 (by decide) (x_icmp_eq (tgt := 34) hG (pc := 9) d92_9 rfl h (fun h => (x_vret hG (by decide) hr (pc := 34) d92_34 rk92 h)) (fun h => (am_c_aload_n hG (pc := 12) d92_12 rfl (am_c_iload_n hG (pc := 13) d92_13 rfl (am_c_iload_n hG (pc := 14) d92_14 rfl (x_virtual_i (t := 2) (o := a) (as2 := [.inl c, .inl b]) (rest := []) hG (pc := 15) d92_15 mo92 m6_138 (by decide) dp92_79 rfl rfl (Nat.le_of_ble_eq_true rfl) (Nat.le_of_ble_eq_true rfl) rg79 sd79 (e79 _ _ _ _) h (fun z2 h => (x_if_ne (tgt := 34) hG (pc := 18) d92_18 rfl h (fun h => (x_vret hG (by decide) hr (pc := 34) d92_34 rk92 h)) (fun h => (am_c_aload_n hG (pc := 21) d92_21 rfl (x_get_n (v := .inr (.inr (7, am_ref o 8))) hG (pc := 22) d92_22 mo92 f6_46 rfl (am_c_aload_n hG (pc := 25) d92_25 rfl (am_c_iload_n hG (pc := 26) d92_26 rfl (am_c_iload_n hG (pc := 27) d92_27 rfl (x_virtual_l (t := 2) (o := a) (as2 := [.inl c, .inl b]) (rest := [.inr (.inr (7, am_ref o 8))]) hG (pc := 28) d92_28 mo92 m6_142 (by decide) dp92_80 rfl rfl (Nat.le_of_ble_eq_true rfl) (Nat.le_of_ble_eq_true rfl) rg80 sd80 (e80 _ _ _ _) h (fun z3 h => (x_virtual_v (t := 7) (o := am_ref o 8) (as2 := [.inr (.inl z3.1)]) (rest := []) hG (pc := 31) d92_31 mo92 m6_146 (by decide) dp92_91 rfl rfl (Nat.le_of_ble_eq_true rfl) (Nat.le_of_ble_eq_true rfl) rg91 sd91 (e91 _ _ _) h (fun z4 h => (x_vret hG (by decide) hr (pc := 34) d92_34 rk92 h))))))))))))))))))))))))))
/-! ChartPress$Request.measure()I -/
theorem D93 (k : Nat) {pc : Nat} {i : Instr} (h : tbi93[k]? = some (pc, i)) (hs : am_isw i = false) {n : Nat} (hn : am_il i = n) : decode (am_mc 93) pc = .ok (i, n) := am_d2 (by decide) (by decide) rfl h hs hn
theorem d93_0 : decode (am_mc 93) 0 = .ok (.aload_n 0, 1) := D93 0 rfl rfl rfl
theorem d93_1 : decode (am_mc 93) 1 = .ok (.getfield 74, 3) := D93 1 rfl rfl rfl
theorem d93_4 : decode (am_mc 93) 4 = .ok (.ireturn, 1) := D93 2 rfl rfl rfl
theorem ml93 : ∀ n, n < 1 → n < am_ml 93 := fun _ h => h
theorem mo93 : am_mo 93 = 4 := by decide +kernel
theorem mr93 : am_mr 93 = some .int := by decide +kernel
theorem rg93 : am_rcg 93 = 5 := by decide +kernel
def fn93 (o : Nat) (μ : am_M) : Option (Int × am_M) := some (μ o 7, μ)
def sp93 : am_F := fun vs μ => am_aR 4 vs fun o vs => am_a0 vs (fn93 o μ)
theorem e93 (o : Nat) (μ : am_M) : sp93 [.inr (.inr (4, o))] μ = fn93 o μ := by simp only [sp93, am_aR_c, am_aI_c, am_aJ_c, am_a0_c]
theorem sd93 : am_Sd 93 sp93 := by
  refine am_Sd_of (by decide) (fun vs μ μ' x h hv hM => ?_)
  obtain ⟨o, vs0, rfl, h0⟩ := am_aR_s h
  obtain ⟨rfl, hz⟩ := am_a0_s h0
  refine ⟨Nat.le_of_ble_eq_true rfl, fun X C hG hr => ?_⟩
  have h := hz
  unfold fn93 at h
  exact (show am_W X C 93 _ 0 0 0 [(0, .inr (.inr (4, o)))] [] μ from (am_c_aload_n hG (pc := 0) d93_0 rfl (x_get_n (v := .inl (μ o 7)) hG (pc := 1) d93_1 mo93 f4_74 rfl (x_iret hG (by decide) hr (pc := 4) d93_4 mr93 h))))
/-! ChartPress$Tally.has(I)Z -/
theorem D95 (k : Nat) {pc : Nat} {i : Instr} (h : tbi95[k]? = some (pc, i)) (hs : am_isw i = false) {n : Nat} (hn : am_il i = n) : decode (am_mc 95) pc = .ok (i, n) := am_d2 (by decide) (by decide) rfl h hs hn
theorem d95_0 : decode (am_mc 95) 0 = .ok (.iload_n 1, 1) := D95 0 rfl rfl rfl
theorem d95_1 : decode (am_mc 95) 1 = .ok (.ifCond .eq 15, 3) := D95 1 rfl rfl rfl
theorem d95_4 : decode (am_mc 95) 4 = .ok (.iload_n 1, 1) := D95 2 rfl rfl rfl
theorem d95_5 : decode (am_mc 95) 5 = .ok (.iconst 1, 1) := D95 3 rfl rfl rfl
theorem d95_6 : decode (am_mc 95) 6 = .ok (.if_icmp .eq 10, 3) := D95 4 rfl rfl rfl
theorem d95_9 : decode (am_mc 95) 9 = .ok (.aload_n 0, 1) := D95 5 rfl rfl rfl
theorem d95_10 : decode (am_mc 95) 10 = .ok (.getfield 15, 3) := D95 6 rfl rfl rfl
theorem d95_13 : decode (am_mc 95) 13 = .ok (.ifCond .le 7, 3) := D95 7 rfl rfl rfl
theorem d95_16 : decode (am_mc 95) 16 = .ok (.iconst 1, 1) := D95 8 rfl rfl rfl
theorem d95_17 : decode (am_mc 95) 17 = .ok (.goto 4, 3) := D95 9 rfl rfl rfl
theorem d95_20 : decode (am_mc 95) 20 = .ok (.iconst 0, 1) := D95 10 rfl rfl rfl
theorem d95_21 : decode (am_mc 95) 21 = .ok (.ireturn, 1) := D95 11 rfl rfl rfl
theorem ml95 : ∀ n, n < 2 → n < am_ml 95 := fun _ h => h
theorem mo95 : am_mo 95 = 7 := by decide +kernel
theorem mr95 : am_mr 95 = some .boolean := by decide +kernel
theorem rg95 : am_rcg 95 = 8 := by decide +kernel
def fn95 (o : Nat) (a : Int) (μ : am_M) : Option (Int × am_M) := (if a = 0 then some (1, μ) else (if a = 1 then some (1, μ) else (if 0 < μ o 1 then some (1, μ) else some (0, μ))))
def sp95 : am_F := fun vs μ => am_aR 7 vs fun o vs => am_aI vs fun a vs => am_a0 vs (fn95 o a μ)
theorem e95 (o : Nat) (a : Int) (μ : am_M) : sp95 [.inr (.inr (7, o)), .inl a] μ = fn95 o a μ := by simp only [sp95, am_aR_c, am_aI_c, am_aJ_c, am_a0_c]
theorem sd95 : am_Sd 95 sp95 := by
  refine am_Sd_of (by decide) (fun vs μ μ' x h hv hM => ?_)
  obtain ⟨o, vs0, rfl, h0⟩ := am_aR_s h
  obtain ⟨a, vs1, rfl, h1⟩ := am_aI_s h0
  obtain ⟨rfl, hz⟩ := am_a0_s h1
  refine ⟨Nat.le_of_ble_eq_true rfl, fun X C hG hr => ?_⟩
  have h := hz
  unfold fn95 at h
  exact (show am_W X C 95 _ 0 0 0 [(0, .inr (.inr (7, o))), (1, .inl a)] [] μ from (am_c_iload_n hG (pc := 0) d95_0 rfl (x_if_eq (tgt := 16) hG (pc := 1) d95_1 rfl h (fun h => (am_c_iconst hG (pc := 16) d95_16 (by decide) (x_goto (tgt := 21) hG (pc := 17) d95_17 rfl (x_zret1 hG (by decide) hr (pc := 21) d95_21 mr95 h)))) (fun h => (am_c_iload_n hG (pc := 4) d95_4 rfl (am_c_iconst hG (pc := 5) d95_5 (by decide) (x_icmp_eq (tgt := 16) hG (pc := 6) d95_6 rfl h (fun h => (am_c_iconst hG (pc := 16) d95_16 (by decide) (x_goto (tgt := 21) hG (pc := 17) d95_17 rfl (x_zret1 hG (by decide) hr (pc := 21) d95_21 mr95 h)))) (fun h => (am_c_aload_n hG (pc := 9) d95_9 rfl (x_get_n (v := .inl (μ o 1)) hG (pc := 10) d95_10 mo95 f7_15 rfl (x_if_le (tgt := 20) hG (pc := 13) d95_13 rfl h (fun h => (am_c_iconst hG (pc := 20) d95_20 (by decide) (x_zret0 hG (by decide) hr (pc := 21) d95_21 mr95 h))) (fun h => (am_c_iconst hG (pc := 16) d95_16 (by decide) (x_goto (tgt := 21) hG (pc := 17) d95_17 rfl (x_zret1 hG (by decide) hr (pc := 21) d95_21 mr95 h)))))))))))))))
/-! ChartPress$Request.direction()I -/
theorem D98 (k : Nat) {pc : Nat} {i : Instr} (h : tbi98[k]? = some (pc, i)) (hs : am_isw i = false) {n : Nat} (hn : am_il i = n) : decode (am_mc 98) pc = .ok (i, n) := am_d2 (by decide) (by decide) rfl h hs hn
theorem d98_0 : decode (am_mc 98) 0 = .ok (.aload_n 0, 1) := D98 0 rfl rfl rfl
theorem d98_1 : decode (am_mc 98) 1 = .ok (.getfield 80, 3) := D98 1 rfl rfl rfl
theorem d98_4 : decode (am_mc 98) 4 = .ok (.ireturn, 1) := D98 2 rfl rfl rfl
theorem ml98 : ∀ n, n < 1 → n < am_ml 98 := fun _ h => h
theorem mo98 : am_mo 98 = 4 := by decide +kernel
theorem mr98 : am_mr 98 = some .int := by decide +kernel
theorem rg98 : am_rcg 98 = 5 := by decide +kernel
def fn98 (o : Nat) (μ : am_M) : Option (Int × am_M) := some (μ o 10, μ)
def sp98 : am_F := fun vs μ => am_aR 4 vs fun o vs => am_a0 vs (fn98 o μ)
theorem e98 (o : Nat) (μ : am_M) : sp98 [.inr (.inr (4, o))] μ = fn98 o μ := by simp only [sp98, am_aR_c, am_aI_c, am_aJ_c, am_a0_c]
theorem sd98 : am_Sd 98 sp98 := by
  refine am_Sd_of (by decide) (fun vs μ μ' x h hv hM => ?_)
  obtain ⟨o, vs0, rfl, h0⟩ := am_aR_s h
  obtain ⟨rfl, hz⟩ := am_a0_s h0
  refine ⟨Nat.le_of_ble_eq_true rfl, fun X C hG hr => ?_⟩
  have h := hz
  unfold fn98 at h
  exact (show am_W X C 98 _ 0 0 0 [(0, .inr (.inr (4, o)))] [] μ from (am_c_aload_n hG (pc := 0) d98_0 rfl (x_get_n (v := .inl (μ o 10)) hG (pc := 1) d98_1 mo98 f4_80 rfl (x_iret hG (by decide) hr (pc := 4) d98_4 mr98 h))))
/-! ChartPress$Groups.count()I -/
theorem D101 (k : Nat) {pc : Nat} {i : Instr} (h : tbi101[k]? = some (pc, i)) (hs : am_isw i = false) {n : Nat} (hn : am_il i = n) : decode (am_mc 101) pc = .ok (i, n) := am_d2 (by decide) (by decide) rfl h hs hn
theorem d101_0 : decode (am_mc 101) 0 = .ok (.aload_n 0, 1) := D101 0 rfl rfl rfl
theorem d101_1 : decode (am_mc 101) 1 = .ok (.getfield 69, 3) := D101 1 rfl rfl rfl
theorem d101_4 : decode (am_mc 101) 4 = .ok (.ireturn, 1) := D101 2 rfl rfl rfl
theorem ml101 : ∀ n, n < 1 → n < am_ml 101 := fun _ h => h
theorem mo101 : am_mo 101 = 6 := by decide +kernel
theorem mr101 : am_mr 101 = some .int := by decide +kernel
theorem rg101 : am_rcg 101 = 7 := by decide +kernel
theorem f6_69 : tb_f 6 69 = some (6, 11, 0, 0) := by decide +kernel
def fn101 (o : Nat) (μ : am_M) : Option (Int × am_M) := some (μ o 11, μ)
def sp101 : am_F := fun vs μ => am_aR 6 vs fun o vs => am_a0 vs (fn101 o μ)
theorem e101 (o : Nat) (μ : am_M) : sp101 [.inr (.inr (6, o))] μ = fn101 o μ := by simp only [sp101, am_aR_c, am_aI_c, am_aJ_c, am_a0_c]
theorem sd101 : am_Sd 101 sp101 := by
  refine am_Sd_of (by decide) (fun vs μ μ' x h hv hM => ?_)
  obtain ⟨o, vs0, rfl, h0⟩ := am_aR_s h
  obtain ⟨rfl, hz⟩ := am_a0_s h0
  refine ⟨Nat.le_of_ble_eq_true rfl, fun X C hG hr => ?_⟩
  have h := hz
  unfold fn101 at h
  exact (show am_W X C 101 _ 0 0 0 [(0, .inr (.inr (6, o)))] [] μ from (am_c_aload_n hG (pc := 0) d101_0 rfl (x_get_n (v := .inl (μ o 11)) hG (pc := 1) d101_1 mo101 f6_69 rfl (x_iret hG (by decide) hr (pc := 4) d101_4 mr101 h))))
/-! ChartPress$Request.mark()I -/
theorem D102 (k : Nat) {pc : Nat} {i : Instr} (h : tbi102[k]? = some (pc, i)) (hs : am_isw i = false) {n : Nat} (hn : am_il i = n) : decode (am_mc 102) pc = .ok (i, n) := am_d2 (by decide) (by decide) rfl h hs hn
theorem d102_0 : decode (am_mc 102) 0 = .ok (.aload_n 0, 1) := D102 0 rfl rfl rfl
theorem d102_1 : decode (am_mc 102) 1 = .ok (.getfield 68, 3) := D102 1 rfl rfl rfl
theorem d102_4 : decode (am_mc 102) 4 = .ok (.ireturn, 1) := D102 2 rfl rfl rfl
theorem ml102 : ∀ n, n < 1 → n < am_ml 102 := fun _ h => h
theorem mo102 : am_mo 102 = 4 := by decide +kernel
theorem mr102 : am_mr 102 = some .int := by decide +kernel
theorem rg102 : am_rcg 102 = 5 := by decide +kernel
def fn102 (o : Nat) (μ : am_M) : Option (Int × am_M) := some (μ o 5, μ)
def sp102 : am_F := fun vs μ => am_aR 4 vs fun o vs => am_a0 vs (fn102 o μ)
theorem e102 (o : Nat) (μ : am_M) : sp102 [.inr (.inr (4, o))] μ = fn102 o μ := by simp only [sp102, am_aR_c, am_aI_c, am_aJ_c, am_a0_c]
theorem sd102 : am_Sd 102 sp102 := by
  refine am_Sd_of (by decide) (fun vs μ μ' x h hv hM => ?_)
  obtain ⟨o, vs0, rfl, h0⟩ := am_aR_s h
  obtain ⟨rfl, hz⟩ := am_a0_s h0
  refine ⟨Nat.le_of_ble_eq_true rfl, fun X C hG hr => ?_⟩
  have h := hz
  unfold fn102 at h
  exact (show am_W X C 102 _ 0 0 0 [(0, .inr (.inr (4, o)))] [] μ from (am_c_aload_n hG (pc := 0) d102_0 rfl (x_get_n (v := .inl (μ o 5)) hG (pc := 1) d102_1 mo102 f4_68 rfl (x_iret hG (by decide) hr (pc := 4) d102_4 mr102 h))))
/-! ChartPress$Groups.series()I -/
theorem D103 (k : Nat) {pc : Nat} {i : Instr} (h : tbi103[k]? = some (pc, i)) (hs : am_isw i = false) {n : Nat} (hn : am_il i = n) : decode (am_mc 103) pc = .ok (i, n) := am_d2 (by decide) (by decide) rfl h hs hn
theorem d103_0 : decode (am_mc 103) 0 = .ok (.aload_n 0, 1) := D103 0 rfl rfl rfl
theorem d103_1 : decode (am_mc 103) 1 = .ok (.getfield 66, 3) := D103 1 rfl rfl rfl
theorem d103_4 : decode (am_mc 103) 4 = .ok (.ireturn, 1) := D103 2 rfl rfl rfl
theorem ml103 : ∀ n, n < 1 → n < am_ml 103 := fun _ h => h
theorem mo103 : am_mo 103 = 6 := by decide +kernel
theorem mr103 : am_mr 103 = some .int := by decide +kernel
theorem rg103 : am_rcg 103 = 7 := by decide +kernel
theorem f6_66 : tb_f 6 66 = some (6, 10, 0, 0) := by decide +kernel
def fn103 (o : Nat) (μ : am_M) : Option (Int × am_M) := some (μ o 10, μ)
def sp103 : am_F := fun vs μ => am_aR 6 vs fun o vs => am_a0 vs (fn103 o μ)
theorem e103 (o : Nat) (μ : am_M) : sp103 [.inr (.inr (6, o))] μ = fn103 o μ := by simp only [sp103, am_aR_c, am_aI_c, am_aJ_c, am_a0_c]
theorem sd103 : am_Sd 103 sp103 := by
  refine am_Sd_of (by decide) (fun vs μ μ' x h hv hM => ?_)
  obtain ⟨o, vs0, rfl, h0⟩ := am_aR_s h
  obtain ⟨rfl, hz⟩ := am_a0_s h0
  refine ⟨Nat.le_of_ble_eq_true rfl, fun X C hG hr => ?_⟩
  have h := hz
  unfold fn103 at h
  exact (show am_W X C 103 _ 0 0 0 [(0, .inr (.inr (6, o)))] [] μ from (am_c_aload_n hG (pc := 0) d103_0 rfl (x_get_n (v := .inl (μ o 10)) hG (pc := 1) d103_1 mo103 f6_66 rfl (x_iret hG (by decide) hr (pc := 4) d103_4 mr103 h))))
/-! ChartPress$Groups.numberOf(I)I -/
theorem D104 (k : Nat) {pc : Nat} {i : Instr} (h : tbi104[k]? = some (pc, i)) (hs : am_isw i = false) {n : Nat} (hn : am_il i = n) : decode (am_mc 104) pc = .ok (i, n) := am_d2 (by decide) (by decide) rfl h hs hn
theorem d104_0 : decode (am_mc 104) 0 = .ok (.iload_n 1, 1) := D104 0 rfl rfl rfl
theorem d104_1 : decode (am_mc 104) 1 = .ok (.ifCond .lt 29, 3) := D104 1 rfl rfl rfl
theorem d104_4 : decode (am_mc 104) 4 = .ok (.iload_n 1, 1) := D104 2 rfl rfl rfl
theorem d104_5 : decode (am_mc 104) 5 = .ok (.aload_n 0, 1) := D104 3 rfl rfl rfl
theorem d104_6 : decode (am_mc 104) 6 = .ok (.getfield 69, 3) := D104 4 rfl rfl rfl
theorem d104_9 : decode (am_mc 104) 9 = .ok (.if_icmp .ge 21, 3) := D104 5 rfl rfl rfl
theorem d104_12 : decode (am_mc 104) 12 = .ok (.iload_n 1, 1) := D104 6 rfl rfl rfl
theorem d104_13 : decode (am_mc 104) 13 = .ok (.aload_n 0, 1) := D104 7 rfl rfl rfl
theorem d104_14 : decode (am_mc 104) 14 = .ok (.getfield 40, 3) := D104 8 rfl rfl rfl
theorem d104_17 : decode (am_mc 104) 17 = .ok (.arraylength, 1) := D104 9 rfl rfl rfl
theorem d104_18 : decode (am_mc 104) 18 = .ok (.if_icmp .ge 12, 3) := D104 10 rfl rfl rfl
theorem d104_21 : decode (am_mc 104) 21 = .ok (.aload_n 0, 1) := D104 11 rfl rfl rfl
theorem d104_22 : decode (am_mc 104) 22 = .ok (.getfield 40, 3) := D104 12 rfl rfl rfl
theorem d104_25 : decode (am_mc 104) 25 = .ok (.iload_n 1, 1) := D104 13 rfl rfl rfl
theorem d104_26 : decode (am_mc 104) 26 = .ok (.iaload, 1) := D104 14 rfl rfl rfl
theorem d104_27 : decode (am_mc 104) 27 = .ok (.goto 4, 3) := D104 15 rfl rfl rfl
theorem d104_30 : decode (am_mc 104) 30 = .ok (.iconst 0, 1) := D104 16 rfl rfl rfl
theorem d104_31 : decode (am_mc 104) 31 = .ok (.ireturn, 1) := D104 17 rfl rfl rfl
theorem ml104 : ∀ n, n < 2 → n < am_ml 104 := fun _ h => h
theorem mo104 : am_mo 104 = 6 := by decide +kernel
theorem mr104 : am_mr 104 = some .int := by decide +kernel
theorem rg104 : am_rcg 104 = 7 := by decide +kernel
theorem f6_40 : tb_f 6 40 = some (6, 7, 5, 16) := by decide +kernel
def fn104 (o : Nat) (a : Int) (μ : am_M) : Option (Int × am_M) := (if a < 0 then some (0, μ) else (if a < μ o 11 then (if a < ((am_len (am_ref o 7) : Nat) : Int) then (if (0 : Int) ≤ a ∧ a < ((am_len (am_ref o 7) : Nat) : Int) then some (μ (am_ref o 7) (a : Int).toNat, μ) else none) else some (0, μ)) else some (0, μ)))
def sp104 : am_F := fun vs μ => am_aR 6 vs fun o vs => am_aI vs fun a vs => am_a0 vs (fn104 o a μ)
theorem e104 (o : Nat) (a : Int) (μ : am_M) : sp104 [.inr (.inr (6, o)), .inl a] μ = fn104 o a μ := by simp only [sp104, am_aR_c, am_aI_c, am_aJ_c, am_a0_c]
theorem sd104 : am_Sd 104 sp104 := by
  refine am_Sd_of (by decide) (fun vs μ μ' x h hv hM => ?_)
  obtain ⟨o, vs0, rfl, h0⟩ := am_aR_s h
  obtain ⟨a, vs1, rfl, h1⟩ := am_aI_s h0
  obtain ⟨rfl, hz⟩ := am_a0_s h1
  refine ⟨Nat.le_of_ble_eq_true rfl, fun X C hG hr => ?_⟩
  have h := hz
  unfold fn104 at h
  exact (show am_W X C 104 _ 0 0 0 [(0, .inr (.inr (6, o))), (1, .inl a)] [] μ from (am_c_iload_n hG (pc := 0) d104_0 rfl (x_if_lt (tgt := 30) hG (pc := 1) d104_1 rfl h (fun h => (am_c_iconst hG (pc := 30) d104_30 (by decide) (x_iret hG (by decide) hr (pc := 31) d104_31 mr104 h))) (fun h => (am_c_iload_n hG (pc := 4) d104_4 rfl (am_c_aload_n hG (pc := 5) d104_5 rfl (x_get_n (v := .inl (μ o 11)) hG (pc := 6) d104_6 mo104 f6_69 rfl (x_icmp_ge (tgt := 30) hG (pc := 9) d104_9 rfl h (fun h => (am_c_iconst hG (pc := 30) d104_30 (by decide) (x_iret hG (by decide) hr (pc := 31) d104_31 mr104 h))) (fun h => (am_c_iload_n hG (pc := 12) d104_12 rfl (am_c_aload_n hG (pc := 13) d104_13 rfl (x_get_n (v := .inr (.inr (16, am_ref o 7))) hG (pc := 14) d104_14 mo104 f6_40 rfl (am_c_len hG (pc := 17) d104_17 (by decide) (x_icmp_ge (tgt := 30) hG (pc := 18) d104_18 rfl h (fun h => (am_c_iconst hG (pc := 30) d104_30 (by decide) (x_iret hG (by decide) hr (pc := 31) d104_31 mr104 h))) (fun h => (am_c_aload_n hG (pc := 21) d104_21 rfl (x_get_n (v := .inr (.inr (16, am_ref o 7))) hG (pc := 22) d104_22 mo104 f6_40 rfl (am_c_iload_n hG (pc := 25) d104_25 rfl (x_iaload hG (pc := 26) d104_26 h (fun h => (x_goto (tgt := 31) hG (pc := 27) d104_27 rfl (x_iret hG (by decide) hr (pc := 31) d104_31 mr104 h))))))))))))))))))))))
/-! ChartPress$Groups.segment(II)J -/
theorem D105 (k : Nat) {pc : Nat} {i : Instr} (h : tbi105[k]? = some (pc, i)) (hs : am_isw i = false) {n : Nat} (hn : am_il i = n) : decode (am_mc 105) pc = .ok (i, n) := am_d2 (by decide) (by decide) rfl h hs hn
theorem d105_0 : decode (am_mc 105) 0 = .ok (.iload_n 2, 1) := D105 0 rfl rfl rfl
theorem d105_1 : decode (am_mc 105) 1 = .ok (.ifCond .lt 27, 3) := D105 1 rfl rfl rfl
theorem d105_4 : decode (am_mc 105) 4 = .ok (.iload_n 2, 1) := D105 2 rfl rfl rfl
theorem d105_5 : decode (am_mc 105) 5 = .ok (.bipush 12, 2) := D105 3 rfl rfl rfl
theorem d105_7 : decode (am_mc 105) 7 = .ok (.if_icmp .ge 21, 3) := D105 4 rfl rfl rfl
theorem d105_10 : decode (am_mc 105) 10 = .ok (.aload_n 0, 1) := D105 5 rfl rfl rfl
theorem d105_11 : decode (am_mc 105) 11 = .ok (.getfield 30, 3) := D105 6 rfl rfl rfl
theorem d105_14 : decode (am_mc 105) 14 = .ok (.aload_n 0, 1) := D105 7 rfl rfl rfl
theorem d105_15 : decode (am_mc 105) 15 = .ok (.iload_n 1, 1) := D105 8 rfl rfl rfl
theorem d105_16 : decode (am_mc 105) 16 = .ok (.invokevirtual 160, 3) := D105 9 rfl rfl rfl
theorem d105_19 : decode (am_mc 105) 19 = .ok (.bipush 12, 2) := D105 10 rfl rfl rfl
theorem d105_21 : decode (am_mc 105) 21 = .ok (.imul, 1) := D105 11 rfl rfl rfl
theorem d105_22 : decode (am_mc 105) 22 = .ok (.iload_n 2, 1) := D105 12 rfl rfl rfl
theorem d105_23 : decode (am_mc 105) 23 = .ok (.iadd, 1) := D105 13 rfl rfl rfl
theorem d105_24 : decode (am_mc 105) 24 = .ok (.laload, 1) := D105 14 rfl rfl rfl
theorem d105_25 : decode (am_mc 105) 25 = .ok (.goto 4, 3) := D105 15 rfl rfl rfl
theorem d105_28 : decode (am_mc 105) 28 = .ok (.lconst 0, 1) := D105 16 rfl rfl rfl
theorem d105_29 : decode (am_mc 105) 29 = .ok (.lreturn, 1) := D105 17 rfl rfl rfl
theorem ml105 : ∀ n, n < 3 → n < am_ml 105 := fun _ h => h
theorem mo105 : am_mo 105 = 6 := by decide +kernel
theorem rk105 : am_rk 105 = 2 := by decide +kernel
theorem rg105 : am_rcg 105 = 7 := by decide +kernel
theorem f6_30 : tb_f 6 30 = some (6, 4, 5, 17) := by decide +kernel
theorem m6_160 : tb_m 6 160 = some (104, 2, 1, 0) := by decide +kernel
theorem dp105_104 : am_md 104 + 1 ≤ am_md 105 ∧ 8 + (am_ml 104 + 11) + am_lr 104 ≤ am_lr 105 := by decide +kernel
def fn105 (o : Nat) (a : Int) (b : Int) (μ : am_M) : Option (Int × am_M) := (if b < 0 then some (0, μ) else (if b < 12 then (am_op (fn104 o a μ) (fun z1 => (if (0 : Int) ≤ w32 ((w32 (z1.1 * 12)) + b) ∧ w32 ((w32 (z1.1 * 12)) + b) < ((am_len (am_ref o 4) : Nat) : Int) then some (z1.2 (am_ref o 4) (w32 ((w32 (z1.1 * 12)) + b) : Int).toNat, z1.2) else none))) else some (0, μ)))
def sp105 : am_F := fun vs μ => am_aR 6 vs fun o vs => am_aI vs fun a vs => am_aI vs fun b vs => am_a0 vs (fn105 o a b μ)
theorem e105 (o : Nat) (a : Int) (b : Int) (μ : am_M) : sp105 [.inr (.inr (6, o)), .inl a, .inl b] μ = fn105 o a b μ := by simp only [sp105, am_aR_c, am_aI_c, am_aJ_c, am_a0_c]
theorem sd105 : am_Sd 105 sp105 := by
  refine am_Sd_of (by decide) (fun vs μ μ' x h hv hM => ?_)
  obtain ⟨o, vs0, rfl, h0⟩ := am_aR_s h
  obtain ⟨a, vs1, rfl, h1⟩ := am_aI_s h0
  obtain ⟨b, vs2, rfl, h2⟩ := am_aI_s h1
  obtain ⟨rfl, hz⟩ := am_a0_s h2
  refine ⟨Nat.le_of_ble_eq_true rfl, fun X C hG hr => ?_⟩
  have h := hz
  unfold fn105 at h
  exact (show am_W X C 105 _ 0 0 0 [(0, .inr (.inr (6, o))), (1, .inl a), (2, .inl b)] [] μ from (am_c_iload_n hG (pc := 0) d105_0 rfl (x_if_lt (tgt := 28) hG (pc := 1) d105_1 rfl h (fun h => (am_c_lconst hG (pc := 28) d105_28 (x_lret hG (by decide) hr (pc := 29) d105_29 rk105 h))) (fun h => (am_c_iload_n hG (pc := 4) d105_4 rfl (am_c_bipush hG (pc := 5) d105_5 (by decide) (x_icmp_ge (tgt := 28) hG (pc := 7) d105_7 rfl h (fun h => (am_c_lconst hG (pc := 28) d105_28 (x_lret hG (by decide) hr (pc := 29) d105_29 rk105 h))) (fun h => (am_c_aload_n hG (pc := 10) d105_10 rfl (x_get_n (v := .inr (.inr (17, am_ref o 4))) hG (pc := 11) d105_11 mo105 f6_30 rfl (am_c_aload_n hG (pc := 14) d105_14 rfl (am_c_iload_n hG (pc := 15) d105_15 rfl (x_virtual_i (t := 6) (o := o) (as2 := [.inl a]) (rest := [.inr (.inr (17, am_ref o 4))]) hG (pc := 16) d105_16 mo105 m6_160 (by decide) dp105_104 rfl rfl (Nat.le_of_ble_eq_true rfl) (Nat.le_of_ble_eq_true rfl) rg104 sd104 (e104 _ _ _) h (fun z1 h => (am_c_bipush hG (pc := 19) d105_19 (by decide) (am_c_imul hG (pc := 21) d105_21 (am_c_iload_n hG (pc := 22) d105_22 rfl (am_c_iadd hG (pc := 23) d105_23 (x_laload hG (pc := 24) d105_24 h (fun h => (x_goto (tgt := 29) hG (pc := 25) d105_25 rfl (x_lret hG (by decide) hr (pc := 29) d105_29 rk105 h))))))))))))))))))))))
/-! java/lang/Math.min(JJ)J -/
theorem D106 (k : Nat) {pc : Nat} {i : Instr} (h : tbi106[k]? = some (pc, i)) (hs : am_isw i = false) {n : Nat} (hn : am_il i = n) : decode (am_mc 106) pc = .ok (i, n) := am_d2 (by decide) (by decide) rfl h hs hn
theorem d106_0 : decode (am_mc 106) 0 = .ok (.lload_n 0, 1) := D106 0 rfl rfl rfl
theorem d106_1 : decode (am_mc 106) 1 = .ok (.lload_n 2, 1) := D106 1 rfl rfl rfl
theorem d106_2 : decode (am_mc 106) 2 = .ok (.lcmp, 1) := D106 2 rfl rfl rfl
theorem d106_3 : decode (am_mc 106) 3 = .ok (.ifCond .gt 7, 3) := D106 3 rfl rfl rfl
theorem d106_6 : decode (am_mc 106) 6 = .ok (.lload_n 0, 1) := D106 4 rfl rfl rfl
theorem d106_7 : decode (am_mc 106) 7 = .ok (.goto 4, 3) := D106 5 rfl rfl rfl
theorem d106_10 : decode (am_mc 106) 10 = .ok (.lload_n 2, 1) := D106 6 rfl rfl rfl
theorem d106_11 : decode (am_mc 106) 11 = .ok (.lreturn, 1) := D106 7 rfl rfl rfl
theorem ml106 : ∀ n, n < 4 → n < am_ml 106 := fun _ h => h
theorem mo106 : am_mo 106 = 13 := by decide +kernel
theorem rk106 : am_rk 106 = 2 := by decide +kernel
theorem rg106 : am_rcg 106 = 0 := by decide +kernel
def fn106 (a : Int) (b : Int) (μ : am_M) : Option (Int × am_M) := (if 0 < o_cmp a b then some (b, μ) else some (a, μ))
def sp106 : am_F := fun vs μ => am_aJ vs fun a vs => am_aJ vs fun b vs => am_a0 vs (fn106 a b μ)
theorem e106 (a : Int) (b : Int) (μ : am_M) : sp106 [.inr (.inl a), .inr (.inl b)] μ = fn106 a b μ := by simp only [sp106, am_aR_c, am_aI_c, am_aJ_c, am_a0_c]
theorem sd106 : am_Sd 106 sp106 := by
  refine am_Sd_of (by decide) (fun vs μ μ' x h hv hM => ?_)
  obtain ⟨a, vs0, rfl, h0⟩ := am_aJ_s h
  obtain ⟨b, vs1, rfl, h1⟩ := am_aJ_s h0
  obtain ⟨rfl, hz⟩ := am_a0_s h1
  refine ⟨Nat.le_of_ble_eq_true rfl, fun X C hG hr => ?_⟩
  have h := hz
  unfold fn106 at h
  exact (show am_W X C 106 _ 0 0 0 [(0, .inr (.inl a)), (2, .inr (.inl b))] [] μ from (am_c_lload_n hG (pc := 0) d106_0 rfl (am_c_lload_n hG (pc := 1) d106_1 rfl (am_c_lcmp hG (pc := 2) d106_2 (x_if_gt (tgt := 10) hG (pc := 3) d106_3 rfl h (fun h => (am_c_lload_n hG (pc := 10) d106_10 rfl (x_lret hG (by decide) hr (pc := 11) d106_11 rk106 h))) (fun h => (am_c_lload_n hG (pc := 6) d106_6 rfl (x_goto (tgt := 11) hG (pc := 7) d106_7 rfl (x_lret hG (by decide) hr (pc := 11) d106_11 rk106 h)))))))))
/-! java/lang/Math.max(JJ)J -/
theorem D107 (k : Nat) {pc : Nat} {i : Instr} (h : tbi107[k]? = some (pc, i)) (hs : am_isw i = false) {n : Nat} (hn : am_il i = n) : decode (am_mc 107) pc = .ok (i, n) := am_d2 (by decide) (by decide) rfl h hs hn
theorem d107_0 : decode (am_mc 107) 0 = .ok (.lload_n 0, 1) := D107 0 rfl rfl rfl
theorem d107_1 : decode (am_mc 107) 1 = .ok (.lload_n 2, 1) := D107 1 rfl rfl rfl
theorem d107_2 : decode (am_mc 107) 2 = .ok (.lcmp, 1) := D107 2 rfl rfl rfl
theorem d107_3 : decode (am_mc 107) 3 = .ok (.ifCond .lt 7, 3) := D107 3 rfl rfl rfl
theorem d107_6 : decode (am_mc 107) 6 = .ok (.lload_n 0, 1) := D107 4 rfl rfl rfl
theorem d107_7 : decode (am_mc 107) 7 = .ok (.goto 4, 3) := D107 5 rfl rfl rfl
theorem d107_10 : decode (am_mc 107) 10 = .ok (.lload_n 2, 1) := D107 6 rfl rfl rfl
theorem d107_11 : decode (am_mc 107) 11 = .ok (.lreturn, 1) := D107 7 rfl rfl rfl
theorem ml107 : ∀ n, n < 4 → n < am_ml 107 := fun _ h => h
theorem mo107 : am_mo 107 = 13 := by decide +kernel
theorem rk107 : am_rk 107 = 2 := by decide +kernel
theorem rg107 : am_rcg 107 = 0 := by decide +kernel
def fn107 (a : Int) (b : Int) (μ : am_M) : Option (Int × am_M) := (if o_cmp a b < 0 then some (b, μ) else some (a, μ))
def sp107 : am_F := fun vs μ => am_aJ vs fun a vs => am_aJ vs fun b vs => am_a0 vs (fn107 a b μ)
theorem e107 (a : Int) (b : Int) (μ : am_M) : sp107 [.inr (.inl a), .inr (.inl b)] μ = fn107 a b μ := by simp only [sp107, am_aR_c, am_aI_c, am_aJ_c, am_a0_c]
theorem sd107 : am_Sd 107 sp107 := by
  refine am_Sd_of (by decide) (fun vs μ μ' x h hv hM => ?_)
  obtain ⟨a, vs0, rfl, h0⟩ := am_aJ_s h
  obtain ⟨b, vs1, rfl, h1⟩ := am_aJ_s h0
  obtain ⟨rfl, hz⟩ := am_a0_s h1
  refine ⟨Nat.le_of_ble_eq_true rfl, fun X C hG hr => ?_⟩
  have h := hz
  unfold fn107 at h
  exact (show am_W X C 107 _ 0 0 0 [(0, .inr (.inl a)), (2, .inr (.inl b))] [] μ from (am_c_lload_n hG (pc := 0) d107_0 rfl (am_c_lload_n hG (pc := 1) d107_1 rfl (am_c_lcmp hG (pc := 2) d107_2 (x_if_lt (tgt := 10) hG (pc := 3) d107_3 rfl h (fun h => (am_c_lload_n hG (pc := 10) d107_10 rfl (x_lret hG (by decide) hr (pc := 11) d107_11 rk107 h))) (fun h => (am_c_lload_n hG (pc := 6) d107_6 rfl (x_goto (tgt := 11) hG (pc := 7) d107_7 rfl (x_lret hG (by decide) hr (pc := 11) d107_11 rk107 h)))))))))
/-! ChartPress$Groups.total(I)J -/
theorem D109 (k : Nat) {pc : Nat} {i : Instr} (h : tbi109[k]? = some (pc, i)) (hs : am_isw i = false) {n : Nat} (hn : am_il i = n) : decode (am_mc 109) pc = .ok (i, n) := am_d2 (by decide) (by decide) rfl h hs hn
theorem d109_0 : decode (am_mc 109) 0 = .ok (.aload_n 0, 1) := D109 0 rfl rfl rfl
theorem d109_1 : decode (am_mc 109) 1 = .ok (.getfield 34, 3) := D109 1 rfl rfl rfl
theorem d109_4 : decode (am_mc 109) 4 = .ok (.aload_n 0, 1) := D109 2 rfl rfl rfl
theorem d109_5 : decode (am_mc 109) 5 = .ok (.iload_n 1, 1) := D109 3 rfl rfl rfl
theorem d109_6 : decode (am_mc 109) 6 = .ok (.invokevirtual 160, 3) := D109 4 rfl rfl rfl
theorem d109_9 : decode (am_mc 109) 9 = .ok (.laload, 1) := D109 5 rfl rfl rfl
theorem d109_10 : decode (am_mc 109) 10 = .ok (.lreturn, 1) := D109 6 rfl rfl rfl
theorem ml109 : ∀ n, n < 2 → n < am_ml 109 := fun _ h => h
theorem mo109 : am_mo 109 = 6 := by decide +kernel
theorem rk109 : am_rk 109 = 2 := by decide +kernel
theorem rg109 : am_rcg 109 = 7 := by decide +kernel
theorem f6_34 : tb_f 6 34 = some (6, 5, 5, 17) := by decide +kernel
theorem dp109_104 : am_md 104 + 1 ≤ am_md 109 ∧ 8 + (am_ml 104 + 11) + am_lr 104 ≤ am_lr 109 := by decide +kernel
def fn109 (o : Nat) (a : Int) (μ : am_M) : Option (Int × am_M) := (am_op (fn104 o a μ) (fun z1 => (if (0 : Int) ≤ z1.1 ∧ z1.1 < ((am_len (am_ref o 5) : Nat) : Int) then some (z1.2 (am_ref o 5) (z1.1 : Int).toNat, z1.2) else none)))
def sp109 : am_F := fun vs μ => am_aR 6 vs fun o vs => am_aI vs fun a vs => am_a0 vs (fn109 o a μ)
theorem e109 (o : Nat) (a : Int) (μ : am_M) : sp109 [.inr (.inr (6, o)), .inl a] μ = fn109 o a μ := by simp only [sp109, am_aR_c, am_aI_c, am_aJ_c, am_a0_c]
theorem sd109 : am_Sd 109 sp109 := by
  refine am_Sd_of (by decide) (fun vs μ μ' x h hv hM => ?_)
  obtain ⟨o, vs0, rfl, h0⟩ := am_aR_s h
  obtain ⟨a, vs1, rfl, h1⟩ := am_aI_s h0
  obtain ⟨rfl, hz⟩ := am_a0_s h1
  refine ⟨Nat.le_of_ble_eq_true rfl, fun X C hG hr => ?_⟩
  have h := hz
  unfold fn109 at h
  exact (show am_W X C 109 _ 0 0 0 [(0, .inr (.inr (6, o))), (1, .inl a)] [] μ from (am_c_aload_n hG (pc := 0) d109_0 rfl (x_get_n (v := .inr (.inr (17, am_ref o 5))) hG (pc := 1) d109_1 mo109 f6_34 rfl (am_c_aload_n hG (pc := 4) d109_4 rfl (am_c_iload_n hG (pc := 5) d109_5 rfl (x_virtual_i (t := 6) (o := o) (as2 := [.inl a]) (rest := [.inr (.inr (17, am_ref o 5))]) hG (pc := 6) d109_6 mo109 m6_160 (by decide) dp109_104 rfl rfl (Nat.le_of_ble_eq_true rfl) (Nat.le_of_ble_eq_true rfl) rg104 sd104 (e104 _ _ _) h (fun z1 h => (x_laload hG (pc := 9) d109_9 h (fun h => (x_lret hG (by decide) hr (pc := 10) d109_10 rk109 h))))))))))
/-! ChartPress$Request.tickLimit()I -/
theorem D111 (k : Nat) {pc : Nat} {i : Instr} (h : tbi111[k]? = some (pc, i)) (hs : am_isw i = false) {n : Nat} (hn : am_il i = n) : decode (am_mc 111) pc = .ok (i, n) := am_d2 (by decide) (by decide) rfl h hs hn
theorem d111_0 : decode (am_mc 111) 0 = .ok (.aload_n 0, 1) := D111 0 rfl rfl rfl
theorem d111_1 : decode (am_mc 111) 1 = .ok (.getfield 86, 3) := D111 1 rfl rfl rfl
theorem d111_4 : decode (am_mc 111) 4 = .ok (.ifCond .ne 7, 3) := D111 2 rfl rfl rfl
theorem d111_7 : decode (am_mc 111) 7 = .ok (.iconst 5, 1) := D111 3 rfl rfl rfl
theorem d111_8 : decode (am_mc 111) 8 = .ok (.goto 7, 3) := D111 4 rfl rfl rfl
theorem d111_11 : decode (am_mc 111) 11 = .ok (.aload_n 0, 1) := D111 5 rfl rfl rfl
theorem d111_12 : decode (am_mc 111) 12 = .ok (.getfield 86, 3) := D111 6 rfl rfl rfl
theorem d111_15 : decode (am_mc 111) 15 = .ok (.ireturn, 1) := D111 7 rfl rfl rfl
theorem ml111 : ∀ n, n < 1 → n < am_ml 111 := fun _ h => h
theorem mo111 : am_mo 111 = 4 := by decide +kernel
theorem mr111 : am_mr 111 = some .int := by decide +kernel
theorem rg111 : am_rcg 111 = 5 := by decide +kernel
def fn111 (o : Nat) (μ : am_M) : Option (Int × am_M) := (if μ o 12 = 0 then some (5, μ) else some (μ o 12, μ))
def sp111 : am_F := fun vs μ => am_aR 4 vs fun o vs => am_a0 vs (fn111 o μ)
theorem e111 (o : Nat) (μ : am_M) : sp111 [.inr (.inr (4, o))] μ = fn111 o μ := by simp only [sp111, am_aR_c, am_aI_c, am_aJ_c, am_a0_c]
theorem sd111 : am_Sd 111 sp111 := by
  refine am_Sd_of (by decide) (fun vs μ μ' x h hv hM => ?_)
  obtain ⟨o, vs0, rfl, h0⟩ := am_aR_s h
  obtain ⟨rfl, hz⟩ := am_a0_s h0
  refine ⟨Nat.le_of_ble_eq_true rfl, fun X C hG hr => ?_⟩
  have h := hz
  unfold fn111 at h
  exact (show am_W X C 111 _ 0 0 0 [(0, .inr (.inr (4, o)))] [] μ from (am_c_aload_n hG (pc := 0) d111_0 rfl (x_get_n (v := .inl (μ o 12)) hG (pc := 1) d111_1 mo111 f4_86 rfl (x_if_ne (tgt := 11) hG (pc := 4) d111_4 rfl h (fun h => (am_c_aload_n hG (pc := 11) d111_11 rfl (x_get_n (v := .inl (μ o 12)) hG (pc := 12) d111_12 mo111 f4_86 rfl (x_iret hG (by decide) hr (pc := 15) d111_15 mr111 h)))) (fun h => (am_c_iconst hG (pc := 7) d111_7 (by decide) (x_goto (tgt := 15) hG (pc := 8) d111_8 rfl (x_iret hG (by decide) hr (pc := 15) d111_15 mr111 h))))))))
/-! java/lang/Math.floorDiv(JJ)J -/
theorem D112 (k : Nat) {pc : Nat} {i : Instr} (h : tbi112[k]? = some (pc, i)) (hs : am_isw i = false) {n : Nat} (hn : am_il i = n) : decode (am_mc 112) pc = .ok (i, n) := am_d2 (by decide) (by decide) rfl h hs hn
theorem d112_0 : decode (am_mc 112) 0 = .ok (.lload_n 0, 1) := D112 0 rfl rfl rfl
theorem d112_1 : decode (am_mc 112) 1 = .ok (.lload_n 2, 1) := D112 1 rfl rfl rfl
theorem d112_2 : decode (am_mc 112) 2 = .ok (.ldiv, 1) := D112 2 rfl rfl rfl
theorem d112_3 : decode (am_mc 112) 3 = .ok (.lstore 4, 2) := D112 3 rfl rfl rfl
theorem d112_5 : decode (am_mc 112) 5 = .ok (.lload_n 0, 1) := D112 4 rfl rfl rfl
theorem d112_6 : decode (am_mc 112) 6 = .ok (.lload_n 2, 1) := D112 5 rfl rfl rfl
theorem d112_7 : decode (am_mc 112) 7 = .ok (.lxor, 1) := D112 6 rfl rfl rfl
theorem d112_8 : decode (am_mc 112) 8 = .ok (.lconst 0, 1) := D112 7 rfl rfl rfl
theorem d112_9 : decode (am_mc 112) 9 = .ok (.lcmp, 1) := D112 8 rfl rfl rfl
theorem d112_10 : decode (am_mc 112) 10 = .ok (.ifCond .ge 17, 3) := D112 9 rfl rfl rfl
theorem d112_13 : decode (am_mc 112) 13 = .ok (.lload 4, 2) := D112 10 rfl rfl rfl
theorem d112_15 : decode (am_mc 112) 15 = .ok (.lload_n 2, 1) := D112 11 rfl rfl rfl
theorem d112_16 : decode (am_mc 112) 16 = .ok (.lmul, 1) := D112 12 rfl rfl rfl
theorem d112_17 : decode (am_mc 112) 17 = .ok (.lload_n 0, 1) := D112 13 rfl rfl rfl
theorem d112_18 : decode (am_mc 112) 18 = .ok (.lcmp, 1) := D112 14 rfl rfl rfl
theorem d112_19 : decode (am_mc 112) 19 = .ok (.ifCond .eq 8, 3) := D112 15 rfl rfl rfl
theorem d112_22 : decode (am_mc 112) 22 = .ok (.lload 4, 2) := D112 16 rfl rfl rfl
theorem d112_24 : decode (am_mc 112) 24 = .ok (.lconst 1, 1) := D112 17 rfl rfl rfl
theorem d112_25 : decode (am_mc 112) 25 = .ok (.lsub, 1) := D112 18 rfl rfl rfl
theorem d112_26 : decode (am_mc 112) 26 = .ok (.lreturn, 1) := D112 19 rfl rfl rfl
theorem d112_27 : decode (am_mc 112) 27 = .ok (.lload 4, 2) := D112 20 rfl rfl rfl
theorem d112_29 : decode (am_mc 112) 29 = .ok (.lreturn, 1) := D112 21 rfl rfl rfl
theorem ml112 : ∀ n, n < 6 → n < am_ml 112 := fun _ h => h
theorem mo112 : am_mo 112 = 13 := by decide +kernel
theorem rk112 : am_rk 112 = 2 := by decide +kernel
theorem rg112 : am_rcg 112 = 0 := by decide +kernel
def fn112 (a : Int) (b : Int) (μ : am_M) : Option (Int × am_M) := (if b = 0 then none else (if o_cmp (o_2l (fun x y => x ^^^ y) a b) 0 < 0 then (if o_cmp (w64 ((o_divl a b) * b)) a = 0 then some (o_divl a b, μ) else some (w64 ((o_divl a b) - 1), μ)) else some (o_divl a b, μ)))
def sp112 : am_F := fun vs μ => am_aJ vs fun a vs => am_aJ vs fun b vs => am_a0 vs (fn112 a b μ)
theorem e112 (a : Int) (b : Int) (μ : am_M) : sp112 [.inr (.inl a), .inr (.inl b)] μ = fn112 a b μ := by simp only [sp112, am_aR_c, am_aI_c, am_aJ_c, am_a0_c]
theorem sd112 : am_Sd 112 sp112 := by
  refine am_Sd_of (by decide) (fun vs μ μ' x h hv hM => ?_)
  obtain ⟨a, vs0, rfl, h0⟩ := am_aJ_s h
  obtain ⟨b, vs1, rfl, h1⟩ := am_aJ_s h0
  obtain ⟨rfl, hz⟩ := am_a0_s h1
  refine ⟨Nat.le_of_ble_eq_true rfl, fun X C hG hr => ?_⟩
  have h := hz
  unfold fn112 at h
  exact (show am_W X C 112 _ 0 0 0 [(0, .inr (.inl a)), (2, .inr (.inl b))] [] μ from (am_c_lload_n hG (pc := 0) d112_0 rfl (am_c_lload_n hG (pc := 1) d112_1 rfl (x_ldiv hG (pc := 2) d112_2 h (fun h => (x_lstore (lv' := [(4, .inr (.inl (o_divl a b))), (0, .inr (.inl a)), (2, .inr (.inl b))]) hG (pc := 3) d112_3 (ml112 _ (by decide)) rfl (am_c_lload_n hG (pc := 5) d112_5 rfl (am_c_lload_n hG (pc := 6) d112_6 rfl (am_c_lxor hG (pc := 7) d112_7 (am_c_lconst hG (pc := 8) d112_8 (am_c_lcmp hG (pc := 9) d112_9 (x_if_ge (tgt := 27) hG (pc := 10) d112_10 rfl h (fun h => (am_c_lload hG (pc := 27) d112_27 rfl (x_lret hG (by decide) hr (pc := 29) d112_29 rk112 h))) (fun h => (am_c_lload hG (pc := 13) d112_13 rfl (am_c_lload_n hG (pc := 15) d112_15 rfl (am_c_lmul hG (pc := 16) d112_16 (am_c_lload_n hG (pc := 17) d112_17 rfl (am_c_lcmp hG (pc := 18) d112_18 (x_if_eq (tgt := 27) hG (pc := 19) d112_19 rfl h (fun h => (am_c_lload hG (pc := 27) d112_27 rfl (x_lret hG (by decide) hr (pc := 29) d112_29 rk112 h))) (fun h => (am_c_lload hG (pc := 22) d112_22 rfl (am_c_lconst hG (pc := 24) d112_24 (am_c_lsub hG (pc := 25) d112_25 (x_lret hG (by decide) hr (pc := 26) d112_26 rk112 h))))))))))))))))))))))))
/-! ChartPress$Scale.ticks()I -/
theorem D115 (k : Nat) {pc : Nat} {i : Instr} (h : tbi115[k]? = some (pc, i)) (hs : am_isw i = false) {n : Nat} (hn : am_il i = n) : decode (am_mc 115) pc = .ok (i, n) := am_d2 (by decide) (by decide) rfl h hs hn
theorem d115_0 : decode (am_mc 115) 0 = .ok (.aload_n 0, 1) := D115 0 rfl rfl rfl
theorem d115_1 : decode (am_mc 115) 1 = .ok (.getfield 69, 3) := D115 1 rfl rfl rfl
theorem d115_4 : decode (am_mc 115) 4 = .ok (.lconst 0, 1) := D115 2 rfl rfl rfl
theorem d115_5 : decode (am_mc 115) 5 = .ok (.lcmp, 1) := D115 3 rfl rfl rfl
theorem d115_6 : decode (am_mc 115) 6 = .ok (.ifCond .le 23, 3) := D115 4 rfl rfl rfl
theorem d115_9 : decode (am_mc 115) 9 = .ok (.aload_n 0, 1) := D115 5 rfl rfl rfl
theorem d115_10 : decode (am_mc 115) 10 = .ok (.getfield 80, 3) := D115 6 rfl rfl rfl
theorem d115_13 : decode (am_mc 115) 13 = .ok (.aload_n 0, 1) := D115 7 rfl rfl rfl
theorem d115_14 : decode (am_mc 115) 14 = .ok (.getfield 77, 3) := D115 8 rfl rfl rfl
theorem d115_17 : decode (am_mc 115) 17 = .ok (.lsub, 1) := D115 9 rfl rfl rfl
theorem d115_18 : decode (am_mc 115) 18 = .ok (.aload_n 0, 1) := D115 10 rfl rfl rfl
theorem d115_19 : decode (am_mc 115) 19 = .ok (.getfield 69, 3) := D115 11 rfl rfl rfl
theorem d115_22 : decode (am_mc 115) 22 = .ok (.ldiv, 1) := D115 12 rfl rfl rfl
theorem d115_23 : decode (am_mc 115) 23 = .ok (.l2i, 1) := D115 13 rfl rfl rfl
theorem d115_24 : decode (am_mc 115) 24 = .ok (.iconst 1, 1) := D115 14 rfl rfl rfl
theorem d115_25 : decode (am_mc 115) 25 = .ok (.iadd, 1) := D115 15 rfl rfl rfl
theorem d115_26 : decode (am_mc 115) 26 = .ok (.goto 4, 3) := D115 16 rfl rfl rfl
theorem d115_29 : decode (am_mc 115) 29 = .ok (.iconst 0, 1) := D115 17 rfl rfl rfl
theorem d115_30 : decode (am_mc 115) 30 = .ok (.ireturn, 1) := D115 18 rfl rfl rfl
theorem ml115 : ∀ n, n < 1 → n < am_ml 115 := fun _ h => h
theorem mo115 : am_mo 115 = 8 := by decide +kernel
theorem mr115 : am_mr 115 = some .int := by decide +kernel
theorem rg115 : am_rcg 115 = 9 := by decide +kernel
theorem f8_69 : tb_f 8 69 = some (8, 2, 1, 0) := by decide +kernel
theorem f8_77 : tb_f 8 77 = some (8, 3, 1, 0) := by decide +kernel
theorem f8_80 : tb_f 8 80 = some (8, 4, 1, 0) := by decide +kernel
def fn115 (o : Nat) (μ : am_M) : Option (Int × am_M) := (if 0 < o_cmp (μ o 2) 0 then (if μ o 2 = 0 then none else some (w32 ((o_l2i (o_divl (w64 ((μ o 4) - (μ o 3))) (μ o 2))) + 1), μ)) else some (0, μ))
def sp115 : am_F := fun vs μ => am_aR 8 vs fun o vs => am_a0 vs (fn115 o μ)
theorem e115 (o : Nat) (μ : am_M) : sp115 [.inr (.inr (8, o))] μ = fn115 o μ := by simp only [sp115, am_aR_c, am_aI_c, am_aJ_c, am_a0_c]
theorem sd115 : am_Sd 115 sp115 := by
  refine am_Sd_of (by decide) (fun vs μ μ' x h hv hM => ?_)
  obtain ⟨o, vs0, rfl, h0⟩ := am_aR_s h
  obtain ⟨rfl, hz⟩ := am_a0_s h0
  refine ⟨Nat.le_of_ble_eq_true rfl, fun X C hG hr => ?_⟩
  have h := hz
  unfold fn115 at h
  exact (show am_W X C 115 _ 0 0 0 [(0, .inr (.inr (8, o)))] [] μ from (am_c_aload_n hG (pc := 0) d115_0 rfl (x_get_n (v := .inr (.inl (μ o 2))) hG (pc := 1) d115_1 mo115 f8_69 rfl (am_c_lconst hG (pc := 4) d115_4 (am_c_lcmp hG (pc := 5) d115_5 (x_if_le (tgt := 29) hG (pc := 6) d115_6 rfl h (fun h => (am_c_iconst hG (pc := 29) d115_29 (by decide) (x_iret hG (by decide) hr (pc := 30) d115_30 mr115 h))) (fun h => (am_c_aload_n hG (pc := 9) d115_9 rfl (x_get_n (v := .inr (.inl (μ o 4))) hG (pc := 10) d115_10 mo115 f8_80 rfl (am_c_aload_n hG (pc := 13) d115_13 rfl (x_get_n (v := .inr (.inl (μ o 3))) hG (pc := 14) d115_14 mo115 f8_77 rfl (am_c_lsub hG (pc := 17) d115_17 (am_c_aload_n hG (pc := 18) d115_18 rfl (x_get_n (v := .inr (.inl (μ o 2))) hG (pc := 19) d115_19 mo115 f8_69 rfl (x_ldiv hG (pc := 22) d115_22 h (fun h => (am_c_l2i hG (pc := 23) d115_23 (am_c_iconst hG (pc := 24) d115_24 (by decide) (am_c_iadd hG (pc := 25) d115_25 (x_goto (tgt := 30) hG (pc := 26) d115_26 rfl (x_iret hG (by decide) hr (pc := 30) d115_30 mr115 h)))))))))))))))))))))
/-! ChartPress$Scale.tick(I)J -/
theorem D116 (k : Nat) {pc : Nat} {i : Instr} (h : tbi116[k]? = some (pc, i)) (hs : am_isw i = false) {n : Nat} (hn : am_il i = n) : decode (am_mc 116) pc = .ok (i, n) := am_d2 (by decide) (by decide) rfl h hs hn
theorem d116_0 : decode (am_mc 116) 0 = .ok (.aload_n 0, 1) := D116 0 rfl rfl rfl
theorem d116_1 : decode (am_mc 116) 1 = .ok (.getfield 77, 3) := D116 1 rfl rfl rfl
theorem d116_4 : decode (am_mc 116) 4 = .ok (.iload_n 1, 1) := D116 2 rfl rfl rfl
theorem d116_5 : decode (am_mc 116) 5 = .ok (.i2l, 1) := D116 3 rfl rfl rfl
theorem d116_6 : decode (am_mc 116) 6 = .ok (.aload_n 0, 1) := D116 4 rfl rfl rfl
theorem d116_7 : decode (am_mc 116) 7 = .ok (.getfield 69, 3) := D116 5 rfl rfl rfl
theorem d116_10 : decode (am_mc 116) 10 = .ok (.lmul, 1) := D116 6 rfl rfl rfl
theorem d116_11 : decode (am_mc 116) 11 = .ok (.ladd, 1) := D116 7 rfl rfl rfl
theorem d116_12 : decode (am_mc 116) 12 = .ok (.lreturn, 1) := D116 8 rfl rfl rfl
theorem ml116 : ∀ n, n < 2 → n < am_ml 116 := fun _ h => h
theorem mo116 : am_mo 116 = 8 := by decide +kernel
theorem rk116 : am_rk 116 = 2 := by decide +kernel
theorem rg116 : am_rcg 116 = 9 := by decide +kernel
def fn116 (o : Nat) (a : Int) (μ : am_M) : Option (Int × am_M) := some (w64 ((μ o 3) + (w64 (a * (μ o 2)))), μ)
def sp116 : am_F := fun vs μ => am_aR 8 vs fun o vs => am_aI vs fun a vs => am_a0 vs (fn116 o a μ)
theorem e116 (o : Nat) (a : Int) (μ : am_M) : sp116 [.inr (.inr (8, o)), .inl a] μ = fn116 o a μ := by simp only [sp116, am_aR_c, am_aI_c, am_aJ_c, am_a0_c]
theorem sd116 : am_Sd 116 sp116 := by
  refine am_Sd_of (by decide) (fun vs μ μ' x h hv hM => ?_)
  obtain ⟨o, vs0, rfl, h0⟩ := am_aR_s h
  obtain ⟨a, vs1, rfl, h1⟩ := am_aI_s h0
  obtain ⟨rfl, hz⟩ := am_a0_s h1
  refine ⟨Nat.le_of_ble_eq_true rfl, fun X C hG hr => ?_⟩
  have h := hz
  unfold fn116 at h
  exact (show am_W X C 116 _ 0 0 0 [(0, .inr (.inr (8, o))), (1, .inl a)] [] μ from (am_c_aload_n hG (pc := 0) d116_0 rfl (x_get_n (v := .inr (.inl (μ o 3))) hG (pc := 1) d116_1 mo116 f8_77 rfl (am_c_iload_n hG (pc := 4) d116_4 rfl (am_c_i2l hG (pc := 5) d116_5 (am_c_aload_n hG (pc := 6) d116_6 rfl (x_get_n (v := .inr (.inl (μ o 2))) hG (pc := 7) d116_7 mo116 f8_69 rfl (am_c_lmul hG (pc := 10) d116_10 (am_c_ladd hG (pc := 11) d116_11 (x_lret hG (by decide) hr (pc := 12) d116_12 rk116 h))))))))))
/-! java/lang/Math.abs(J)J -/
theorem D117 (k : Nat) {pc : Nat} {i : Instr} (h : tbi117[k]? = some (pc, i)) (hs : am_isw i = false) {n : Nat} (hn : am_il i = n) : decode (am_mc 117) pc = .ok (i, n) := am_d2 (by decide) (by decide) rfl h hs hn
theorem d117_0 : decode (am_mc 117) 0 = .ok (.lload_n 0, 1) := D117 0 rfl rfl rfl
theorem d117_1 : decode (am_mc 117) 1 = .ok (.lconst 0, 1) := D117 1 rfl rfl rfl
theorem d117_2 : decode (am_mc 117) 2 = .ok (.lcmp, 1) := D117 2 rfl rfl rfl
theorem d117_3 : decode (am_mc 117) 3 = .ok (.ifCond .ge 8, 3) := D117 3 rfl rfl rfl
theorem d117_6 : decode (am_mc 117) 6 = .ok (.lload_n 0, 1) := D117 4 rfl rfl rfl
theorem d117_7 : decode (am_mc 117) 7 = .ok (.lneg, 1) := D117 5 rfl rfl rfl
theorem d117_8 : decode (am_mc 117) 8 = .ok (.goto 4, 3) := D117 6 rfl rfl rfl
theorem d117_11 : decode (am_mc 117) 11 = .ok (.lload_n 0, 1) := D117 7 rfl rfl rfl
theorem d117_12 : decode (am_mc 117) 12 = .ok (.lreturn, 1) := D117 8 rfl rfl rfl
theorem ml117 : ∀ n, n < 2 → n < am_ml 117 := fun _ h => h
theorem mo117 : am_mo 117 = 13 := by decide +kernel
theorem rk117 : am_rk 117 = 2 := by decide +kernel
theorem rg117 : am_rcg 117 = 0 := by decide +kernel
def fn117 (a : Int) (μ : am_M) : Option (Int × am_M) := (if o_cmp a 0 < 0 then some (w64 (-a), μ) else some (a, μ))
def sp117 : am_F := fun vs μ => am_aJ vs fun a vs => am_a0 vs (fn117 a μ)
theorem e117 (a : Int) (μ : am_M) : sp117 [.inr (.inl a)] μ = fn117 a μ := by simp only [sp117, am_aR_c, am_aI_c, am_aJ_c, am_a0_c]
theorem sd117 : am_Sd 117 sp117 := by
  refine am_Sd_of (by decide) (fun vs μ μ' x h hv hM => ?_)
  obtain ⟨a, vs0, rfl, h0⟩ := am_aJ_s h
  obtain ⟨rfl, hz⟩ := am_a0_s h0
  refine ⟨Nat.le_of_ble_eq_true rfl, fun X C hG hr => ?_⟩
  have h := hz
  unfold fn117 at h
  exact (show am_W X C 117 _ 0 0 0 [(0, .inr (.inl a))] [] μ from (am_c_lload_n hG (pc := 0) d117_0 rfl (am_c_lconst hG (pc := 1) d117_1 (am_c_lcmp hG (pc := 2) d117_2 (x_if_ge (tgt := 11) hG (pc := 3) d117_3 rfl h (fun h => (am_c_lload_n hG (pc := 11) d117_11 rfl (x_lret hG (by decide) hr (pc := 12) d117_12 rk117 h))) (fun h => (am_c_lload_n hG (pc := 6) d117_6 rfl (am_c_lneg hG (pc := 7) d117_7 (x_goto (tgt := 12) hG (pc := 8) d117_8 rfl (x_lret hG (by decide) hr (pc := 12) d117_12 rk117 h))))))))))
/-! ChartPress$Letters.width()I -/
theorem D120 (k : Nat) {pc : Nat} {i : Instr} (h : tbi120[k]? = some (pc, i)) (hs : am_isw i = false) {n : Nat} (hn : am_il i = n) : decode (am_mc 120) pc = .ok (i, n) := am_d2 (by decide) (by decide) rfl h hs hn
theorem d120_0 : decode (am_mc 120) 0 = .ok (.iconst 4, 1) := D120 0 rfl rfl rfl
theorem d120_1 : decode (am_mc 120) 1 = .ok (.aload_n 0, 1) := D120 1 rfl rfl rfl
theorem d120_2 : decode (am_mc 120) 2 = .ok (.getfield 13, 3) := D120 2 rfl rfl rfl
theorem d120_5 : decode (am_mc 120) 5 = .ok (.imul, 1) := D120 3 rfl rfl rfl
theorem d120_6 : decode (am_mc 120) 6 = .ok (.iconst 1, 1) := D120 4 rfl rfl rfl
theorem d120_7 : decode (am_mc 120) 7 = .ok (.isub, 1) := D120 5 rfl rfl rfl
theorem d120_8 : decode (am_mc 120) 8 = .ok (.ireturn, 1) := D120 6 rfl rfl rfl
theorem ml120 : ∀ n, n < 1 → n < am_ml 120 := fun _ h => h
theorem mo120 : am_mo 120 = 3 := by decide +kernel
theorem mr120 : am_mr 120 = some .int := by decide +kernel
theorem rg120 : am_rcg 120 = 4 := by decide +kernel
def fn120 (o : Nat) (μ : am_M) : Option (Int × am_M) := some (w32 ((w32 (4 * (μ o 1))) - 1), μ)
def sp120 : am_F := fun vs μ => am_aR 3 vs fun o vs => am_a0 vs (fn120 o μ)
theorem e120 (o : Nat) (μ : am_M) : sp120 [.inr (.inr (3, o))] μ = fn120 o μ := by simp only [sp120, am_aR_c, am_aI_c, am_aJ_c, am_a0_c]
theorem sd120 : am_Sd 120 sp120 := by
  refine am_Sd_of (by decide) (fun vs μ μ' x h hv hM => ?_)
  obtain ⟨o, vs0, rfl, h0⟩ := am_aR_s h
  obtain ⟨rfl, hz⟩ := am_a0_s h0
  refine ⟨Nat.le_of_ble_eq_true rfl, fun X C hG hr => ?_⟩
  have h := hz
  unfold fn120 at h
  exact (show am_W X C 120 _ 0 0 0 [(0, .inr (.inr (3, o)))] [] μ from (am_c_iconst hG (pc := 0) d120_0 (by decide) (am_c_aload_n hG (pc := 1) d120_1 rfl (x_get_n (v := .inl (μ o 1)) hG (pc := 2) d120_2 mo120 f3_13 rfl (am_c_imul hG (pc := 5) d120_5 (am_c_iconst hG (pc := 6) d120_6 (by decide) (am_c_isub hG (pc := 7) d120_7 (x_iret hG (by decide) hr (pc := 8) d120_8 mr120 h))))))))
/-! java/lang/Math.max(II)I -/
theorem D121 (k : Nat) {pc : Nat} {i : Instr} (h : tbi121[k]? = some (pc, i)) (hs : am_isw i = false) {n : Nat} (hn : am_il i = n) : decode (am_mc 121) pc = .ok (i, n) := am_d2 (by decide) (by decide) rfl h hs hn
theorem d121_0 : decode (am_mc 121) 0 = .ok (.iload_n 0, 1) := D121 0 rfl rfl rfl
theorem d121_1 : decode (am_mc 121) 1 = .ok (.iload_n 1, 1) := D121 1 rfl rfl rfl
theorem d121_2 : decode (am_mc 121) 2 = .ok (.if_icmp .lt 7, 3) := D121 2 rfl rfl rfl
theorem d121_5 : decode (am_mc 121) 5 = .ok (.iload_n 0, 1) := D121 3 rfl rfl rfl
theorem d121_6 : decode (am_mc 121) 6 = .ok (.goto 4, 3) := D121 4 rfl rfl rfl
theorem d121_9 : decode (am_mc 121) 9 = .ok (.iload_n 1, 1) := D121 5 rfl rfl rfl
theorem d121_10 : decode (am_mc 121) 10 = .ok (.ireturn, 1) := D121 6 rfl rfl rfl
theorem ml121 : ∀ n, n < 2 → n < am_ml 121 := fun _ h => h
theorem mo121 : am_mo 121 = 13 := by decide +kernel
theorem mr121 : am_mr 121 = some .int := by decide +kernel
theorem rg121 : am_rcg 121 = 0 := by decide +kernel
def fn121 (a : Int) (b : Int) (μ : am_M) : Option (Int × am_M) := (if a < b then some (b, μ) else some (a, μ))
def sp121 : am_F := fun vs μ => am_aI vs fun a vs => am_aI vs fun b vs => am_a0 vs (fn121 a b μ)
theorem e121 (a : Int) (b : Int) (μ : am_M) : sp121 [.inl a, .inl b] μ = fn121 a b μ := by simp only [sp121, am_aR_c, am_aI_c, am_aJ_c, am_a0_c]
theorem sd121 : am_Sd 121 sp121 := by
  refine am_Sd_of (by decide) (fun vs μ μ' x h hv hM => ?_)
  obtain ⟨a, vs0, rfl, h0⟩ := am_aI_s h
  obtain ⟨b, vs1, rfl, h1⟩ := am_aI_s h0
  obtain ⟨rfl, hz⟩ := am_a0_s h1
  refine ⟨Nat.le_of_ble_eq_true rfl, fun X C hG hr => ?_⟩
  have h := hz
  unfold fn121 at h
  exact (show am_W X C 121 _ 0 0 0 [(0, .inl a), (1, .inl b)] [] μ from (am_c_iload_n hG (pc := 0) d121_0 rfl (am_c_iload_n hG (pc := 1) d121_1 rfl (x_icmp_lt (tgt := 9) hG (pc := 2) d121_2 rfl h (fun h => (am_c_iload_n hG (pc := 9) d121_9 rfl (x_iret hG (by decide) hr (pc := 10) d121_10 mr121 h))) (fun h => (am_c_iload_n hG (pc := 5) d121_5 rfl (x_goto (tgt := 10) hG (pc := 6) d121_6 rfl (x_iret hG (by decide) hr (pc := 10) d121_10 mr121 h))))))))
/-! ChartPress$Sheet.right()I -/
theorem D123 (k : Nat) {pc : Nat} {i : Instr} (h : tbi123[k]? = some (pc, i)) (hs : am_isw i = false) {n : Nat} (hn : am_il i = n) : decode (am_mc 123) pc = .ok (i, n) := am_d2 (by decide) (by decide) rfl h hs hn
theorem d123_0 : decode (am_mc 123) 0 = .ok (.aload_n 0, 1) := D123 0 rfl rfl rfl
theorem d123_1 : decode (am_mc 123) 1 = .ok (.getfield 15, 3) := D123 1 rfl rfl rfl
theorem d123_4 : decode (am_mc 123) 4 = .ok (.iconst 2, 1) := D123 2 rfl rfl rfl
theorem d123_5 : decode (am_mc 123) 5 = .ok (.isub, 1) := D123 3 rfl rfl rfl
theorem d123_6 : decode (am_mc 123) 6 = .ok (.ireturn, 1) := D123 4 rfl rfl rfl
theorem ml123 : ∀ n, n < 1 → n < am_ml 123 := fun _ h => h
theorem mo123 : am_mo 123 = 10 := by decide +kernel
theorem mr123 : am_mr 123 = some .int := by decide +kernel
theorem rg123 : am_rcg 123 = 11 := by decide +kernel
def fn123 (o : Nat) (μ : am_M) : Option (Int × am_M) := some (w32 ((μ o 1) - 2), μ)
def sp123 : am_F := fun vs μ => am_aR 10 vs fun o vs => am_a0 vs (fn123 o μ)
theorem e123 (o : Nat) (μ : am_M) : sp123 [.inr (.inr (10, o))] μ = fn123 o μ := by simp only [sp123, am_aR_c, am_aI_c, am_aJ_c, am_a0_c]
theorem sd123 : am_Sd 123 sp123 := by
  refine am_Sd_of (by decide) (fun vs μ μ' x h hv hM => ?_)
  obtain ⟨o, vs0, rfl, h0⟩ := am_aR_s h
  obtain ⟨rfl, hz⟩ := am_a0_s h0
  refine ⟨Nat.le_of_ble_eq_true rfl, fun X C hG hr => ?_⟩
  have h := hz
  unfold fn123 at h
  exact (show am_W X C 123 _ 0 0 0 [(0, .inr (.inr (10, o)))] [] μ from (am_c_aload_n hG (pc := 0) d123_0 rfl (x_get_n (v := .inl (μ o 1)) hG (pc := 1) d123_1 mo123 f10_15 rfl (am_c_iconst hG (pc := 4) d123_4 (by decide) (am_c_isub hG (pc := 5) d123_5 (x_iret hG (by decide) hr (pc := 6) d123_6 mr123 h))))))
/-! ChartPress$Groups.label(I)LChartPress$Letters; -/
theorem D124 (k : Nat) {pc : Nat} {i : Instr} (h : tbi124[k]? = some (pc, i)) (hs : am_isw i = false) {n : Nat} (hn : am_il i = n) : decode (am_mc 124) pc = .ok (i, n) := am_d2 (by decide) (by decide) rfl h hs hn
theorem d124_0 : decode (am_mc 124) 0 = .ok (.aload_n 0, 1) := D124 0 rfl rfl rfl
theorem d124_1 : decode (am_mc 124) 1 = .ok (.getfield 23, 3) := D124 1 rfl rfl rfl
theorem d124_4 : decode (am_mc 124) 4 = .ok (.aload_n 0, 1) := D124 2 rfl rfl rfl
theorem d124_5 : decode (am_mc 124) 5 = .ok (.iload_n 1, 1) := D124 3 rfl rfl rfl
theorem d124_6 : decode (am_mc 124) 6 = .ok (.invokevirtual 160, 3) := D124 4 rfl rfl rfl
theorem d124_9 : decode (am_mc 124) 9 = .ok (.aaload, 1) := D124 5 rfl rfl rfl
theorem d124_10 : decode (am_mc 124) 10 = .ok (.areturn, 1) := D124 6 rfl rfl rfl
theorem ml124 : ∀ n, n < 2 → n < am_ml 124 := fun _ h => h
theorem mo124 : am_mo 124 = 6 := by decide +kernel
theorem rk124 : am_rk 124 = 3 := by decide +kernel
theorem rtg124 : am_rtg 124 = 3 := by decide +kernel
theorem rg124 : am_rcg 124 = 7 := by decide +kernel
theorem f6_23 : tb_f 6 23 = some (6, 3, 5, 21) := by decide +kernel
theorem dp124_104 : am_md 104 + 1 ≤ am_md 124 ∧ 8 + (am_ml 104 + 11) + am_lr 104 ≤ am_lr 124 := by decide +kernel
def fn124 (o : Nat) (a : Int) (μ : am_M) : Option (Int × am_M) := (am_op (fn104 o a μ) (fun z1 => (if (0 : Int) ≤ z1.1 ∧ z1.1 < ((am_len (am_ref o 3) : Nat) : Int) then some (((am_ref (am_ref o 3) (z1.1 : Int).toNat : Nat) : Int), z1.2) else none)))
def sp124 : am_F := fun vs μ => am_aR 6 vs fun o vs => am_aI vs fun a vs => am_a0 vs (fn124 o a μ)
theorem e124 (o : Nat) (a : Int) (μ : am_M) : sp124 [.inr (.inr (6, o)), .inl a] μ = fn124 o a μ := by simp only [sp124, am_aR_c, am_aI_c, am_aJ_c, am_a0_c]
theorem sd124 : am_Sd 124 sp124 := by
  refine am_Sd_of (by decide) (fun vs μ μ' x h hv hM => ?_)
  obtain ⟨o, vs0, rfl, h0⟩ := am_aR_s h
  obtain ⟨a, vs1, rfl, h1⟩ := am_aI_s h0
  obtain ⟨rfl, hz⟩ := am_a0_s h1
  refine ⟨Nat.le_of_ble_eq_true rfl, fun X C hG hr => ?_⟩
  have h := hz
  unfold fn124 at h
  exact (show am_W X C 124 _ 0 0 0 [(0, .inr (.inr (6, o))), (1, .inl a)] [] μ from (am_c_aload_n hG (pc := 0) d124_0 rfl (x_get_n (v := .inr (.inr (21, am_ref o 3))) hG (pc := 1) d124_1 mo124 f6_23 rfl (am_c_aload_n hG (pc := 4) d124_4 rfl (am_c_iload_n hG (pc := 5) d124_5 rfl (x_virtual_i (t := 6) (o := o) (as2 := [.inl a]) (rest := [.inr (.inr (21, am_ref o 3))]) hG (pc := 6) d124_6 mo124 m6_160 (by decide) dp124_104 rfl rfl (Nat.le_of_ble_eq_true rfl) (Nat.le_of_ble_eq_true rfl) rg104 sd104 (e104 _ _ _) h (fun z1 h => (x_aaload_L hG (pc := 9) d124_9 h (fun h => (x_aret hG (by decide) hr (pc := 10) d124_10 rk124 rtg124 h))))))))))
/-! ChartPress$Sheet.width()I -/
theorem D125 (k : Nat) {pc : Nat} {i : Instr} (h : tbi125[k]? = some (pc, i)) (hs : am_isw i = false) {n : Nat} (hn : am_il i = n) : decode (am_mc 125) pc = .ok (i, n) := am_d2 (by decide) (by decide) rfl h hs hn
theorem d125_0 : decode (am_mc 125) 0 = .ok (.aload_n 0, 1) := D125 0 rfl rfl rfl
theorem d125_1 : decode (am_mc 125) 1 = .ok (.getfield 15, 3) := D125 1 rfl rfl rfl
theorem d125_4 : decode (am_mc 125) 4 = .ok (.ireturn, 1) := D125 2 rfl rfl rfl
theorem ml125 : ∀ n, n < 1 → n < am_ml 125 := fun _ h => h
theorem mo125 : am_mo 125 = 10 := by decide +kernel
theorem mr125 : am_mr 125 = some .int := by decide +kernel
theorem rg125 : am_rcg 125 = 11 := by decide +kernel
def fn125 (o : Nat) (μ : am_M) : Option (Int × am_M) := some (μ o 1, μ)
def sp125 : am_F := fun vs μ => am_aR 10 vs fun o vs => am_a0 vs (fn125 o μ)
theorem e125 (o : Nat) (μ : am_M) : sp125 [.inr (.inr (10, o))] μ = fn125 o μ := by simp only [sp125, am_aR_c, am_aI_c, am_aJ_c, am_a0_c]
theorem sd125 : am_Sd 125 sp125 := by
  refine am_Sd_of (by decide) (fun vs μ μ' x h hv hM => ?_)
  obtain ⟨o, vs0, rfl, h0⟩ := am_aR_s h
  obtain ⟨rfl, hz⟩ := am_a0_s h0
  refine ⟨Nat.le_of_ble_eq_true rfl, fun X C hG hr => ?_⟩
  have h := hz
  unfold fn125 at h
  exact (show am_W X C 125 _ 0 0 0 [(0, .inr (.inr (10, o)))] [] μ from (am_c_aload_n hG (pc := 0) d125_0 rfl (x_get_n (v := .inl (μ o 1)) hG (pc := 1) d125_1 mo125 f10_15 rfl (x_iret hG (by decide) hr (pc := 4) d125_4 mr125 h))))
/-! ChartPress$Layout.bandStart(I)I -/
theorem D126 (k : Nat) {pc : Nat} {i : Instr} (h : tbi126[k]? = some (pc, i)) (hs : am_isw i = false) {n : Nat} (hn : am_il i = n) : decode (am_mc 126) pc = .ok (i, n) := am_d2 (by decide) (by decide) rfl h hs hn
theorem d126_0 : decode (am_mc 126) 0 = .ok (.aload_n 0, 1) := D126 0 rfl rfl rfl
theorem d126_1 : decode (am_mc 126) 1 = .ok (.getfield 24, 3) := D126 1 rfl rfl rfl
theorem d126_4 : decode (am_mc 126) 4 = .ok (.ifCond .le 22, 3) := D126 2 rfl rfl rfl
theorem d126_7 : decode (am_mc 126) 7 = .ok (.aload_n 0, 1) := D126 3 rfl rfl rfl
theorem d126_8 : decode (am_mc 126) 8 = .ok (.getfield 31, 3) := D126 4 rfl rfl rfl
theorem d126_11 : decode (am_mc 126) 11 = .ok (.iload_n 1, 1) := D126 5 rfl rfl rfl
theorem d126_12 : decode (am_mc 126) 12 = .ok (.aload_n 0, 1) := D126 6 rfl rfl rfl
theorem d126_13 : decode (am_mc 126) 13 = .ok (.getfield 39, 3) := D126 7 rfl rfl rfl
theorem d126_16 : decode (am_mc 126) 16 = .ok (.imul, 1) := D126 8 rfl rfl rfl
theorem d126_17 : decode (am_mc 126) 17 = .ok (.aload_n 0, 1) := D126 9 rfl rfl rfl
theorem d126_18 : decode (am_mc 126) 18 = .ok (.getfield 24, 3) := D126 10 rfl rfl rfl
theorem d126_21 : decode (am_mc 126) 21 = .ok (.idiv, 1) := D126 11 rfl rfl rfl
theorem d126_22 : decode (am_mc 126) 22 = .ok (.iadd, 1) := D126 12 rfl rfl rfl
theorem d126_23 : decode (am_mc 126) 23 = .ok (.goto 7, 3) := D126 13 rfl rfl rfl
theorem d126_26 : decode (am_mc 126) 26 = .ok (.aload_n 0, 1) := D126 14 rfl rfl rfl
theorem d126_27 : decode (am_mc 126) 27 = .ok (.getfield 31, 3) := D126 15 rfl rfl rfl
theorem d126_30 : decode (am_mc 126) 30 = .ok (.ireturn, 1) := D126 16 rfl rfl rfl
theorem ml126 : ∀ n, n < 2 → n < am_ml 126 := fun _ h => h
theorem mo126 : am_mo 126 = 9 := by decide +kernel
theorem mr126 : am_mr 126 = some .int := by decide +kernel
theorem rg126 : am_rcg 126 = 10 := by decide +kernel
theorem f9_24 : tb_f 9 24 = some (9, 4, 0, 0) := by decide +kernel
theorem f9_31 : tb_f 9 31 = some (9, 2, 0, 0) := by decide +kernel
theorem f9_39 : tb_f 9 39 = some (9, 3, 0, 0) := by decide +kernel
def fn126 (o : Nat) (a : Int) (μ : am_M) : Option (Int × am_M) := (if 0 < μ o 4 then (if μ o 4 = 0 then none else some (w32 ((μ o 2) + (o_div (w32 (a * (μ o 3))) (μ o 4))), μ)) else some (μ o 2, μ))
def sp126 : am_F := fun vs μ => am_aR 9 vs fun o vs => am_aI vs fun a vs => am_a0 vs (fn126 o a μ)
theorem e126 (o : Nat) (a : Int) (μ : am_M) : sp126 [.inr (.inr (9, o)), .inl a] μ = fn126 o a μ := by simp only [sp126, am_aR_c, am_aI_c, am_aJ_c, am_a0_c]
theorem sd126 : am_Sd 126 sp126 := by
  refine am_Sd_of (by decide) (fun vs μ μ' x h hv hM => ?_)
  obtain ⟨o, vs0, rfl, h0⟩ := am_aR_s h
  obtain ⟨a, vs1, rfl, h1⟩ := am_aI_s h0
  obtain ⟨rfl, hz⟩ := am_a0_s h1
  refine ⟨Nat.le_of_ble_eq_true rfl, fun X C hG hr => ?_⟩
  have h := hz
  unfold fn126 at h
  exact (show am_W X C 126 _ 0 0 0 [(0, .inr (.inr (9, o))), (1, .inl a)] [] μ from (am_c_aload_n hG (pc := 0) d126_0 rfl (x_get_n (v := .inl (μ o 4)) hG (pc := 1) d126_1 mo126 f9_24 rfl (x_if_le (tgt := 26) hG (pc := 4) d126_4 rfl h (fun h => (am_c_aload_n hG (pc := 26) d126_26 rfl (x_get_n (v := .inl (μ o 2)) hG (pc := 27) d126_27 mo126 f9_31 rfl (x_iret hG (by decide) hr (pc := 30) d126_30 mr126 h)))) (fun h => (am_c_aload_n hG (pc := 7) d126_7 rfl (x_get_n (v := .inl (μ o 2)) hG (pc := 8) d126_8 mo126 f9_31 rfl (am_c_iload_n hG (pc := 11) d126_11 rfl (am_c_aload_n hG (pc := 12) d126_12 rfl (x_get_n (v := .inl (μ o 3)) hG (pc := 13) d126_13 mo126 f9_39 rfl (am_c_imul hG (pc := 16) d126_16 (am_c_aload_n hG (pc := 17) d126_17 rfl (x_get_n (v := .inl (μ o 4)) hG (pc := 18) d126_18 mo126 f9_24 rfl (x_idiv hG (pc := 21) d126_21 h (fun h => (am_c_iadd hG (pc := 22) d126_22 (x_goto (tgt := 30) hG (pc := 23) d126_23 rfl (x_iret hG (by decide) hr (pc := 30) d126_30 mr126 h))))))))))))))))))
/-! ChartPress$Layout.bandEnd(I)I -/
theorem D127 (k : Nat) {pc : Nat} {i : Instr} (h : tbi127[k]? = some (pc, i)) (hs : am_isw i = false) {n : Nat} (hn : am_il i = n) : decode (am_mc 127) pc = .ok (i, n) := am_d2 (by decide) (by decide) rfl h hs hn
theorem d127_0 : decode (am_mc 127) 0 = .ok (.aload_n 0, 1) := D127 0 rfl rfl rfl
theorem d127_1 : decode (am_mc 127) 1 = .ok (.iload_n 1, 1) := D127 1 rfl rfl rfl
theorem d127_2 : decode (am_mc 127) 2 = .ok (.iconst 1, 1) := D127 2 rfl rfl rfl
theorem d127_3 : decode (am_mc 127) 3 = .ok (.iadd, 1) := D127 3 rfl rfl rfl
theorem d127_4 : decode (am_mc 127) 4 = .ok (.invokevirtual 92, 3) := D127 4 rfl rfl rfl
theorem d127_7 : decode (am_mc 127) 7 = .ok (.iconst 1, 1) := D127 5 rfl rfl rfl
theorem d127_8 : decode (am_mc 127) 8 = .ok (.isub, 1) := D127 6 rfl rfl rfl
theorem d127_9 : decode (am_mc 127) 9 = .ok (.ireturn, 1) := D127 7 rfl rfl rfl
theorem ml127 : ∀ n, n < 2 → n < am_ml 127 := fun _ h => h
theorem mo127 : am_mo 127 = 9 := by decide +kernel
theorem mr127 : am_mr 127 = some .int := by decide +kernel
theorem rg127 : am_rcg 127 = 10 := by decide +kernel
theorem m9_92 : tb_m 9 92 = some (126, 2, 1, 0) := by decide +kernel
theorem dp127_126 : am_md 126 + 1 ≤ am_md 127 ∧ 8 + (am_ml 126 + 11) + am_lr 126 ≤ am_lr 127 := by decide +kernel
def fn127 (o : Nat) (a : Int) (μ : am_M) : Option (Int × am_M) := (am_op (fn126 o (w32 (a + 1)) μ) (fun z1 => some (w32 (z1.1 - 1), z1.2)))
def sp127 : am_F := fun vs μ => am_aR 9 vs fun o vs => am_aI vs fun a vs => am_a0 vs (fn127 o a μ)
theorem e127 (o : Nat) (a : Int) (μ : am_M) : sp127 [.inr (.inr (9, o)), .inl a] μ = fn127 o a μ := by simp only [sp127, am_aR_c, am_aI_c, am_aJ_c, am_a0_c]
theorem sd127 : am_Sd 127 sp127 := by
  refine am_Sd_of (by decide) (fun vs μ μ' x h hv hM => ?_)
  obtain ⟨o, vs0, rfl, h0⟩ := am_aR_s h
  obtain ⟨a, vs1, rfl, h1⟩ := am_aI_s h0
  obtain ⟨rfl, hz⟩ := am_a0_s h1
  refine ⟨Nat.le_of_ble_eq_true rfl, fun X C hG hr => ?_⟩
  have h := hz
  unfold fn127 at h
  exact (show am_W X C 127 _ 0 0 0 [(0, .inr (.inr (9, o))), (1, .inl a)] [] μ from (am_c_aload_n hG (pc := 0) d127_0 rfl (am_c_iload_n hG (pc := 1) d127_1 rfl (am_c_iconst hG (pc := 2) d127_2 (by decide) (am_c_iadd hG (pc := 3) d127_3 (x_virtual_i (t := 9) (o := o) (as2 := [.inl (w32 (a + 1))]) (rest := []) hG (pc := 4) d127_4 mo127 m9_92 (by decide) dp127_126 rfl rfl (Nat.le_of_ble_eq_true rfl) (Nat.le_of_ble_eq_true rfl) rg126 sd126 (e126 _ _ _) h (fun z1 h => (am_c_iconst hG (pc := 7) d127_7 (by decide) (am_c_isub hG (pc := 8) d127_8 (x_iret hG (by decide) hr (pc := 9) d127_9 mr127 h))))))))))
/-! ChartPress$Layout.middle(I)I -/
theorem D128 (k : Nat) {pc : Nat} {i : Instr} (h : tbi128[k]? = some (pc, i)) (hs : am_isw i = false) {n : Nat} (hn : am_il i = n) : decode (am_mc 128) pc = .ok (i, n) := am_d2 (by decide) (by decide) rfl h hs hn
theorem d128_0 : decode (am_mc 128) 0 = .ok (.aload_n 0, 1) := D128 0 rfl rfl rfl
theorem d128_1 : decode (am_mc 128) 1 = .ok (.iload_n 1, 1) := D128 1 rfl rfl rfl
theorem d128_2 : decode (am_mc 128) 2 = .ok (.invokevirtual 92, 3) := D128 2 rfl rfl rfl
theorem d128_5 : decode (am_mc 128) 5 = .ok (.aload_n 0, 1) := D128 3 rfl rfl rfl
theorem d128_6 : decode (am_mc 128) 6 = .ok (.iload_n 1, 1) := D128 4 rfl rfl rfl
theorem d128_7 : decode (am_mc 128) 7 = .ok (.invokevirtual 95, 3) := D128 5 rfl rfl rfl
theorem d128_10 : decode (am_mc 128) 10 = .ok (.iadd, 1) := D128 6 rfl rfl rfl
theorem d128_11 : decode (am_mc 128) 11 = .ok (.iconst 2, 1) := D128 7 rfl rfl rfl
theorem d128_12 : decode (am_mc 128) 12 = .ok (.idiv, 1) := D128 8 rfl rfl rfl
theorem d128_13 : decode (am_mc 128) 13 = .ok (.ireturn, 1) := D128 9 rfl rfl rfl
theorem ml128 : ∀ n, n < 2 → n < am_ml 128 := fun _ h => h
theorem mo128 : am_mo 128 = 9 := by decide +kernel
theorem mr128 : am_mr 128 = some .int := by decide +kernel
theorem rg128 : am_rcg 128 = 10 := by decide +kernel
theorem m9_95 : tb_m 9 95 = some (127, 2, 1, 0) := by decide +kernel
theorem dp128_126 : am_md 126 + 1 ≤ am_md 128 ∧ 8 + (am_ml 126 + 11) + am_lr 126 ≤ am_lr 128 := by decide +kernel
theorem dp128_127 : am_md 127 + 1 ≤ am_md 128 ∧ 8 + (am_ml 127 + 11) + am_lr 127 ≤ am_lr 128 := by decide +kernel
def fn128 (o : Nat) (a : Int) (μ : am_M) : Option (Int × am_M) := (am_op (fn126 o a μ) (fun z1 => (am_op (fn127 o a z1.2) (fun z2 => some (o_div (w32 (z1.1 + z2.1)) 2, z2.2)))))
def sp128 : am_F := fun vs μ => am_aR 9 vs fun o vs => am_aI vs fun a vs => am_a0 vs (fn128 o a μ)
theorem e128 (o : Nat) (a : Int) (μ : am_M) : sp128 [.inr (.inr (9, o)), .inl a] μ = fn128 o a μ := by simp only [sp128, am_aR_c, am_aI_c, am_aJ_c, am_a0_c]
theorem sd128 : am_Sd 128 sp128 := by
  refine am_Sd_of (by decide) (fun vs μ μ' x h hv hM => ?_)
  obtain ⟨o, vs0, rfl, h0⟩ := am_aR_s h
  obtain ⟨a, vs1, rfl, h1⟩ := am_aI_s h0
  obtain ⟨rfl, hz⟩ := am_a0_s h1
  refine ⟨Nat.le_of_ble_eq_true rfl, fun X C hG hr => ?_⟩
  have h := hz
  unfold fn128 at h
  exact (show am_W X C 128 _ 0 0 0 [(0, .inr (.inr (9, o))), (1, .inl a)] [] μ from (am_c_aload_n hG (pc := 0) d128_0 rfl (am_c_iload_n hG (pc := 1) d128_1 rfl (x_virtual_i (t := 9) (o := o) (as2 := [.inl a]) (rest := []) hG (pc := 2) d128_2 mo128 m9_92 (by decide) dp128_126 rfl rfl (Nat.le_of_ble_eq_true rfl) (Nat.le_of_ble_eq_true rfl) rg126 sd126 (e126 _ _ _) h (fun z1 h => (am_c_aload_n hG (pc := 5) d128_5 rfl (am_c_iload_n hG (pc := 6) d128_6 rfl (x_virtual_i (t := 9) (o := o) (as2 := [.inl a]) (rest := [.inl z1.1]) hG (pc := 7) d128_7 mo128 m9_95 (by decide) dp128_127 rfl rfl (Nat.le_of_ble_eq_true rfl) (Nat.le_of_ble_eq_true rfl) rg127 sd127 (e127 _ _ _) h (fun z2 h => (am_c_iadd hG (pc := 10) d128_10 (am_c_iconst hG (pc := 11) d128_11 (by decide) (am_c_idiv hG (pc := 12) d128_12 (by decide) (x_iret hG (by decide) hr (pc := 13) d128_13 mr128 h)))))))))))))
/-! ChartPress$Layout.left()I -/
theorem D135 (k : Nat) {pc : Nat} {i : Instr} (h : tbi135[k]? = some (pc, i)) (hs : am_isw i = false) {n : Nat} (hn : am_il i = n) : decode (am_mc 135) pc = .ok (i, n) := am_d2 (by decide) (by decide) rfl h hs hn
theorem d135_0 : decode (am_mc 135) 0 = .ok (.aload_n 0, 1) := D135 0 rfl rfl rfl
theorem d135_1 : decode (am_mc 135) 1 = .ok (.getfield 31, 3) := D135 1 rfl rfl rfl
theorem d135_4 : decode (am_mc 135) 4 = .ok (.ireturn, 1) := D135 2 rfl rfl rfl
theorem ml135 : ∀ n, n < 1 → n < am_ml 135 := fun _ h => h
theorem mo135 : am_mo 135 = 9 := by decide +kernel
theorem mr135 : am_mr 135 = some .int := by decide +kernel
theorem rg135 : am_rcg 135 = 10 := by decide +kernel
def fn135 (o : Nat) (μ : am_M) : Option (Int × am_M) := some (μ o 2, μ)
def sp135 : am_F := fun vs μ => am_aR 9 vs fun o vs => am_a0 vs (fn135 o μ)
theorem e135 (o : Nat) (μ : am_M) : sp135 [.inr (.inr (9, o))] μ = fn135 o μ := by simp only [sp135, am_aR_c, am_aI_c, am_aJ_c, am_a0_c]
theorem sd135 : am_Sd 135 sp135 := by
  refine am_Sd_of (by decide) (fun vs μ μ' x h hv hM => ?_)
  obtain ⟨o, vs0, rfl, h0⟩ := am_aR_s h
  obtain ⟨rfl, hz⟩ := am_a0_s h0
  refine ⟨Nat.le_of_ble_eq_true rfl, fun X C hG hr => ?_⟩
  have h := hz
  unfold fn135 at h
  exact (show am_W X C 135 _ 0 0 0 [(0, .inr (.inr (9, o)))] [] μ from (am_c_aload_n hG (pc := 0) d135_0 rfl (x_get_n (v := .inl (μ o 2)) hG (pc := 1) d135_1 mo135 f9_31 rfl (x_iret hG (by decide) hr (pc := 4) d135_4 mr135 h))))
/-! ChartPress$Sheet.bottom()I -/
theorem D136 (k : Nat) {pc : Nat} {i : Instr} (h : tbi136[k]? = some (pc, i)) (hs : am_isw i = false) {n : Nat} (hn : am_il i = n) : decode (am_mc 136) pc = .ok (i, n) := am_d2 (by decide) (by decide) rfl h hs hn
theorem d136_0 : decode (am_mc 136) 0 = .ok (.aload_n 0, 1) := D136 0 rfl rfl rfl
theorem d136_1 : decode (am_mc 136) 1 = .ok (.getfield 19, 3) := D136 1 rfl rfl rfl
theorem d136_4 : decode (am_mc 136) 4 = .ok (.bipush 9, 2) := D136 2 rfl rfl rfl
theorem d136_6 : decode (am_mc 136) 6 = .ok (.isub, 1) := D136 3 rfl rfl rfl
theorem d136_7 : decode (am_mc 136) 7 = .ok (.ireturn, 1) := D136 4 rfl rfl rfl
theorem ml136 : ∀ n, n < 1 → n < am_ml 136 := fun _ h => h
theorem mo136 : am_mo 136 = 10 := by decide +kernel
theorem mr136 : am_mr 136 = some .int := by decide +kernel
theorem rg136 : am_rcg 136 = 11 := by decide +kernel
def fn136 (o : Nat) (μ : am_M) : Option (Int × am_M) := some (w32 ((μ o 2) - 9), μ)
def sp136 : am_F := fun vs μ => am_aR 10 vs fun o vs => am_a0 vs (fn136 o μ)
theorem e136 (o : Nat) (μ : am_M) : sp136 [.inr (.inr (10, o))] μ = fn136 o μ := by simp only [sp136, am_aR_c, am_aI_c, am_aJ_c, am_a0_c]
theorem sd136 : am_Sd 136 sp136 := by
  refine am_Sd_of (by decide) (fun vs μ μ' x h hv hM => ?_)
  obtain ⟨o, vs0, rfl, h0⟩ := am_aR_s h
  obtain ⟨rfl, hz⟩ := am_a0_s h0
  refine ⟨Nat.le_of_ble_eq_true rfl, fun X C hG hr => ?_⟩
  have h := hz
  unfold fn136 at h
  exact (show am_W X C 136 _ 0 0 0 [(0, .inr (.inr (10, o)))] [] μ from (am_c_aload_n hG (pc := 0) d136_0 rfl (x_get_n (v := .inl (μ o 2)) hG (pc := 1) d136_1 mo136 f10_19 rfl (am_c_bipush hG (pc := 4) d136_4 (by decide) (am_c_isub hG (pc := 6) d136_6 (x_iret hG (by decide) hr (pc := 7) d136_7 mr136 h))))))
/-! ChartPress$Sheet.set(III)V -/
theorem D137 (k : Nat) {pc : Nat} {i : Instr} (h : tbi137[k]? = some (pc, i)) (hs : am_isw i = false) {n : Nat} (hn : am_il i = n) : decode (am_mc 137) pc = .ok (i, n) := am_d2 (by decide) (by decide) rfl h hs hn
theorem d137_0 : decode (am_mc 137) 0 = .ok (.aload_n 0, 1) := D137 0 rfl rfl rfl
theorem d137_1 : decode (am_mc 137) 1 = .ok (.iload_n 1, 1) := D137 1 rfl rfl rfl
theorem d137_2 : decode (am_mc 137) 2 = .ok (.iload_n 2, 1) := D137 2 rfl rfl rfl
theorem d137_3 : decode (am_mc 137) 3 = .ok (.invokevirtual 22, 3) := D137 3 rfl rfl rfl
theorem d137_6 : decode (am_mc 137) 6 = .ok (.ifCond .eq 16, 3) := D137 4 rfl rfl rfl
theorem d137_9 : decode (am_mc 137) 9 = .ok (.aload_n 0, 1) := D137 5 rfl rfl rfl
theorem d137_10 : decode (am_mc 137) 10 = .ok (.getfield 11, 3) := D137 6 rfl rfl rfl
theorem d137_13 : decode (am_mc 137) 13 = .ok (.iload_n 2, 1) := D137 7 rfl rfl rfl
theorem d137_14 : decode (am_mc 137) 14 = .ok (.bipush 96, 2) := D137 8 rfl rfl rfl
theorem d137_16 : decode (am_mc 137) 16 = .ok (.imul, 1) := D137 9 rfl rfl rfl
theorem d137_17 : decode (am_mc 137) 17 = .ok (.iload_n 1, 1) := D137 10 rfl rfl rfl
theorem d137_18 : decode (am_mc 137) 18 = .ok (.iadd, 1) := D137 11 rfl rfl rfl
theorem d137_19 : decode (am_mc 137) 19 = .ok (.iload_n 3, 1) := D137 12 rfl rfl rfl
theorem d137_20 : decode (am_mc 137) 20 = .ok (.i2b, 1) := D137 13 rfl rfl rfl
theorem d137_21 : decode (am_mc 137) 21 = .ok (.bastore, 1) := D137 14 rfl rfl rfl
theorem d137_22 : decode (am_mc 137) 22 = .ok (.return_, 1) := D137 15 rfl rfl rfl
theorem ml137 : ∀ n, n < 4 → n < am_ml 137 := fun _ h => h
theorem mo137 : am_mo 137 = 10 := by decide +kernel
theorem rk137 : am_rk 137 = 0 := by decide +kernel
theorem rg137 : am_rcg 137 = 11 := by decide +kernel
theorem dp137_9 : am_md 9 + 1 ≤ am_md 137 ∧ 8 + (am_ml 9 + 11) + am_lr 9 ≤ am_lr 137 := by decide +kernel
def fn137 (o : Nat) (a : Int) (b : Int) (c : Int) (μ : am_M) : Option (Int × am_M) := (am_op (fn9 o a b μ) (fun z1 => (if z1.1 = 0 then some (0, z1.2) else (if (0 : Int) ≤ w32 ((w32 (b * 96)) + a) ∧ w32 ((w32 (b * 96)) + a) < ((am_len (am_ref o 0) : Nat) : Int) then some (0, am_up z1.2 (am_ref o 0) (w32 ((w32 (b * 96)) + a) : Int).toNat (o_nar .byte (o_i2b c))) else none))))
def sp137 : am_F := fun vs μ => am_aR 10 vs fun o vs => am_aI vs fun a vs => am_aI vs fun b vs => am_aI vs fun c vs => am_a0 vs (fn137 o a b c μ)
theorem e137 (o : Nat) (a : Int) (b : Int) (c : Int) (μ : am_M) : sp137 [.inr (.inr (10, o)), .inl a, .inl b, .inl c] μ = fn137 o a b c μ := by simp only [sp137, am_aR_c, am_aI_c, am_aJ_c, am_a0_c]
theorem sd137 : am_Sd 137 sp137 := by
  refine am_Sd_of (by decide) (fun vs μ μ' x h hv hM => ?_)
  obtain ⟨o, vs0, rfl, h0⟩ := am_aR_s h
  obtain ⟨a, vs1, rfl, h1⟩ := am_aI_s h0
  obtain ⟨b, vs2, rfl, h2⟩ := am_aI_s h1
  obtain ⟨c, vs3, rfl, h3⟩ := am_aI_s h2
  obtain ⟨rfl, hz⟩ := am_a0_s h3
  refine ⟨Nat.le_of_ble_eq_true rfl, fun X C hG hr => ?_⟩
  have h := hz
  unfold fn137 at h
  exact (show am_W X C 137 _ 0 0 0 [(0, .inr (.inr (10, o))), (1, .inl a), (2, .inl b), (3, .inl c)] [] μ from (am_c_aload_n hG (pc := 0) d137_0 rfl (am_c_iload_n hG (pc := 1) d137_1 rfl (am_c_iload_n hG (pc := 2) d137_2 rfl (x_virtual_i (t := 10) (o := o) (as2 := [.inl a, .inl b]) (rest := []) hG (pc := 3) d137_3 mo137 m10_22 (by decide) dp137_9 rfl rfl (Nat.le_of_ble_eq_true rfl) (Nat.le_of_ble_eq_true rfl) rg9 sd9 (e9 _ _ _ _) h (fun z1 h => (x_if_eq (tgt := 22) hG (pc := 6) d137_6 rfl h (fun h => (x_vret hG (by decide) hr (pc := 22) d137_22 rk137 h)) (fun h => (am_c_aload_n hG (pc := 9) d137_9 rfl (x_get_n (v := .inr (.inr (19, am_ref o 0))) hG (pc := 10) d137_10 mo137 f10_11 rfl (am_c_iload_n hG (pc := 13) d137_13 rfl (am_c_bipush hG (pc := 14) d137_14 (by decide) (am_c_imul hG (pc := 16) d137_16 (am_c_iload_n hG (pc := 17) d137_17 rfl (am_c_iadd hG (pc := 18) d137_18 (am_c_iload_n hG (pc := 19) d137_19 rfl (am_c_i2b hG (pc := 20) d137_20 (x_bastore hG (pc := 21) d137_21 h (fun h => (x_vret hG (by decide) hr (pc := 22) d137_22 rk137 h))))))))))))))))))))
/-! ChartPress$Sheet.height()I -/
theorem D139 (k : Nat) {pc : Nat} {i : Instr} (h : tbi139[k]? = some (pc, i)) (hs : am_isw i = false) {n : Nat} (hn : am_il i = n) : decode (am_mc 139) pc = .ok (i, n) := am_d2 (by decide) (by decide) rfl h hs hn
theorem d139_0 : decode (am_mc 139) 0 = .ok (.aload_n 0, 1) := D139 0 rfl rfl rfl
theorem d139_1 : decode (am_mc 139) 1 = .ok (.getfield 19, 3) := D139 1 rfl rfl rfl
theorem d139_4 : decode (am_mc 139) 4 = .ok (.ireturn, 1) := D139 2 rfl rfl rfl
theorem ml139 : ∀ n, n < 1 → n < am_ml 139 := fun _ h => h
theorem mo139 : am_mo 139 = 10 := by decide +kernel
theorem mr139 : am_mr 139 = some .int := by decide +kernel
theorem rg139 : am_rcg 139 = 11 := by decide +kernel
def fn139 (o : Nat) (μ : am_M) : Option (Int × am_M) := some (μ o 2, μ)
def sp139 : am_F := fun vs μ => am_aR 10 vs fun o vs => am_a0 vs (fn139 o μ)
theorem e139 (o : Nat) (μ : am_M) : sp139 [.inr (.inr (10, o))] μ = fn139 o μ := by simp only [sp139, am_aR_c, am_aI_c, am_aJ_c, am_a0_c]
theorem sd139 : am_Sd 139 sp139 := by
  refine am_Sd_of (by decide) (fun vs μ μ' x h hv hM => ?_)
  obtain ⟨o, vs0, rfl, h0⟩ := am_aR_s h
  obtain ⟨rfl, hz⟩ := am_a0_s h0
  refine ⟨Nat.le_of_ble_eq_true rfl, fun X C hG hr => ?_⟩
  have h := hz
  unfold fn139 at h
  exact (show am_W X C 139 _ 0 0 0 [(0, .inr (.inr (10, o)))] [] μ from (am_c_aload_n hG (pc := 0) d139_0 rfl (x_get_n (v := .inl (μ o 2)) hG (pc := 1) d139_1 mo139 f10_19 rfl (x_iret hG (by decide) hr (pc := 4) d139_4 mr139 h))))
/-! ChartPress$Scale.rowOf(JI)I -/
theorem D140 (k : Nat) {pc : Nat} {i : Instr} (h : tbi140[k]? = some (pc, i)) (hs : am_isw i = false) {n : Nat} (hn : am_il i = n) : decode (am_mc 140) pc = .ok (i, n) := am_d2 (by decide) (by decide) rfl h hs hn
theorem d140_0 : decode (am_mc 140) 0 = .ok (.aload_n 0, 1) := D140 0 rfl rfl rfl
theorem d140_1 : decode (am_mc 140) 1 = .ok (.getfield 80, 3) := D140 1 rfl rfl rfl
theorem d140_4 : decode (am_mc 140) 4 = .ok (.aload_n 0, 1) := D140 2 rfl rfl rfl
theorem d140_5 : decode (am_mc 140) 5 = .ok (.getfield 77, 3) := D140 3 rfl rfl rfl
theorem d140_8 : decode (am_mc 140) 8 = .ok (.lsub, 1) := D140 4 rfl rfl rfl
theorem d140_9 : decode (am_mc 140) 9 = .ok (.ldc2_w 72, 3) := D140 5 rfl rfl rfl
theorem d140_12 : decode (am_mc 140) 12 = .ok (.lmul, 1) := D140 6 rfl rfl rfl
theorem d140_13 : decode (am_mc 140) 13 = .ok (.lstore 4, 2) := D140 7 rfl rfl rfl
theorem d140_15 : decode (am_mc 140) 15 = .ok (.lload 4, 2) := D140 8 rfl rfl rfl
theorem d140_17 : decode (am_mc 140) 17 = .ok (.lconst 0, 1) := D140 9 rfl rfl rfl
theorem d140_18 : decode (am_mc 140) 18 = .ok (.lcmp, 1) := D140 10 rfl rfl rfl
theorem d140_19 : decode (am_mc 140) 19 = .ok (.ifCond .gt 8, 3) := D140 11 rfl rfl rfl
theorem d140_22 : decode (am_mc 140) 22 = .ok (.iload_n 3, 1) := D140 12 rfl rfl rfl
theorem d140_23 : decode (am_mc 140) 23 = .ok (.bipush 9, 2) := D140 13 rfl rfl rfl
theorem d140_25 : decode (am_mc 140) 25 = .ok (.isub, 1) := D140 14 rfl rfl rfl
theorem d140_26 : decode (am_mc 140) 26 = .ok (.ireturn, 1) := D140 15 rfl rfl rfl
theorem d140_27 : decode (am_mc 140) 27 = .ok (.ldc2_w 87, 3) := D140 16 rfl rfl rfl
theorem d140_30 : decode (am_mc 140) 30 = .ok (.lload_n 1, 1) := D140 17 rfl rfl rfl
theorem d140_31 : decode (am_mc 140) 31 = .ok (.aload_n 0, 1) := D140 18 rfl rfl rfl
theorem d140_32 : decode (am_mc 140) 32 = .ok (.getfield 77, 3) := D140 19 rfl rfl rfl
theorem d140_35 : decode (am_mc 140) 35 = .ok (.ldc2_w 72, 3) := D140 20 rfl rfl rfl
theorem d140_38 : decode (am_mc 140) 38 = .ok (.lmul, 1) := D140 21 rfl rfl rfl
theorem d140_39 : decode (am_mc 140) 39 = .ok (.lsub, 1) := D140 22 rfl rfl rfl
theorem d140_40 : decode (am_mc 140) 40 = .ok (.lmul, 1) := D140 23 rfl rfl rfl
theorem d140_41 : decode (am_mc 140) 41 = .ok (.iload_n 3, 1) := D140 24 rfl rfl rfl
theorem d140_42 : decode (am_mc 140) 42 = .ok (.bipush 9, 2) := D140 25 rfl rfl rfl
theorem d140_44 : decode (am_mc 140) 44 = .ok (.isub, 1) := D140 26 rfl rfl rfl
theorem d140_45 : decode (am_mc 140) 45 = .ok (.iconst 1, 1) := D140 27 rfl rfl rfl
theorem d140_46 : decode (am_mc 140) 46 = .ok (.isub, 1) := D140 28 rfl rfl rfl
theorem d140_47 : decode (am_mc 140) 47 = .ok (.i2l, 1) := D140 29 rfl rfl rfl
theorem d140_48 : decode (am_mc 140) 48 = .ok (.lmul, 1) := D140 30 rfl rfl rfl
theorem d140_49 : decode (am_mc 140) 49 = .ok (.lstore 6, 2) := D140 31 rfl rfl rfl
theorem d140_51 : decode (am_mc 140) 51 = .ok (.iload_n 3, 1) := D140 32 rfl rfl rfl
theorem d140_52 : decode (am_mc 140) 52 = .ok (.bipush 9, 2) := D140 33 rfl rfl rfl
theorem d140_54 : decode (am_mc 140) 54 = .ok (.isub, 1) := D140 34 rfl rfl rfl
theorem d140_55 : decode (am_mc 140) 55 = .ok (.lload 6, 2) := D140 35 rfl rfl rfl
theorem d140_57 : decode (am_mc 140) 57 = .ok (.lload 4, 2) := D140 36 rfl rfl rfl
theorem d140_59 : decode (am_mc 140) 59 = .ok (.ladd, 1) := D140 37 rfl rfl rfl
theorem d140_60 : decode (am_mc 140) 60 = .ok (.ldc2_w 87, 3) := D140 38 rfl rfl rfl
theorem d140_63 : decode (am_mc 140) 63 = .ok (.lload 4, 2) := D140 39 rfl rfl rfl
theorem d140_65 : decode (am_mc 140) 65 = .ok (.lmul, 1) := D140 40 rfl rfl rfl
theorem d140_66 : decode (am_mc 140) 66 = .ok (.invokestatic 74, 3) := D140 41 rfl rfl rfl
theorem d140_69 : decode (am_mc 140) 69 = .ok (.l2i, 1) := D140 42 rfl rfl rfl
theorem d140_70 : decode (am_mc 140) 70 = .ok (.isub, 1) := D140 43 rfl rfl rfl
theorem d140_71 : decode (am_mc 140) 71 = .ok (.ireturn, 1) := D140 44 rfl rfl rfl
theorem ml140 : ∀ n, n < 8 → n < am_ml 140 := fun _ h => h
theorem mo140 : am_mo 140 = 8 := by decide +kernel
theorem mr140 : am_mr 140 = some .int := by decide +kernel
theorem rg140 : am_rcg 140 = 9 := by decide +kernel
theorem m8_74 : tb_m 8 74 = some (112, 2, 2, 0) := by decide +kernel
theorem dp140_112 : am_md 112 + 1 ≤ am_md 140 ∧ 8 + (am_ml 112 + 11) + am_lr 112 ≤ am_lr 140 := by decide +kernel
def fn140 (o : Nat) (a : Int) (b : Int) (μ : am_M) : Option (Int × am_M) := (if 0 < o_cmp (w64 ((w64 ((μ o 4) - (μ o 3))) * 27720)) 0 then (am_op (fn112 (w64 ((w64 ((w64 (2 * (w64 (a - (w64 ((μ o 3) * 27720)))))) * (w32 ((w32 (b - 9)) - 1)))) + (w64 ((w64 ((μ o 4) - (μ o 3))) * 27720)))) (w64 (2 * (w64 ((w64 ((μ o 4) - (μ o 3))) * 27720)))) μ) (fun z1 => some (w32 ((w32 (b - 9)) - (o_l2i z1.1)), z1.2))) else some (w32 (b - 9), μ))
def sp140 : am_F := fun vs μ => am_aR 8 vs fun o vs => am_aJ vs fun a vs => am_aI vs fun b vs => am_a0 vs (fn140 o a b μ)
theorem e140 (o : Nat) (a : Int) (b : Int) (μ : am_M) : sp140 [.inr (.inr (8, o)), .inr (.inl a), .inl b] μ = fn140 o a b μ := by simp only [sp140, am_aR_c, am_aI_c, am_aJ_c, am_a0_c]
theorem sd140 : am_Sd 140 sp140 := by
  refine am_Sd_of (by decide) (fun vs μ μ' x h hv hM => ?_)
  obtain ⟨o, vs0, rfl, h0⟩ := am_aR_s h
  obtain ⟨a, vs1, rfl, h1⟩ := am_aJ_s h0
  obtain ⟨b, vs2, rfl, h2⟩ := am_aI_s h1
  obtain ⟨rfl, hz⟩ := am_a0_s h2
  refine ⟨Nat.le_of_ble_eq_true rfl, fun X C hG hr => ?_⟩
  have h := hz
  unfold fn140 at h
  exact (show am_W X C 140 _ 0 0 0 [(0, .inr (.inr (8, o))), (1, .inr (.inl a)), (3, .inl b)] [] μ from (am_c_aload_n hG (pc := 0) d140_0 rfl (x_get_n (v := .inr (.inl (μ o 4))) hG (pc := 1) d140_1 mo140 f8_80 rfl (am_c_aload_n hG (pc := 4) d140_4 rfl (x_get_n (v := .inr (.inl (μ o 3))) hG (pc := 5) d140_5 mo140 f8_77 rfl (am_c_lsub hG (pc := 8) d140_8 (am_c_ldc2 hG (pc := 9) d140_9 (v := 27720) (by decide +kernel) (am_c_lmul hG (pc := 12) d140_12 (x_lstore (lv' := [(4, .inr (.inl (w64 ((w64 ((μ o 4) - (μ o 3))) * 27720)))), (0, .inr (.inr (8, o))), (1, .inr (.inl a)), (3, .inl b)]) hG (pc := 13) d140_13 (ml140 _ (by decide)) rfl (am_c_lload hG (pc := 15) d140_15 rfl (am_c_lconst hG (pc := 17) d140_17 (am_c_lcmp hG (pc := 18) d140_18 (x_if_gt (tgt := 27) hG (pc := 19) d140_19 rfl h (fun h => (am_c_ldc2 hG (pc := 27) d140_27 (v := 2) (by decide +kernel) (am_c_lload_n hG (pc := 30) d140_30 rfl (am_c_aload_n hG (pc := 31) d140_31 rfl (x_get_n (v := .inr (.inl (μ o 3))) hG (pc := 32) d140_32 mo140 f8_77 rfl (am_c_ldc2 hG (pc := 35) d140_35 (v := 27720) (by decide +kernel) (am_c_lmul hG (pc := 38) d140_38 (am_c_lsub hG (pc := 39) d140_39 (am_c_lmul hG (pc := 40) d140_40 (am_c_iload_n hG (pc := 41) d140_41 rfl (am_c_bipush hG (pc := 42) d140_42 (by decide) (am_c_isub hG (pc := 44) d140_44 (am_c_iconst hG (pc := 45) d140_45 (by decide) (am_c_isub hG (pc := 46) d140_46 (am_c_i2l hG (pc := 47) d140_47 (am_c_lmul hG (pc := 48) d140_48 (x_lstore (lv' := [(6, .inr (.inl (w64 ((w64 (2 * (w64 (a - (w64 ((μ o 3) * 27720)))))) * (w32 ((w32 (b - 9)) - 1)))))), (4, .inr (.inl (w64 ((w64 ((μ o 4) - (μ o 3))) * 27720)))), (0, .inr (.inr (8, o))), (1, .inr (.inl a)), (3, .inl b)]) hG (pc := 49) d140_49 (ml140 _ (by decide)) rfl (am_c_iload_n hG (pc := 51) d140_51 rfl (am_c_bipush hG (pc := 52) d140_52 (by decide) (am_c_isub hG (pc := 54) d140_54 (am_c_lload hG (pc := 55) d140_55 rfl (am_c_lload hG (pc := 57) d140_57 rfl (am_c_ladd hG (pc := 59) d140_59 (am_c_ldc2 hG (pc := 60) d140_60 (v := 2) (by decide +kernel) (am_c_lload hG (pc := 63) d140_63 rfl (am_c_lmul hG (pc := 65) d140_65 (x_static_l (as := [.inr (.inl (w64 ((w64 ((w64 (2 * (w64 (a - (w64 ((μ o 3) * 27720)))))) * (w32 ((w32 (b - 9)) - 1)))) + (w64 ((w64 ((μ o 4) - (μ o 3))) * 27720))))), .inr (.inl (w64 (2 * (w64 ((w64 ((μ o 4) - (μ o 3))) * 27720)))))]) (rest := [.inl (w32 (b - 9))]) hG (pc := 66) d140_66 mo140 m8_74 (by decide) dp140_112 rfl rfl (Nat.le_of_ble_eq_true rfl) (Nat.le_of_ble_eq_true rfl) rg112 sd112 (e112 _ _ _) h (fun z1 h => (am_c_l2i hG (pc := 69) d140_69 (am_c_isub hG (pc := 70) d140_70 (x_iret hG (by decide) hr (pc := 71) d140_71 mr140 h))))))))))))))))))))))))))))))) (fun h => (am_c_iload_n hG (pc := 22) d140_22 rfl (am_c_bipush hG (pc := 23) d140_23 (by decide) (am_c_isub hG (pc := 25) d140_25 (x_iret hG (by decide) hr (pc := 26) d140_26 mr140 h))))))))))))))))))
/-! ChartPress.tickRow(I)I -/
theorem D141 (k : Nat) {pc : Nat} {i : Instr} (h : tbi141[k]? = some (pc, i)) (hs : am_isw i = false) {n : Nat} (hn : am_il i = n) : decode (am_mc 141) pc = .ok (i, n) := am_d2 (by decide) (by decide) rfl h hs hn
theorem d141_0 : decode (am_mc 141) 0 = .ok (.aload_n 0, 1) := D141 0 rfl rfl rfl
theorem d141_1 : decode (am_mc 141) 1 = .ok (.getfield 45, 3) := D141 1 rfl rfl rfl
theorem d141_4 : decode (am_mc 141) 4 = .ok (.aload_n 0, 1) := D141 2 rfl rfl rfl
theorem d141_5 : decode (am_mc 141) 5 = .ok (.getfield 45, 3) := D141 3 rfl rfl rfl
theorem d141_8 : decode (am_mc 141) 8 = .ok (.iload_n 1, 1) := D141 4 rfl rfl rfl
theorem d141_9 : decode (am_mc 141) 9 = .ok (.invokevirtual 240, 3) := D141 5 rfl rfl rfl
theorem d141_12 : decode (am_mc 141) 12 = .ok (.ldc2_w 196, 3) := D141 6 rfl rfl rfl
theorem d141_15 : decode (am_mc 141) 15 = .ok (.lmul, 1) := D141 7 rfl rfl rfl
theorem d141_16 : decode (am_mc 141) 16 = .ok (.aload_n 0, 1) := D141 8 rfl rfl rfl
theorem d141_17 : decode (am_mc 141) 17 = .ok (.getfield 59, 3) := D141 9 rfl rfl rfl
theorem d141_20 : decode (am_mc 141) 20 = .ok (.invokevirtual 237, 3) := D141 10 rfl rfl rfl
theorem d141_23 : decode (am_mc 141) 23 = .ok (.invokevirtual 275, 3) := D141 11 rfl rfl rfl
theorem d141_26 : decode (am_mc 141) 26 = .ok (.ireturn, 1) := D141 12 rfl rfl rfl
theorem ml141 : ∀ n, n < 2 → n < am_ml 141 := fun _ h => h
theorem mo141 : am_mo 141 = 0 := by decide +kernel
theorem mr141 : am_mr 141 = some .int := by decide +kernel
theorem rg141 : am_rcg 141 = 1 := by decide +kernel
theorem f0_45 : tb_f 0 45 = some (0, 5, 5, 8) := by decide +kernel
theorem m0_237 : tb_m 0 237 = some (139, 1, 1, 0) := by decide +kernel
theorem m0_240 : tb_m 0 240 = some (116, 2, 2, 0) := by decide +kernel
theorem m0_275 : tb_m 0 275 = some (140, 3, 1, 0) := by decide +kernel
theorem dp141_116 : am_md 116 + 1 ≤ am_md 141 ∧ 8 + (am_ml 116 + 11) + am_lr 116 ≤ am_lr 141 := by decide +kernel
theorem dp141_139 : am_md 139 + 1 ≤ am_md 141 ∧ 8 + (am_ml 139 + 11) + am_lr 139 ≤ am_lr 141 := by decide +kernel
theorem dp141_140 : am_md 140 + 1 ≤ am_md 141 ∧ 8 + (am_ml 140 + 11) + am_lr 140 ≤ am_lr 141 := by decide +kernel
def fn141 (o : Nat) (a : Int) (μ : am_M) : Option (Int × am_M) := (am_op (fn116 (am_ref o 5) a μ) (fun z1 => (am_op (fn139 (am_ref o 7) z1.2) (fun z2 => (am_op (fn140 (am_ref o 5) (w64 (z1.1 * 27720)) z2.1 z2.2) (fun z3 => some (z3.1, z3.2)))))))
def sp141 : am_F := fun vs μ => am_aR 0 vs fun o vs => am_aI vs fun a vs => am_a0 vs (fn141 o a μ)
theorem e141 (o : Nat) (a : Int) (μ : am_M) : sp141 [.inr (.inr (0, o)), .inl a] μ = fn141 o a μ := by simp only [sp141, am_aR_c, am_aI_c, am_aJ_c, am_a0_c]
theorem sd141 : am_Sd 141 sp141 := by
  refine am_Sd_of (by decide) (fun vs μ μ' x h hv hM => ?_)
  obtain ⟨o, vs0, rfl, h0⟩ := am_aR_s h
  obtain ⟨a, vs1, rfl, h1⟩ := am_aI_s h0
  obtain ⟨rfl, hz⟩ := am_a0_s h1
  refine ⟨Nat.le_of_ble_eq_true rfl, fun X C hG hr => ?_⟩
  have h := hz
  unfold fn141 at h
  exact (show am_W X C 141 _ 0 0 0 [(0, .inr (.inr (0, o))), (1, .inl a)] [] μ from (am_c_aload_n hG (pc := 0) d141_0 rfl (x_get_n (v := .inr (.inr (8, am_ref o 5))) hG (pc := 1) d141_1 mo141 f0_45 rfl (am_c_aload_n hG (pc := 4) d141_4 rfl (x_get_n (v := .inr (.inr (8, am_ref o 5))) hG (pc := 5) d141_5 mo141 f0_45 rfl (am_c_iload_n hG (pc := 8) d141_8 rfl (x_virtual_l (t := 8) (o := am_ref o 5) (as2 := [.inl a]) (rest := [.inr (.inr (8, am_ref o 5))]) hG (pc := 9) d141_9 mo141 m0_240 (by decide) dp141_116 rfl rfl (Nat.le_of_ble_eq_true rfl) (Nat.le_of_ble_eq_true rfl) rg116 sd116 (e116 _ _ _) h (fun z1 h => (am_c_ldc2 hG (pc := 12) d141_12 (v := 27720) (by decide +kernel) (am_c_lmul hG (pc := 15) d141_15 (am_c_aload_n hG (pc := 16) d141_16 rfl (x_get_n (v := .inr (.inr (10, am_ref o 7))) hG (pc := 17) d141_17 mo141 f0_59 rfl (x_virtual_i (t := 10) (o := am_ref o 7) (as2 := []) (rest := [.inr (.inl (w64 (z1.1 * 27720))), .inr (.inr (8, am_ref o 5))]) hG (pc := 20) d141_20 mo141 m0_237 (by decide) dp141_139 rfl rfl (Nat.le_of_ble_eq_true rfl) (Nat.le_of_ble_eq_true rfl) rg139 sd139 (e139 _ _) h (fun z2 h => (x_virtual_i (t := 8) (o := am_ref o 5) (as2 := [.inr (.inl (w64 (z1.1 * 27720))), .inl z2.1]) (rest := []) hG (pc := 23) d141_23 mo141 m0_275 (by decide) dp141_140 rfl rfl (Nat.le_of_ble_eq_true rfl) (Nat.le_of_ble_eq_true rfl) rg140 sd140 (e140 _ _ _ _) h (fun z3 h => (x_iret hG (by decide) hr (pc := 26) d141_26 mr141 h)))))))))))))))))
/-! ChartPress$Layout.labelStride()I -/
theorem D146 (k : Nat) {pc : Nat} {i : Instr} (h : tbi146[k]? = some (pc, i)) (hs : am_isw i = false) {n : Nat} (hn : am_il i = n) : decode (am_mc 146) pc = .ok (i, n) := am_d2 (by decide) (by decide) rfl h hs hn
theorem d146_0 : decode (am_mc 146) 0 = .ok (.aload_n 0, 1) := D146 0 rfl rfl rfl
theorem d146_1 : decode (am_mc 146) 1 = .ok (.getfield 85, 3) := D146 1 rfl rfl rfl
theorem d146_4 : decode (am_mc 146) 4 = .ok (.ireturn, 1) := D146 2 rfl rfl rfl
theorem ml146 : ∀ n, n < 1 → n < am_ml 146 := fun _ h => h
theorem mo146 : am_mo 146 = 9 := by decide +kernel
theorem mr146 : am_mr 146 = some .int := by decide +kernel
theorem rg146 : am_rcg 146 = 10 := by decide +kernel
theorem f9_85 : tb_f 9 85 = some (9, 5, 0, 0) := by decide +kernel
def fn146 (o : Nat) (μ : am_M) : Option (Int × am_M) := some (μ o 5, μ)
def sp146 : am_F := fun vs μ => am_aR 9 vs fun o vs => am_a0 vs (fn146 o μ)
theorem e146 (o : Nat) (μ : am_M) : sp146 [.inr (.inr (9, o))] μ = fn146 o μ := by simp only [sp146, am_aR_c, am_aI_c, am_aJ_c, am_a0_c]
theorem sd146 : am_Sd 146 sp146 := by
  refine am_Sd_of (by decide) (fun vs μ μ' x h hv hM => ?_)
  obtain ⟨o, vs0, rfl, h0⟩ := am_aR_s h
  obtain ⟨rfl, hz⟩ := am_a0_s h0
  refine ⟨Nat.le_of_ble_eq_true rfl, fun X C hG hr => ?_⟩
  have h := hz
  unfold fn146 at h
  exact (show am_W X C 146 _ 0 0 0 [(0, .inr (.inr (9, o)))] [] μ from (am_c_aload_n hG (pc := 0) d146_0 rfl (x_get_n (v := .inl (μ o 5)) hG (pc := 1) d146_1 mo146 f9_85 rfl (x_iret hG (by decide) hr (pc := 4) d146_4 mr146 h))))
/-! ChartPress$Layout.labelStart(I)I -/
theorem D147 (k : Nat) {pc : Nat} {i : Instr} (h : tbi147[k]? = some (pc, i)) (hs : am_isw i = false) {n : Nat} (hn : am_il i = n) : decode (am_mc 147) pc = .ok (i, n) := am_d2 (by decide) (by decide) rfl h hs hn
theorem d147_0 : decode (am_mc 147) 0 = .ok (.iload_n 1, 1) := D147 0 rfl rfl rfl
theorem d147_1 : decode (am_mc 147) 1 = .ok (.ifCond .lt 21, 3) := D147 1 rfl rfl rfl
theorem d147_4 : decode (am_mc 147) 4 = .ok (.iload_n 1, 1) := D147 2 rfl rfl rfl
theorem d147_5 : decode (am_mc 147) 5 = .ok (.aload_n 0, 1) := D147 3 rfl rfl rfl
theorem d147_6 : decode (am_mc 147) 6 = .ok (.getfield 9, 3) := D147 4 rfl rfl rfl
theorem d147_9 : decode (am_mc 147) 9 = .ok (.arraylength, 1) := D147 5 rfl rfl rfl
theorem d147_10 : decode (am_mc 147) 10 = .ok (.if_icmp .ge 12, 3) := D147 6 rfl rfl rfl
theorem d147_13 : decode (am_mc 147) 13 = .ok (.aload_n 0, 1) := D147 7 rfl rfl rfl
theorem d147_14 : decode (am_mc 147) 14 = .ok (.getfield 9, 3) := D147 8 rfl rfl rfl
theorem d147_17 : decode (am_mc 147) 17 = .ok (.iload_n 1, 1) := D147 9 rfl rfl rfl
theorem d147_18 : decode (am_mc 147) 18 = .ok (.iaload, 1) := D147 10 rfl rfl rfl
theorem d147_19 : decode (am_mc 147) 19 = .ok (.goto 4, 3) := D147 11 rfl rfl rfl
theorem d147_22 : decode (am_mc 147) 22 = .ok (.iconst 0, 1) := D147 12 rfl rfl rfl
theorem d147_23 : decode (am_mc 147) 23 = .ok (.ireturn, 1) := D147 13 rfl rfl rfl
theorem ml147 : ∀ n, n < 2 → n < am_ml 147 := fun _ h => h
theorem mo147 : am_mo 147 = 9 := by decide +kernel
theorem mr147 : am_mr 147 = some .int := by decide +kernel
theorem rg147 : am_rcg 147 = 10 := by decide +kernel
theorem f9_9 : tb_f 9 9 = some (9, 0, 5, 16) := by decide +kernel
def fn147 (o : Nat) (a : Int) (μ : am_M) : Option (Int × am_M) := (if a < 0 then some (0, μ) else (if a < ((am_len (am_ref o 0) : Nat) : Int) then (if (0 : Int) ≤ a ∧ a < ((am_len (am_ref o 0) : Nat) : Int) then some (μ (am_ref o 0) (a : Int).toNat, μ) else none) else some (0, μ)))
def sp147 : am_F := fun vs μ => am_aR 9 vs fun o vs => am_aI vs fun a vs => am_a0 vs (fn147 o a μ)
theorem e147 (o : Nat) (a : Int) (μ : am_M) : sp147 [.inr (.inr (9, o)), .inl a] μ = fn147 o a μ := by simp only [sp147, am_aR_c, am_aI_c, am_aJ_c, am_a0_c]
theorem sd147 : am_Sd 147 sp147 := by
  refine am_Sd_of (by decide) (fun vs μ μ' x h hv hM => ?_)
  obtain ⟨o, vs0, rfl, h0⟩ := am_aR_s h
  obtain ⟨a, vs1, rfl, h1⟩ := am_aI_s h0
  obtain ⟨rfl, hz⟩ := am_a0_s h1
  refine ⟨Nat.le_of_ble_eq_true rfl, fun X C hG hr => ?_⟩
  have h := hz
  unfold fn147 at h
  exact (show am_W X C 147 _ 0 0 0 [(0, .inr (.inr (9, o))), (1, .inl a)] [] μ from (am_c_iload_n hG (pc := 0) d147_0 rfl (x_if_lt (tgt := 22) hG (pc := 1) d147_1 rfl h (fun h => (am_c_iconst hG (pc := 22) d147_22 (by decide) (x_iret hG (by decide) hr (pc := 23) d147_23 mr147 h))) (fun h => (am_c_iload_n hG (pc := 4) d147_4 rfl (am_c_aload_n hG (pc := 5) d147_5 rfl (x_get_n (v := .inr (.inr (16, am_ref o 0))) hG (pc := 6) d147_6 mo147 f9_9 rfl (am_c_len hG (pc := 9) d147_9 (by decide) (x_icmp_ge (tgt := 22) hG (pc := 10) d147_10 rfl h (fun h => (am_c_iconst hG (pc := 22) d147_22 (by decide) (x_iret hG (by decide) hr (pc := 23) d147_23 mr147 h))) (fun h => (am_c_aload_n hG (pc := 13) d147_13 rfl (x_get_n (v := .inr (.inr (16, am_ref o 0))) hG (pc := 14) d147_14 mo147 f9_9 rfl (am_c_iload_n hG (pc := 17) d147_17 rfl (x_iaload hG (pc := 18) d147_18 h (fun h => (x_goto (tgt := 23) hG (pc := 19) d147_19 rfl (x_iret hG (by decide) hr (pc := 23) d147_23 mr147 h)))))))))))))))))
/-! ChartPress$Sheet.labelRow()I -/
theorem D148 (k : Nat) {pc : Nat} {i : Instr} (h : tbi148[k]? = some (pc, i)) (hs : am_isw i = false) {n : Nat} (hn : am_il i = n) : decode (am_mc 148) pc = .ok (i, n) := am_d2 (by decide) (by decide) rfl h hs hn
theorem d148_0 : decode (am_mc 148) 0 = .ok (.aload_n 0, 1) := D148 0 rfl rfl rfl
theorem d148_1 : decode (am_mc 148) 1 = .ok (.getfield 19, 3) := D148 1 rfl rfl rfl
theorem d148_4 : decode (am_mc 148) 4 = .ok (.bipush 6, 2) := D148 2 rfl rfl rfl
theorem d148_6 : decode (am_mc 148) 6 = .ok (.isub, 1) := D148 3 rfl rfl rfl
theorem d148_7 : decode (am_mc 148) 7 = .ok (.ireturn, 1) := D148 4 rfl rfl rfl
theorem ml148 : ∀ n, n < 1 → n < am_ml 148 := fun _ h => h
theorem mo148 : am_mo 148 = 10 := by decide +kernel
theorem mr148 : am_mr 148 = some .int := by decide +kernel
theorem rg148 : am_rcg 148 = 11 := by decide +kernel
def fn148 (o : Nat) (μ : am_M) : Option (Int × am_M) := some (w32 ((μ o 2) - 6), μ)
def sp148 : am_F := fun vs μ => am_aR 10 vs fun o vs => am_a0 vs (fn148 o μ)
theorem e148 (o : Nat) (μ : am_M) : sp148 [.inr (.inr (10, o))] μ = fn148 o μ := by simp only [sp148, am_aR_c, am_aI_c, am_aJ_c, am_a0_c]
theorem sd148 : am_Sd 148 sp148 := by
  refine am_Sd_of (by decide) (fun vs μ μ' x h hv hM => ?_)
  obtain ⟨o, vs0, rfl, h0⟩ := am_aR_s h
  obtain ⟨rfl, hz⟩ := am_a0_s h0
  refine ⟨Nat.le_of_ble_eq_true rfl, fun X C hG hr => ?_⟩
  have h := hz
  unfold fn148 at h
  exact (show am_W X C 148 _ 0 0 0 [(0, .inr (.inr (10, o)))] [] μ from (am_c_aload_n hG (pc := 0) d148_0 rfl (x_get_n (v := .inl (μ o 2)) hG (pc := 1) d148_1 mo148 f10_19 rfl (am_c_bipush hG (pc := 4) d148_4 (by decide) (am_c_isub hG (pc := 6) d148_6 (x_iret hG (by decide) hr (pc := 7) d148_7 mr148 h))))))
/-! ChartPress.groupRow(I)I -/
theorem D152 (k : Nat) {pc : Nat} {i : Instr} (h : tbi152[k]? = some (pc, i)) (hs : am_isw i = false) {n : Nat} (hn : am_il i = n) : decode (am_mc 152) pc = .ok (i, n) := am_d2 (by decide) (by decide) rfl h hs hn
theorem d152_0 : decode (am_mc 152) 0 = .ok (.aload_n 0, 1) := D152 0 rfl rfl rfl
theorem d152_1 : decode (am_mc 152) 1 = .ok (.getfield 45, 3) := D152 1 rfl rfl rfl
theorem d152_4 : decode (am_mc 152) 4 = .ok (.aload_n 0, 1) := D152 2 rfl rfl rfl
theorem d152_5 : decode (am_mc 152) 5 = .ok (.getfield 38, 3) := D152 3 rfl rfl rfl
theorem d152_8 : decode (am_mc 152) 8 = .ok (.iload_n 1, 1) := D152 4 rfl rfl rfl
theorem d152_9 : decode (am_mc 152) 9 = .ok (.invokevirtual 192, 3) := D152 5 rfl rfl rfl
theorem d152_12 : decode (am_mc 152) 12 = .ok (.aload_n 0, 1) := D152 6 rfl rfl rfl
theorem d152_13 : decode (am_mc 152) 13 = .ok (.getfield 59, 3) := D152 7 rfl rfl rfl
theorem d152_16 : decode (am_mc 152) 16 = .ok (.invokevirtual 237, 3) := D152 8 rfl rfl rfl
theorem d152_19 : decode (am_mc 152) 19 = .ok (.invokevirtual 275, 3) := D152 9 rfl rfl rfl
theorem d152_22 : decode (am_mc 152) 22 = .ok (.ireturn, 1) := D152 10 rfl rfl rfl
theorem ml152 : ∀ n, n < 2 → n < am_ml 152 := fun _ h => h
theorem mo152 : am_mo 152 = 0 := by decide +kernel
theorem mr152 : am_mr 152 = some .int := by decide +kernel
theorem rg152 : am_rcg 152 = 1 := by decide +kernel
theorem f0_38 : tb_f 0 38 = some (0, 4, 5, 6) := by decide +kernel
theorem m0_192 : tb_m 0 192 = some (109, 2, 2, 0) := by decide +kernel
theorem dp152_109 : am_md 109 + 1 ≤ am_md 152 ∧ 8 + (am_ml 109 + 11) + am_lr 109 ≤ am_lr 152 := by decide +kernel
theorem dp152_139 : am_md 139 + 1 ≤ am_md 152 ∧ 8 + (am_ml 139 + 11) + am_lr 139 ≤ am_lr 152 := by decide +kernel
theorem dp152_140 : am_md 140 + 1 ≤ am_md 152 ∧ 8 + (am_ml 140 + 11) + am_lr 140 ≤ am_lr 152 := by decide +kernel
def fn152 (o : Nat) (a : Int) (μ : am_M) : Option (Int × am_M) := (am_op (fn109 (am_ref o 4) a μ) (fun z1 => (am_op (fn139 (am_ref o 7) z1.2) (fun z2 => (am_op (fn140 (am_ref o 5) z1.1 z2.1 z2.2) (fun z3 => some (z3.1, z3.2)))))))
def sp152 : am_F := fun vs μ => am_aR 0 vs fun o vs => am_aI vs fun a vs => am_a0 vs (fn152 o a μ)
theorem e152 (o : Nat) (a : Int) (μ : am_M) : sp152 [.inr (.inr (0, o)), .inl a] μ = fn152 o a μ := by simp only [sp152, am_aR_c, am_aI_c, am_aJ_c, am_a0_c]
theorem sd152 : am_Sd 152 sp152 := by
  refine am_Sd_of (by decide) (fun vs μ μ' x h hv hM => ?_)
  obtain ⟨o, vs0, rfl, h0⟩ := am_aR_s h
  obtain ⟨a, vs1, rfl, h1⟩ := am_aI_s h0
  obtain ⟨rfl, hz⟩ := am_a0_s h1
  refine ⟨Nat.le_of_ble_eq_true rfl, fun X C hG hr => ?_⟩
  have h := hz
  unfold fn152 at h
  exact (show am_W X C 152 _ 0 0 0 [(0, .inr (.inr (0, o))), (1, .inl a)] [] μ from (am_c_aload_n hG (pc := 0) d152_0 rfl (x_get_n (v := .inr (.inr (8, am_ref o 5))) hG (pc := 1) d152_1 mo152 f0_45 rfl (am_c_aload_n hG (pc := 4) d152_4 rfl (x_get_n (v := .inr (.inr (6, am_ref o 4))) hG (pc := 5) d152_5 mo152 f0_38 rfl (am_c_iload_n hG (pc := 8) d152_8 rfl (x_virtual_l (t := 6) (o := am_ref o 4) (as2 := [.inl a]) (rest := [.inr (.inr (8, am_ref o 5))]) hG (pc := 9) d152_9 mo152 m0_192 (by decide) dp152_109 rfl rfl (Nat.le_of_ble_eq_true rfl) (Nat.le_of_ble_eq_true rfl) rg109 sd109 (e109 _ _ _) h (fun z1 h => (am_c_aload_n hG (pc := 12) d152_12 rfl (x_get_n (v := .inr (.inr (10, am_ref o 7))) hG (pc := 13) d152_13 mo152 f0_59 rfl (x_virtual_i (t := 10) (o := am_ref o 7) (as2 := []) (rest := [.inr (.inl z1.1), .inr (.inr (8, am_ref o 5))]) hG (pc := 16) d152_16 mo152 m0_237 (by decide) dp152_139 rfl rfl (Nat.le_of_ble_eq_true rfl) (Nat.le_of_ble_eq_true rfl) rg139 sd139 (e139 _ _) h (fun z2 h => (x_virtual_i (t := 8) (o := am_ref o 5) (as2 := [.inr (.inl z1.1), .inl z2.1]) (rest := []) hG (pc := 19) d152_19 mo152 m0_275 (by decide) dp152_140 rfl rfl (Nat.le_of_ble_eq_true rfl) (Nat.le_of_ble_eq_true rfl) rg140 sd140 (e140 _ _ _ _) h (fun z3 h => (x_iret hG (by decide) hr (pc := 22) d152_22 mr152 h)))))))))))))))
/-! java/lang/Math.abs(I)I -/
theorem D153 (k : Nat) {pc : Nat} {i : Instr} (h : tbi153[k]? = some (pc, i)) (hs : am_isw i = false) {n : Nat} (hn : am_il i = n) : decode (am_mc 153) pc = .ok (i, n) := am_d2 (by decide) (by decide) rfl h hs hn
theorem d153_0 : decode (am_mc 153) 0 = .ok (.iload_n 0, 1) := D153 0 rfl rfl rfl
theorem d153_1 : decode (am_mc 153) 1 = .ok (.ifCond .ge 8, 3) := D153 1 rfl rfl rfl
theorem d153_4 : decode (am_mc 153) 4 = .ok (.iload_n 0, 1) := D153 2 rfl rfl rfl
theorem d153_5 : decode (am_mc 153) 5 = .ok (.ineg, 1) := D153 3 rfl rfl rfl
theorem d153_6 : decode (am_mc 153) 6 = .ok (.goto 4, 3) := D153 4 rfl rfl rfl
theorem d153_9 : decode (am_mc 153) 9 = .ok (.iload_n 0, 1) := D153 5 rfl rfl rfl
theorem d153_10 : decode (am_mc 153) 10 = .ok (.ireturn, 1) := D153 6 rfl rfl rfl
theorem ml153 : ∀ n, n < 1 → n < am_ml 153 := fun _ h => h
theorem mo153 : am_mo 153 = 13 := by decide +kernel
theorem mr153 : am_mr 153 = some .int := by decide +kernel
theorem rg153 : am_rcg 153 = 0 := by decide +kernel
def fn153 (a : Int) (μ : am_M) : Option (Int × am_M) := (if a < 0 then some (w32 (-a), μ) else some (a, μ))
def sp153 : am_F := fun vs μ => am_aI vs fun a vs => am_a0 vs (fn153 a μ)
theorem e153 (a : Int) (μ : am_M) : sp153 [.inl a] μ = fn153 a μ := by simp only [sp153, am_aR_c, am_aI_c, am_aJ_c, am_a0_c]
theorem sd153 : am_Sd 153 sp153 := by
  refine am_Sd_of (by decide) (fun vs μ μ' x h hv hM => ?_)
  obtain ⟨a, vs0, rfl, h0⟩ := am_aI_s h
  obtain ⟨rfl, hz⟩ := am_a0_s h0
  refine ⟨Nat.le_of_ble_eq_true rfl, fun X C hG hr => ?_⟩
  have h := hz
  unfold fn153 at h
  exact (show am_W X C 153 _ 0 0 0 [(0, .inl a)] [] μ from (am_c_iload_n hG (pc := 0) d153_0 rfl (x_if_ge (tgt := 9) hG (pc := 1) d153_1 rfl h (fun h => (am_c_iload_n hG (pc := 9) d153_9 rfl (x_iret hG (by decide) hr (pc := 10) d153_10 mr153 h))) (fun h => (am_c_iload_n hG (pc := 4) d153_4 rfl (am_c_ineg hG (pc := 5) d153_5 (x_goto (tgt := 10) hG (pc := 6) d153_6 rfl (x_iret hG (by decide) hr (pc := 10) d153_10 mr153 h))))))))
/-! ChartPress.paintInArea(II)V -/
theorem D156 (k : Nat) {pc : Nat} {i : Instr} (h : tbi156[k]? = some (pc, i)) (hs : am_isw i = false) {n : Nat} (hn : am_il i = n) : decode (am_mc 156) pc = .ok (i, n) := am_d2 (by decide) (by decide) rfl h hs hn
theorem d156_0 : decode (am_mc 156) 0 = .ok (.iload_n 1, 1) := D156 0 rfl rfl rfl
theorem d156_1 : decode (am_mc 156) 1 = .ok (.aload_n 0, 1) := D156 1 rfl rfl rfl
theorem d156_2 : decode (am_mc 156) 2 = .ok (.getfield 52, 3) := D156 2 rfl rfl rfl
theorem d156_5 : decode (am_mc 156) 5 = .ok (.invokevirtual 173, 3) := D156 3 rfl rfl rfl
theorem d156_8 : decode (am_mc 156) 8 = .ok (.if_icmp .lt 40, 3) := D156 4 rfl rfl rfl
theorem d156_11 : decode (am_mc 156) 11 = .ok (.iload_n 1, 1) := D156 5 rfl rfl rfl
theorem d156_12 : decode (am_mc 156) 12 = .ok (.aload_n 0, 1) := D156 6 rfl rfl rfl
theorem d156_13 : decode (am_mc 156) 13 = .ok (.getfield 59, 3) := D156 7 rfl rfl rfl
theorem d156_16 : decode (am_mc 156) 16 = .ok (.invokevirtual 227, 3) := D156 8 rfl rfl rfl
theorem d156_19 : decode (am_mc 156) 19 = .ok (.if_icmp .gt 29, 3) := D156 9 rfl rfl rfl
theorem d156_22 : decode (am_mc 156) 22 = .ok (.iload_n 2, 1) := D156 10 rfl rfl rfl
theorem d156_23 : decode (am_mc 156) 23 = .ok (.iconst 1, 1) := D156 11 rfl rfl rfl
theorem d156_24 : decode (am_mc 156) 24 = .ok (.if_icmp .lt 24, 3) := D156 12 rfl rfl rfl
theorem d156_27 : decode (am_mc 156) 27 = .ok (.iload_n 2, 1) := D156 13 rfl rfl rfl
theorem d156_28 : decode (am_mc 156) 28 = .ok (.aload_n 0, 1) := D156 14 rfl rfl rfl
theorem d156_29 : decode (am_mc 156) 29 = .ok (.getfield 59, 3) := D156 15 rfl rfl rfl
theorem d156_32 : decode (am_mc 156) 32 = .ok (.invokevirtual 220, 3) := D156 16 rfl rfl rfl
theorem d156_35 : decode (am_mc 156) 35 = .ok (.if_icmp .gt 13, 3) := D156 17 rfl rfl rfl
theorem d156_38 : decode (am_mc 156) 38 = .ok (.aload_n 0, 1) := D156 18 rfl rfl rfl
theorem d156_39 : decode (am_mc 156) 39 = .ok (.getfield 59, 3) := D156 19 rfl rfl rfl
theorem d156_42 : decode (am_mc 156) 42 = .ok (.iload_n 1, 1) := D156 20 rfl rfl rfl
theorem d156_43 : decode (am_mc 156) 43 = .ok (.iload_n 2, 1) := D156 21 rfl rfl rfl
theorem d156_44 : decode (am_mc 156) 44 = .ok (.iconst 3, 1) := D156 22 rfl rfl rfl
theorem d156_45 : decode (am_mc 156) 45 = .ok (.invokevirtual 233, 3) := D156 23 rfl rfl rfl
theorem d156_48 : decode (am_mc 156) 48 = .ok (.return_, 1) := D156 24 rfl rfl rfl
theorem ml156 : ∀ n, n < 3 → n < am_ml 156 := fun _ h => h
theorem mo156 : am_mo 156 = 0 := by decide +kernel
theorem rk156 : am_rk 156 = 0 := by decide +kernel
theorem rg156 : am_rcg 156 = 1 := by decide +kernel
theorem f0_52 : tb_f 0 52 = some (0, 6, 5, 9) := by decide +kernel
theorem m0_173 : tb_m 0 173 = some (135, 1, 1, 0) := by decide +kernel
theorem m0_220 : tb_m 0 220 = some (136, 1, 1, 0) := by decide +kernel
theorem m0_227 : tb_m 0 227 = some (123, 1, 1, 0) := by decide +kernel
theorem m0_233 : tb_m 0 233 = some (137, 4, 0, 0) := by decide +kernel
theorem dp156_123 : am_md 123 + 1 ≤ am_md 156 ∧ 8 + (am_ml 123 + 11) + am_lr 123 ≤ am_lr 156 := by decide +kernel
theorem dp156_135 : am_md 135 + 1 ≤ am_md 156 ∧ 8 + (am_ml 135 + 11) + am_lr 135 ≤ am_lr 156 := by decide +kernel
theorem dp156_136 : am_md 136 + 1 ≤ am_md 156 ∧ 8 + (am_ml 136 + 11) + am_lr 136 ≤ am_lr 156 := by decide +kernel
theorem dp156_137 : am_md 137 + 1 ≤ am_md 156 ∧ 8 + (am_ml 137 + 11) + am_lr 137 ≤ am_lr 156 := by decide +kernel
def fn156 (o : Nat) (a : Int) (b : Int) (μ : am_M) : Option (Int × am_M) := (am_op (fn135 (am_ref o 6) μ) (fun z1 => (if a < z1.1 then some (0, z1.2) else (am_op (fn123 (am_ref o 7) z1.2) (fun z2 => (if z2.1 < a then some (0, z2.2) else (if b < 1 then some (0, z2.2) else (am_op (fn136 (am_ref o 7) z2.2) (fun z3 => (if z3.1 < b then some (0, z3.2) else (am_op (fn137 (am_ref o 7) a b 3 z3.2) (fun z4 => some (0, z4.2)))))))))))))
def sp156 : am_F := fun vs μ => am_aR 0 vs fun o vs => am_aI vs fun a vs => am_aI vs fun b vs => am_a0 vs (fn156 o a b μ)
theorem e156 (o : Nat) (a : Int) (b : Int) (μ : am_M) : sp156 [.inr (.inr (0, o)), .inl a, .inl b] μ = fn156 o a b μ := by simp only [sp156, am_aR_c, am_aI_c, am_aJ_c, am_a0_c]
theorem sd156 : am_Sd 156 sp156 := by
  refine am_Sd_of (by decide) (fun vs μ μ' x h hv hM => ?_)
  obtain ⟨o, vs0, rfl, h0⟩ := am_aR_s h
  obtain ⟨a, vs1, rfl, h1⟩ := am_aI_s h0
  obtain ⟨b, vs2, rfl, h2⟩ := am_aI_s h1
  obtain ⟨rfl, hz⟩ := am_a0_s h2
  refine ⟨Nat.le_of_ble_eq_true rfl, fun X C hG hr => ?_⟩
  have h := hz
  unfold fn156 at h
  exact (show am_W X C 156 _ 0 0 0 [(0, .inr (.inr (0, o))), (1, .inl a), (2, .inl b)] [] μ from (am_c_iload_n hG (pc := 0) d156_0 rfl (am_c_aload_n hG (pc := 1) d156_1 rfl (x_get_n (v := .inr (.inr (9, am_ref o 6))) hG (pc := 2) d156_2 mo156 f0_52 rfl (x_virtual_i (t := 9) (o := am_ref o 6) (as2 := []) (rest := [.inl a]) hG (pc := 5) d156_5 mo156 m0_173 (by decide) dp156_135 rfl rfl (Nat.le_of_ble_eq_true rfl) (Nat.le_of_ble_eq_true rfl) rg135 sd135 (e135 _ _) h (fun z1 h => (x_icmp_lt (tgt := 48) hG (pc := 8) d156_8 rfl h (fun h => (x_vret hG (by decide) hr (pc := 48) d156_48 rk156 h)) (fun h => (am_c_iload_n hG (pc := 11) d156_11 rfl (am_c_aload_n hG (pc := 12) d156_12 rfl (x_get_n (v := .inr (.inr (10, am_ref o 7))) hG (pc := 13) d156_13 mo156 f0_59 rfl (x_virtual_i (t := 10) (o := am_ref o 7) (as2 := []) (rest := [.inl a]) hG (pc := 16) d156_16 mo156 m0_227 (by decide) dp156_123 rfl rfl (Nat.le_of_ble_eq_true rfl) (Nat.le_of_ble_eq_true rfl) rg123 sd123 (e123 _ _) h (fun z2 h => (x_icmp_gt (tgt := 48) hG (pc := 19) d156_19 rfl h (fun h => (x_vret hG (by decide) hr (pc := 48) d156_48 rk156 h)) (fun h => (am_c_iload_n hG (pc := 22) d156_22 rfl (am_c_iconst hG (pc := 23) d156_23 (by decide) (x_icmp_lt (tgt := 48) hG (pc := 24) d156_24 rfl h (fun h => (x_vret hG (by decide) hr (pc := 48) d156_48 rk156 h)) (fun h => (am_c_iload_n hG (pc := 27) d156_27 rfl (am_c_aload_n hG (pc := 28) d156_28 rfl (x_get_n (v := .inr (.inr (10, am_ref o 7))) hG (pc := 29) d156_29 mo156 f0_59 rfl (x_virtual_i (t := 10) (o := am_ref o 7) (as2 := []) (rest := [.inl b]) hG (pc := 32) d156_32 mo156 m0_220 (by decide) dp156_136 rfl rfl (Nat.le_of_ble_eq_true rfl) (Nat.le_of_ble_eq_true rfl) rg136 sd136 (e136 _ _) h (fun z3 h => (x_icmp_gt (tgt := 48) hG (pc := 35) d156_35 rfl h (fun h => (x_vret hG (by decide) hr (pc := 48) d156_48 rk156 h)) (fun h => (am_c_aload_n hG (pc := 38) d156_38 rfl (x_get_n (v := .inr (.inr (10, am_ref o 7))) hG (pc := 39) d156_39 mo156 f0_59 rfl (am_c_iload_n hG (pc := 42) d156_42 rfl (am_c_iload_n hG (pc := 43) d156_43 rfl (am_c_iconst hG (pc := 44) d156_44 (by decide) (x_virtual_v (t := 10) (o := am_ref o 7) (as2 := [.inl a, .inl b, .inl 3]) (rest := []) hG (pc := 45) d156_45 mo156 m0_233 (by decide) dp156_137 rfl rfl (Nat.le_of_ble_eq_true rfl) (Nat.le_of_ble_eq_true rfl) rg137 sd137 (e137 _ _ _ _ _) h (fun z4 h => (x_vret hG (by decide) hr (pc := 48) d156_48 rk156 h))))))))))))))))))))))))))))))))))
/-! ChartPress$Scale.first()J -/
theorem D159 (k : Nat) {pc : Nat} {i : Instr} (h : tbi159[k]? = some (pc, i)) (hs : am_isw i = false) {n : Nat} (hn : am_il i = n) : decode (am_mc 159) pc = .ok (i, n) := am_d2 (by decide) (by decide) rfl h hs hn
theorem d159_0 : decode (am_mc 159) 0 = .ok (.aload_n 0, 1) := D159 0 rfl rfl rfl
theorem d159_1 : decode (am_mc 159) 1 = .ok (.getfield 77, 3) := D159 1 rfl rfl rfl
theorem d159_4 : decode (am_mc 159) 4 = .ok (.lreturn, 1) := D159 2 rfl rfl rfl
theorem ml159 : ∀ n, n < 1 → n < am_ml 159 := fun _ h => h
theorem mo159 : am_mo 159 = 8 := by decide +kernel
theorem rk159 : am_rk 159 = 2 := by decide +kernel
theorem rg159 : am_rcg 159 = 9 := by decide +kernel
def fn159 (o : Nat) (μ : am_M) : Option (Int × am_M) := some (μ o 3, μ)
def sp159 : am_F := fun vs μ => am_aR 8 vs fun o vs => am_a0 vs (fn159 o μ)
theorem e159 (o : Nat) (μ : am_M) : sp159 [.inr (.inr (8, o))] μ = fn159 o μ := by simp only [sp159, am_aR_c, am_aI_c, am_aJ_c, am_a0_c]
theorem sd159 : am_Sd 159 sp159 := by
  refine am_Sd_of (by decide) (fun vs μ μ' x h hv hM => ?_)
  obtain ⟨o, vs0, rfl, h0⟩ := am_aR_s h
  obtain ⟨rfl, hz⟩ := am_a0_s h0
  refine ⟨Nat.le_of_ble_eq_true rfl, fun X C hG hr => ?_⟩
  have h := hz
  unfold fn159 at h
  exact (show am_W X C 159 _ 0 0 0 [(0, .inr (.inr (8, o)))] [] μ from (am_c_aload_n hG (pc := 0) d159_0 rfl (x_get_n (v := .inr (.inl (μ o 3))) hG (pc := 1) d159_1 mo159 f8_77 rfl (x_lret hG (by decide) hr (pc := 4) d159_4 rk159 h))))
/-! ChartPress$Scale.last()J -/
theorem D160 (k : Nat) {pc : Nat} {i : Instr} (h : tbi160[k]? = some (pc, i)) (hs : am_isw i = false) {n : Nat} (hn : am_il i = n) : decode (am_mc 160) pc = .ok (i, n) := am_d2 (by decide) (by decide) rfl h hs hn
theorem d160_0 : decode (am_mc 160) 0 = .ok (.aload_n 0, 1) := D160 0 rfl rfl rfl
theorem d160_1 : decode (am_mc 160) 1 = .ok (.getfield 80, 3) := D160 1 rfl rfl rfl
theorem d160_4 : decode (am_mc 160) 4 = .ok (.lreturn, 1) := D160 2 rfl rfl rfl
theorem ml160 : ∀ n, n < 1 → n < am_ml 160 := fun _ h => h
theorem mo160 : am_mo 160 = 8 := by decide +kernel
theorem rk160 : am_rk 160 = 2 := by decide +kernel
theorem rg160 : am_rcg 160 = 9 := by decide +kernel
def fn160 (o : Nat) (μ : am_M) : Option (Int × am_M) := some (μ o 4, μ)
def sp160 : am_F := fun vs μ => am_aR 8 vs fun o vs => am_a0 vs (fn160 o μ)
theorem e160 (o : Nat) (μ : am_M) : sp160 [.inr (.inr (8, o))] μ = fn160 o μ := by simp only [sp160, am_aR_c, am_aI_c, am_aJ_c, am_a0_c]
theorem sd160 : am_Sd 160 sp160 := by
  refine am_Sd_of (by decide) (fun vs μ μ' x h hv hM => ?_)
  obtain ⟨o, vs0, rfl, h0⟩ := am_aR_s h
  obtain ⟨rfl, hz⟩ := am_a0_s h0
  refine ⟨Nat.le_of_ble_eq_true rfl, fun X C hG hr => ?_⟩
  have h := hz
  unfold fn160 at h
  exact (show am_W X C 160 _ 0 0 0 [(0, .inr (.inr (8, o)))] [] μ from (am_c_aload_n hG (pc := 0) d160_0 rfl (x_get_n (v := .inr (.inl (μ o 4))) hG (pc := 1) d160_1 mo160 f8_80 rfl (x_lret hG (by decide) hr (pc := 4) d160_4 rk160 h))))
/-! ChartPress$Scale.step()J -/
theorem D161 (k : Nat) {pc : Nat} {i : Instr} (h : tbi161[k]? = some (pc, i)) (hs : am_isw i = false) {n : Nat} (hn : am_il i = n) : decode (am_mc 161) pc = .ok (i, n) := am_d2 (by decide) (by decide) rfl h hs hn
theorem d161_0 : decode (am_mc 161) 0 = .ok (.aload_n 0, 1) := D161 0 rfl rfl rfl
theorem d161_1 : decode (am_mc 161) 1 = .ok (.getfield 69, 3) := D161 1 rfl rfl rfl
theorem d161_4 : decode (am_mc 161) 4 = .ok (.lreturn, 1) := D161 2 rfl rfl rfl
theorem ml161 : ∀ n, n < 1 → n < am_ml 161 := fun _ h => h
theorem mo161 : am_mo 161 = 8 := by decide +kernel
theorem rk161 : am_rk 161 = 2 := by decide +kernel
theorem rg161 : am_rcg 161 = 9 := by decide +kernel
def fn161 (o : Nat) (μ : am_M) : Option (Int × am_M) := some (μ o 2, μ)
def sp161 : am_F := fun vs μ => am_aR 8 vs fun o vs => am_a0 vs (fn161 o μ)
theorem e161 (o : Nat) (μ : am_M) : sp161 [.inr (.inr (8, o))] μ = fn161 o μ := by simp only [sp161, am_aR_c, am_aI_c, am_aJ_c, am_a0_c]
theorem sd161 : am_Sd 161 sp161 := by
  refine am_Sd_of (by decide) (fun vs μ μ' x h hv hM => ?_)
  obtain ⟨o, vs0, rfl, h0⟩ := am_aR_s h
  obtain ⟨rfl, hz⟩ := am_a0_s h0
  refine ⟨Nat.le_of_ble_eq_true rfl, fun X C hG hr => ?_⟩
  have h := hz
  unfold fn161 at h
  exact (show am_W X C 161 _ 0 0 0 [(0, .inr (.inr (8, o)))] [] μ from (am_c_aload_n hG (pc := 0) d161_0 rfl (x_get_n (v := .inr (.inl (μ o 2))) hG (pc := 1) d161_1 mo161 f8_69 rfl (x_lret hG (by decide) hr (pc := 4) d161_4 rk161 h))))
/-! ChartPressModel.thrown()I -/
theorem D163 (k : Nat) {pc : Nat} {i : Instr} (h : tbi163[k]? = some (pc, i)) (hs : am_isw i = false) {n : Nat} (hn : am_il i = n) : decode (am_mc 163) pc = .ok (i, n) := am_d2 (by decide) (by decide) rfl h hs hn
theorem d163_0 : decode (am_mc 163) 0 = .ok (.aload_n 0, 1) := D163 0 rfl rfl rfl
theorem d163_1 : decode (am_mc 163) 1 = .ok (.getfield 83, 3) := D163 1 rfl rfl rfl
theorem d163_4 : decode (am_mc 163) 4 = .ok (.ireturn, 1) := D163 2 rfl rfl rfl
theorem ml163 : ∀ n, n < 1 → n < am_ml 163 := fun _ h => h
theorem mo163 : am_mo 163 = 11 := by decide +kernel
theorem mr163 : am_mr 163 = some .int := by decide +kernel
theorem rg163 : am_rcg 163 = 12 := by decide +kernel
theorem f11_83 : tb_f 11 83 = some (11, 0, 0, 0) := by decide +kernel
def fn163 (o : Nat) (μ : am_M) : Option (Int × am_M) := some (μ o 0, μ)
def sp163 : am_F := fun vs μ => am_aR 11 vs fun o vs => am_a0 vs (fn163 o μ)
theorem e163 (o : Nat) (μ : am_M) : sp163 [.inr (.inr (11, o))] μ = fn163 o μ := by simp only [sp163, am_aR_c, am_aI_c, am_aJ_c, am_a0_c]
theorem sd163 : am_Sd 163 sp163 := by
  refine am_Sd_of (by decide) (fun vs μ μ' x h hv hM => ?_)
  obtain ⟨o, vs0, rfl, h0⟩ := am_aR_s h
  obtain ⟨rfl, hz⟩ := am_a0_s h0
  refine ⟨Nat.le_of_ble_eq_true rfl, fun X C hG hr => ?_⟩
  have h := hz
  unfold fn163 at h
  exact (show am_W X C 163 _ 0 0 0 [(0, .inr (.inr (11, o)))] [] μ from (am_c_aload_n hG (pc := 0) d163_0 rfl (x_get_n (v := .inl (μ o 0)) hG (pc := 1) d163_1 mo163 f11_83 rfl (x_iret hG (by decide) hr (pc := 4) d163_4 mr163 h))))
/-! ChartPressModel.byteOf(JI)I -/
theorem D164 (k : Nat) {pc : Nat} {i : Instr} (h : tbi164[k]? = some (pc, i)) (hs : am_isw i = false) {n : Nat} (hn : am_il i = n) : decode (am_mc 164) pc = .ok (i, n) := am_d2 (by decide) (by decide) rfl h hs hn
theorem d164_0 : decode (am_mc 164) 0 = .ok (.lload_n 0, 1) := D164 0 rfl rfl rfl
theorem d164_1 : decode (am_mc 164) 1 = .ok (.iload_n 2, 1) := D164 1 rfl rfl rfl
theorem d164_2 : decode (am_mc 164) 2 = .ok (.lushr, 1) := D164 2 rfl rfl rfl
theorem d164_3 : decode (am_mc 164) 3 = .ok (.l2i, 1) := D164 3 rfl rfl rfl
theorem d164_4 : decode (am_mc 164) 4 = .ok (.sipush 255, 3) := D164 4 rfl rfl rfl
theorem d164_7 : decode (am_mc 164) 7 = .ok (.iand, 1) := D164 5 rfl rfl rfl
theorem d164_8 : decode (am_mc 164) 8 = .ok (.ireturn, 1) := D164 6 rfl rfl rfl
theorem ml164 : ∀ n, n < 3 → n < am_ml 164 := fun _ h => h
theorem mo164 : am_mo 164 = 11 := by decide +kernel
theorem mr164 : am_mr 164 = some .int := by decide +kernel
theorem rg164 : am_rcg 164 = 0 := by decide +kernel
def fn164 (a : Int) (b : Int) (μ : am_M) : Option (Int × am_M) := some (o_and (o_l2i (o_ushrl a b)) 255, μ)
def sp164 : am_F := fun vs μ => am_aJ vs fun a vs => am_aI vs fun b vs => am_a0 vs (fn164 a b μ)
theorem e164 (a : Int) (b : Int) (μ : am_M) : sp164 [.inr (.inl a), .inl b] μ = fn164 a b μ := by simp only [sp164, am_aR_c, am_aI_c, am_aJ_c, am_a0_c]
theorem sd164 : am_Sd 164 sp164 := by
  refine am_Sd_of (by decide) (fun vs μ μ' x h hv hM => ?_)
  obtain ⟨a, vs0, rfl, h0⟩ := am_aJ_s h
  obtain ⟨b, vs1, rfl, h1⟩ := am_aI_s h0
  obtain ⟨rfl, hz⟩ := am_a0_s h1
  refine ⟨Nat.le_of_ble_eq_true rfl, fun X C hG hr => ?_⟩
  have h := hz
  unfold fn164 at h
  exact (show am_W X C 164 _ 0 0 0 [(0, .inr (.inl a)), (2, .inl b)] [] μ from (am_c_lload_n hG (pc := 0) d164_0 rfl (am_c_iload_n hG (pc := 1) d164_1 rfl (am_c_lushr hG (pc := 2) d164_2 (am_c_l2i hG (pc := 3) d164_3 (am_c_sipush hG (pc := 4) d164_4 (by decide) (am_c_iand hG (pc := 7) d164_7 (x_iret hG (by decide) hr (pc := 8) d164_8 mr164 h))))))))
/-! ChartPressModel.wipe(Z)V -/
theorem D168 (k : Nat) {pc : Nat} {i : Instr} (h : tbi168[k]? = some (pc, i)) (hs : am_isw i = false) {n : Nat} (hn : am_il i = n) : decode (am_mc 168) pc = .ok (i, n) := am_d2 (by decide) (by decide) rfl h hs hn
theorem d168_0 : decode (am_mc 168) 0 = .ok (.aload_n 0, 1) := D168 0 rfl rfl rfl
theorem d168_1 : decode (am_mc 168) 1 = .ok (.iconst 0, 1) := D168 1 rfl rfl rfl
theorem d168_2 : decode (am_mc 168) 2 = .ok (.putfield 83, 3) := D168 2 rfl rfl rfl
theorem d168_5 : decode (am_mc 168) 5 = .ok (.iload_n 1, 1) := D168 3 rfl rfl rfl
theorem d168_6 : decode (am_mc 168) 6 = .ok (.ifCond .eq 11, 3) := D168 4 rfl rfl rfl
theorem d168_9 : decode (am_mc 168) 9 = .ok (.aload_n 0, 1) := D168 5 rfl rfl rfl
theorem d168_10 : decode (am_mc 168) 10 = .ok (.iconst 0, 1) := D168 6 rfl rfl rfl
theorem d168_11 : decode (am_mc 168) 11 = .ok (.putfield 94, 3) := D168 7 rfl rfl rfl
theorem d168_14 : decode (am_mc 168) 14 = .ok (.goto 8, 3) := D168 8 rfl rfl rfl
theorem d168_17 : decode (am_mc 168) 17 = .ok (.aload_n 0, 1) := D168 9 rfl rfl rfl
theorem d168_18 : decode (am_mc 168) 18 = .ok (.iconst 0, 1) := D168 10 rfl rfl rfl
theorem d168_19 : decode (am_mc 168) 19 = .ok (.putfield 97, 3) := D168 11 rfl rfl rfl
theorem d168_22 : decode (am_mc 168) 22 = .ok (.return_, 1) := D168 12 rfl rfl rfl
theorem ml168 : ∀ n, n < 2 → n < am_ml 168 := fun _ h => h
theorem mo168 : am_mo 168 = 11 := by decide +kernel
theorem rk168 : am_rk 168 = 0 := by decide +kernel
theorem rg168 : am_rcg 168 = 12 := by decide +kernel
theorem f11_94 : tb_f 11 94 = some (11, 1, 0, 0) := by decide +kernel
theorem f11_97 : tb_f 11 97 = some (11, 3, 0, 0) := by decide +kernel
def fn168 (o : Nat) (a : Int) (μ : am_M) : Option (Int × am_M) := (if a = 0 then some (0, am_up (am_up μ o 0 0) o 3 0) else some (0, am_up (am_up μ o 0 0) o 1 0))
def sp168 : am_F := fun vs μ => am_aR 11 vs fun o vs => am_aI vs fun a vs => am_a0 vs (fn168 o a μ)
theorem e168 (o : Nat) (a : Int) (μ : am_M) : sp168 [.inr (.inr (11, o)), .inl a] μ = fn168 o a μ := by simp only [sp168, am_aR_c, am_aI_c, am_aJ_c, am_a0_c]
theorem sd168 : am_Sd 168 sp168 := by
  refine am_Sd_of (by decide) (fun vs μ μ' x h hv hM => ?_)
  obtain ⟨o, vs0, rfl, h0⟩ := am_aR_s h
  obtain ⟨a, vs1, rfl, h1⟩ := am_aI_s h0
  obtain ⟨rfl, hz⟩ := am_a0_s h1
  refine ⟨Nat.le_of_ble_eq_true rfl, fun X C hG hr => ?_⟩
  have h := hz
  unfold fn168 at h
  exact (show am_W X C 168 _ 0 0 0 [(0, .inr (.inr (11, o))), (1, .inl a)] [] μ from (am_c_aload_n hG (pc := 0) d168_0 rfl (am_c_iconst hG (pc := 1) d168_1 (by decide) (x_put_i hG (pc := 2) d168_2 mo168 f11_83 (by decide) (am_c_iload_n hG (pc := 5) d168_5 rfl (x_if_eq (tgt := 17) hG (pc := 6) d168_6 rfl h (fun h => (am_c_aload_n hG (pc := 17) d168_17 rfl (am_c_iconst hG (pc := 18) d168_18 (by decide) (x_put_i hG (pc := 19) d168_19 mo168 f11_97 (by decide) (x_vret hG (by decide) hr (pc := 22) d168_22 rk168 h))))) (fun h => (am_c_aload_n hG (pc := 9) d168_9 rfl (am_c_iconst hG (pc := 10) d168_10 (by decide) (x_put_i hG (pc := 11) d168_11 mo168 f11_94 (by decide) (x_goto (tgt := 22) hG (pc := 14) d168_14 rfl (x_vret hG (by decide) hr (pc := 22) d168_22 rk168 h))))))))))))
/-! ChartPressModel.canvas(II)Z -/
theorem D169 (k : Nat) {pc : Nat} {i : Instr} (h : tbi169[k]? = some (pc, i)) (hs : am_isw i = false) {n : Nat} (hn : am_il i = n) : decode (am_mc 169) pc = .ok (i, n) := am_d2 (by decide) (by decide) rfl h hs hn
theorem d169_0 : decode (am_mc 169) 0 = .ok (.aload_n 0, 1) := D169 0 rfl rfl rfl
theorem d169_1 : decode (am_mc 169) 1 = .ok (.iconst 0, 1) := D169 1 rfl rfl rfl
theorem d169_2 : decode (am_mc 169) 2 = .ok (.putfield 83, 3) := D169 2 rfl rfl rfl
theorem d169_5 : decode (am_mc 169) 5 = .ok (.iload_n 1, 1) := D169 3 rfl rfl rfl
theorem d169_6 : decode (am_mc 169) 6 = .ok (.bipush 20, 2) := D169 4 rfl rfl rfl
theorem d169_8 : decode (am_mc 169) 8 = .ok (.if_icmp .lt 21, 3) := D169 5 rfl rfl rfl
theorem d169_11 : decode (am_mc 169) 11 = .ok (.iload_n 1, 1) := D169 6 rfl rfl rfl
theorem d169_12 : decode (am_mc 169) 12 = .ok (.bipush 96, 2) := D169 7 rfl rfl rfl
theorem d169_14 : decode (am_mc 169) 14 = .ok (.if_icmp .gt 15, 3) := D169 8 rfl rfl rfl
theorem d169_17 : decode (am_mc 169) 17 = .ok (.iload_n 2, 1) := D169 9 rfl rfl rfl
theorem d169_18 : decode (am_mc 169) 18 = .ok (.bipush 18, 2) := D169 10 rfl rfl rfl
theorem d169_20 : decode (am_mc 169) 20 = .ok (.if_icmp .lt 9, 3) := D169 11 rfl rfl rfl
theorem d169_23 : decode (am_mc 169) 23 = .ok (.iload_n 2, 1) := D169 12 rfl rfl rfl
theorem d169_24 : decode (am_mc 169) 24 = .ok (.bipush 64, 2) := D169 13 rfl rfl rfl
theorem d169_26 : decode (am_mc 169) 26 = .ok (.if_icmp .le 5, 3) := D169 14 rfl rfl rfl
theorem d169_29 : decode (am_mc 169) 29 = .ok (.iconst 0, 1) := D169 15 rfl rfl rfl
theorem d169_30 : decode (am_mc 169) 30 = .ok (.ireturn, 1) := D169 16 rfl rfl rfl
theorem d169_31 : decode (am_mc 169) 31 = .ok (.aload_n 0, 1) := D169 17 rfl rfl rfl
theorem d169_32 : decode (am_mc 169) 32 = .ok (.iload_n 1, 1) := D169 18 rfl rfl rfl
theorem d169_33 : decode (am_mc 169) 33 = .ok (.putfield 16, 3) := D169 19 rfl rfl rfl
theorem d169_36 : decode (am_mc 169) 36 = .ok (.aload_n 0, 1) := D169 20 rfl rfl rfl
theorem d169_37 : decode (am_mc 169) 37 = .ok (.iload_n 2, 1) := D169 21 rfl rfl rfl
theorem d169_38 : decode (am_mc 169) 38 = .ok (.putfield 20, 3) := D169 22 rfl rfl rfl
theorem d169_41 : decode (am_mc 169) 41 = .ok (.aload_n 0, 1) := D169 23 rfl rfl rfl
theorem d169_42 : decode (am_mc 169) 42 = .ok (.iconst 0, 1) := D169 24 rfl rfl rfl
theorem d169_43 : decode (am_mc 169) 43 = .ok (.putfield 100, 3) := D169 25 rfl rfl rfl
theorem d169_46 : decode (am_mc 169) 46 = .ok (.iconst 1, 1) := D169 26 rfl rfl rfl
theorem d169_47 : decode (am_mc 169) 47 = .ok (.ireturn, 1) := D169 27 rfl rfl rfl
theorem ml169 : ∀ n, n < 3 → n < am_ml 169 := fun _ h => h
theorem mo169 : am_mo 169 = 11 := by decide +kernel
theorem mr169 : am_mr 169 = some .boolean := by decide +kernel
theorem rg169 : am_rcg 169 = 12 := by decide +kernel
theorem f11_16 : tb_f 11 16 = some (11, 5, 0, 0) := by decide +kernel
theorem f11_20 : tb_f 11 20 = some (11, 6, 0, 0) := by decide +kernel
theorem f11_100 : tb_f 11 100 = some (11, 49, 2, 0) := by decide +kernel
def fn169 (o : Nat) (a : Int) (b : Int) (μ : am_M) : Option (Int × am_M) := (if a < 20 then some (0, am_up μ o 0 0) else (if 96 < a then some (0, am_up μ o 0 0) else (if b < 18 then some (0, am_up μ o 0 0) else (if 64 < b then some (0, am_up μ o 0 0) else some (1, am_up (am_up (am_up (am_up μ o 0 0) o 5 a) o 6 b) o 49 0)))))
def sp169 : am_F := fun vs μ => am_aR 11 vs fun o vs => am_aI vs fun a vs => am_aI vs fun b vs => am_a0 vs (fn169 o a b μ)
theorem e169 (o : Nat) (a : Int) (b : Int) (μ : am_M) : sp169 [.inr (.inr (11, o)), .inl a, .inl b] μ = fn169 o a b μ := by simp only [sp169, am_aR_c, am_aI_c, am_aJ_c, am_a0_c]
theorem sd169 : am_Sd 169 sp169 := by
  refine am_Sd_of (by decide) (fun vs μ μ' x h hv hM => ?_)
  obtain ⟨o, vs0, rfl, h0⟩ := am_aR_s h
  obtain ⟨a, vs1, rfl, h1⟩ := am_aI_s h0
  obtain ⟨b, vs2, rfl, h2⟩ := am_aI_s h1
  obtain ⟨rfl, hz⟩ := am_a0_s h2
  refine ⟨Nat.le_of_ble_eq_true rfl, fun X C hG hr => ?_⟩
  have h := hz
  unfold fn169 at h
  exact (show am_W X C 169 _ 0 0 0 [(0, .inr (.inr (11, o))), (1, .inl a), (2, .inl b)] [] μ from (am_c_aload_n hG (pc := 0) d169_0 rfl (am_c_iconst hG (pc := 1) d169_1 (by decide) (x_put_i hG (pc := 2) d169_2 mo169 f11_83 (by decide) (am_c_iload_n hG (pc := 5) d169_5 rfl (am_c_bipush hG (pc := 6) d169_6 (by decide) (x_icmp_lt (tgt := 29) hG (pc := 8) d169_8 rfl h (fun h => (am_c_iconst hG (pc := 29) d169_29 (by decide) (x_zret0 hG (by decide) hr (pc := 30) d169_30 mr169 h))) (fun h => (am_c_iload_n hG (pc := 11) d169_11 rfl (am_c_bipush hG (pc := 12) d169_12 (by decide) (x_icmp_gt (tgt := 29) hG (pc := 14) d169_14 rfl h (fun h => (am_c_iconst hG (pc := 29) d169_29 (by decide) (x_zret0 hG (by decide) hr (pc := 30) d169_30 mr169 h))) (fun h => (am_c_iload_n hG (pc := 17) d169_17 rfl (am_c_bipush hG (pc := 18) d169_18 (by decide) (x_icmp_lt (tgt := 29) hG (pc := 20) d169_20 rfl h (fun h => (am_c_iconst hG (pc := 29) d169_29 (by decide) (x_zret0 hG (by decide) hr (pc := 30) d169_30 mr169 h))) (fun h => (am_c_iload_n hG (pc := 23) d169_23 rfl (am_c_bipush hG (pc := 24) d169_24 (by decide) (x_icmp_le (tgt := 31) hG (pc := 26) d169_26 rfl h (fun h => (am_c_aload_n hG (pc := 31) d169_31 rfl (am_c_iload_n hG (pc := 32) d169_32 rfl (x_put_i hG (pc := 33) d169_33 mo169 f11_16 (by decide) (am_c_aload_n hG (pc := 36) d169_36 rfl (am_c_iload_n hG (pc := 37) d169_37 rfl (x_put_i hG (pc := 38) d169_38 mo169 f11_20 (by decide) (am_c_aload_n hG (pc := 41) d169_41 rfl (am_c_iconst hG (pc := 42) d169_42 (by decide) (x_put_0 hG (pc := 43) d169_43 mo169 f11_100 (by decide) (am_c_iconst hG (pc := 46) d169_46 (by decide) (x_zret1 hG (by decide) hr (pc := 47) d169_47 mr169 h)))))))))))) (fun h => (am_c_iconst hG (pc := 29) d169_29 (by decide) (x_zret0 hG (by decide) hr (pc := 30) d169_30 mr169 h))))))))))))))))))))))
/-! ChartPressModel.ch(I)I -/
theorem D170 (k : Nat) {pc : Nat} {i : Instr} (h : tbi170[k]? = some (pc, i)) (hs : am_isw i = false) {n : Nat} (hn : am_il i = n) : decode (am_mc 170) pc = .ok (i, n) := am_d2 (by decide) (by decide) rfl h hs hn
theorem d170_0 : decode (am_mc 170) 0 = .ok (.iload_n 1, 1) := D170 0 rfl rfl rfl
theorem d170_1 : decode (am_mc 170) 1 = .ok (.aload_n 0, 1) := D170 1 rfl rfl rfl
theorem d170_2 : decode (am_mc 170) 2 = .ok (.getfield 94, 3) := D170 2 rfl rfl rfl
theorem d170_5 : decode (am_mc 170) 5 = .ok (.if_icmp .ge 12, 3) := D170 3 rfl rfl rfl
theorem d170_8 : decode (am_mc 170) 8 = .ok (.aload_n 0, 1) := D170 4 rfl rfl rfl
theorem d170_9 : decode (am_mc 170) 9 = .ok (.getfield 7, 3) := D170 5 rfl rfl rfl
theorem d170_12 : decode (am_mc 170) 12 = .ok (.iload_n 1, 1) := D170 6 rfl rfl rfl
theorem d170_13 : decode (am_mc 170) 13 = .ok (.caload, 1) := D170 7 rfl rfl rfl
theorem d170_14 : decode (am_mc 170) 14 = .ok (.goto 4, 3) := D170 8 rfl rfl rfl
theorem d170_17 : decode (am_mc 170) 17 = .ok (.iconst 0, 1) := D170 9 rfl rfl rfl
theorem d170_18 : decode (am_mc 170) 18 = .ok (.ireturn, 1) := D170 10 rfl rfl rfl
theorem ml170 : ∀ n, n < 2 → n < am_ml 170 := fun _ h => h
theorem mo170 : am_mo 170 = 11 := by decide +kernel
theorem mr170 : am_mr 170 = some .int := by decide +kernel
theorem rg170 : am_rcg 170 = 12 := by decide +kernel
theorem f11_7 : tb_f 11 7 = some (11, 2, 5, 18) := by decide +kernel
def fn170 (o : Nat) (a : Int) (μ : am_M) : Option (Int × am_M) := (if a < μ o 1 then (if (0 : Int) ≤ a ∧ a < ((am_len (am_ref o 2) : Nat) : Int) then some (μ (am_ref o 2) (a : Int).toNat, μ) else none) else some (0, μ))
def sp170 : am_F := fun vs μ => am_aR 11 vs fun o vs => am_aI vs fun a vs => am_a0 vs (fn170 o a μ)
theorem e170 (o : Nat) (a : Int) (μ : am_M) : sp170 [.inr (.inr (11, o)), .inl a] μ = fn170 o a μ := by simp only [sp170, am_aR_c, am_aI_c, am_aJ_c, am_a0_c]
theorem sd170 : am_Sd 170 sp170 := by
  refine am_Sd_of (by decide) (fun vs μ μ' x h hv hM => ?_)
  obtain ⟨o, vs0, rfl, h0⟩ := am_aR_s h
  obtain ⟨a, vs1, rfl, h1⟩ := am_aI_s h0
  obtain ⟨rfl, hz⟩ := am_a0_s h1
  refine ⟨Nat.le_of_ble_eq_true rfl, fun X C hG hr => ?_⟩
  have h := hz
  unfold fn170 at h
  exact (show am_W X C 170 _ 0 0 0 [(0, .inr (.inr (11, o))), (1, .inl a)] [] μ from (am_c_iload_n hG (pc := 0) d170_0 rfl (am_c_aload_n hG (pc := 1) d170_1 rfl (x_get_n (v := .inl (μ o 1)) hG (pc := 2) d170_2 mo170 f11_94 rfl (x_icmp_ge (tgt := 17) hG (pc := 5) d170_5 rfl h (fun h => (am_c_iconst hG (pc := 17) d170_17 (by decide) (x_iret hG (by decide) hr (pc := 18) d170_18 mr170 h))) (fun h => (am_c_aload_n hG (pc := 8) d170_8 rfl (x_get_n (v := .inr (.inr (18, am_ref o 2))) hG (pc := 9) d170_9 mo170 f11_7 rfl (am_c_iload_n hG (pc := 12) d170_12 rfl (x_caload hG (pc := 13) d170_13 h (fun h => (x_goto (tgt := 18) hG (pc := 14) d170_14 rfl (x_iret hG (by decide) hr (pc := 18) d170_18 mr170 h)))))))))))))
/-! ChartPressModel.keep(I)V -/
theorem D171 (k : Nat) {pc : Nat} {i : Instr} (h : tbi171[k]? = some (pc, i)) (hs : am_isw i = false) {n : Nat} (hn : am_il i = n) : decode (am_mc 171) pc = .ok (i, n) := am_d2 (by decide) (by decide) rfl h hs hn
theorem d171_0 : decode (am_mc 171) 0 = .ok (.aload_n 0, 1) := D171 0 rfl rfl rfl
theorem d171_1 : decode (am_mc 171) 1 = .ok (.getfield 30, 3) := D171 1 rfl rfl rfl
theorem d171_4 : decode (am_mc 171) 4 = .ok (.aload_n 0, 1) := D171 2 rfl rfl rfl
theorem d171_5 : decode (am_mc 171) 5 = .ok (.getfield 104, 3) := D171 3 rfl rfl rfl
theorem d171_8 : decode (am_mc 171) 8 = .ok (.iload_n 1, 1) := D171 4 rfl rfl rfl
theorem d171_9 : decode (am_mc 171) 9 = .ok (.i2c, 1) := D171 5 rfl rfl rfl
theorem d171_10 : decode (am_mc 171) 10 = .ok (.castore, 1) := D171 6 rfl rfl rfl
theorem d171_11 : decode (am_mc 171) 11 = .ok (.aload_n 0, 1) := D171 7 rfl rfl rfl
theorem d171_12 : decode (am_mc 171) 12 = .ok (.dup, 1) := D171 8 rfl rfl rfl
theorem d171_13 : decode (am_mc 171) 13 = .ok (.getfield 104, 3) := D171 9 rfl rfl rfl
theorem d171_16 : decode (am_mc 171) 16 = .ok (.iconst 1, 1) := D171 10 rfl rfl rfl
theorem d171_17 : decode (am_mc 171) 17 = .ok (.iadd, 1) := D171 11 rfl rfl rfl
theorem d171_18 : decode (am_mc 171) 18 = .ok (.putfield 104, 3) := D171 12 rfl rfl rfl
theorem d171_21 : decode (am_mc 171) 21 = .ok (.return_, 1) := D171 13 rfl rfl rfl
theorem ml171 : ∀ n, n < 2 → n < am_ml 171 := fun _ h => h
theorem mo171 : am_mo 171 = 11 := by decide +kernel
theorem rk171 : am_rk 171 = 0 := by decide +kernel
theorem rg171 : am_rcg 171 = 12 := by decide +kernel
theorem f11_30 : tb_f 11 30 = some (11, 13, 5, 18) := by decide +kernel
theorem f11_104 : tb_f 11 104 = some (11, 12, 0, 0) := by decide +kernel
def fn171 (o : Nat) (a : Int) (μ : am_M) : Option (Int × am_M) := (if (0 : Int) ≤ μ o 12 ∧ μ o 12 < ((am_len (am_ref o 13) : Nat) : Int) then some (0, am_up (am_up μ (am_ref o 13) (μ o 12 : Int).toNat (o_nar .char (o_i2c a))) o 12 (w32 (((am_up μ (am_ref o 13) (μ o 12 : Int).toNat (o_nar .char (o_i2c a))) o 12) + 1))) else none)
def sp171 : am_F := fun vs μ => am_aR 11 vs fun o vs => am_aI vs fun a vs => am_a0 vs (fn171 o a μ)
theorem e171 (o : Nat) (a : Int) (μ : am_M) : sp171 [.inr (.inr (11, o)), .inl a] μ = fn171 o a μ := by simp only [sp171, am_aR_c, am_aI_c, am_aJ_c, am_a0_c]
theorem sd171 : am_Sd 171 sp171 := by
  refine am_Sd_of (by decide) (fun vs μ μ' x h hv hM => ?_)
  obtain ⟨o, vs0, rfl, h0⟩ := am_aR_s h
  obtain ⟨a, vs1, rfl, h1⟩ := am_aI_s h0
  obtain ⟨rfl, hz⟩ := am_a0_s h1
  refine ⟨Nat.le_of_ble_eq_true rfl, fun X C hG hr => ?_⟩
  have h := hz
  unfold fn171 at h
  exact (show am_W X C 171 _ 0 0 0 [(0, .inr (.inr (11, o))), (1, .inl a)] [] μ from (am_c_aload_n hG (pc := 0) d171_0 rfl (x_get_n (v := .inr (.inr (18, am_ref o 13))) hG (pc := 1) d171_1 mo171 f11_30 rfl (am_c_aload_n hG (pc := 4) d171_4 rfl (x_get_n (v := .inl (μ o 12)) hG (pc := 5) d171_5 mo171 f11_104 rfl (am_c_iload_n hG (pc := 8) d171_8 rfl (am_c_i2c hG (pc := 9) d171_9 (x_castore hG (pc := 10) d171_10 h (fun h => (am_c_aload_n hG (pc := 11) d171_11 rfl (am_c_dup hG (pc := 12) d171_12 rfl (x_get_n (v := .inl ((am_up μ (am_ref o 13) (μ o 12 : Int).toNat (o_nar .char (o_i2c a))) o 12)) hG (pc := 13) d171_13 mo171 f11_104 rfl (am_c_iconst hG (pc := 16) d171_16 (by decide) (am_c_iadd hG (pc := 17) d171_17 (x_put_i hG (pc := 18) d171_18 mo171 f11_104 (by decide) (x_vret hG (by decide) hr (pc := 21) d171_21 rk171 h))))))))))))))))
/-! ChartPressModel.cell(II)I -/
theorem D173 (k : Nat) {pc : Nat} {i : Instr} (h : tbi173[k]? = some (pc, i)) (hs : am_isw i = false) {n : Nat} (hn : am_il i = n) : decode (am_mc 173) pc = .ok (i, n) := am_d2 (by decide) (by decide) rfl h hs hn
theorem d173_0 : decode (am_mc 173) 0 = .ok (.aload_n 0, 1) := D173 0 rfl rfl rfl
theorem d173_1 : decode (am_mc 173) 1 = .ok (.getfield 118, 3) := D173 1 rfl rfl rfl
theorem d173_4 : decode (am_mc 173) 4 = .ok (.iload_n 1, 1) := D173 2 rfl rfl rfl
theorem d173_5 : decode (am_mc 173) 5 = .ok (.iconst 1, 1) := D173 3 rfl rfl rfl
theorem d173_6 : decode (am_mc 173) 6 = .ok (.iadd, 1) := D173 4 rfl rfl rfl
theorem d173_7 : decode (am_mc 173) 7 = .ok (.imul, 1) := D173 5 rfl rfl rfl
theorem d173_8 : decode (am_mc 173) 8 = .ok (.iload_n 2, 1) := D173 6 rfl rfl rfl
theorem d173_9 : decode (am_mc 173) 9 = .ok (.iadd, 1) := D173 7 rfl rfl rfl
theorem d173_10 : decode (am_mc 173) 10 = .ok (.ireturn, 1) := D173 8 rfl rfl rfl
theorem ml173 : ∀ n, n < 3 → n < am_ml 173 := fun _ h => h
theorem mo173 : am_mo 173 = 11 := by decide +kernel
theorem mr173 : am_mr 173 = some .int := by decide +kernel
theorem rg173 : am_rcg 173 = 12 := by decide +kernel
theorem f11_118 : tb_f 11 118 = some (11, 7, 0, 0) := by decide +kernel
def fn173 (o : Nat) (a : Int) (b : Int) (μ : am_M) : Option (Int × am_M) := some (w32 ((w32 ((μ o 7) * (w32 (a + 1)))) + b), μ)
def sp173 : am_F := fun vs μ => am_aR 11 vs fun o vs => am_aI vs fun a vs => am_aI vs fun b vs => am_a0 vs (fn173 o a b μ)
theorem e173 (o : Nat) (a : Int) (b : Int) (μ : am_M) : sp173 [.inr (.inr (11, o)), .inl a, .inl b] μ = fn173 o a b μ := by simp only [sp173, am_aR_c, am_aI_c, am_aJ_c, am_a0_c]
theorem sd173 : am_Sd 173 sp173 := by
  refine am_Sd_of (by decide) (fun vs μ μ' x h hv hM => ?_)
  obtain ⟨o, vs0, rfl, h0⟩ := am_aR_s h
  obtain ⟨a, vs1, rfl, h1⟩ := am_aI_s h0
  obtain ⟨b, vs2, rfl, h2⟩ := am_aI_s h1
  obtain ⟨rfl, hz⟩ := am_a0_s h2
  refine ⟨Nat.le_of_ble_eq_true rfl, fun X C hG hr => ?_⟩
  have h := hz
  unfold fn173 at h
  exact (show am_W X C 173 _ 0 0 0 [(0, .inr (.inr (11, o))), (1, .inl a), (2, .inl b)] [] μ from (am_c_aload_n hG (pc := 0) d173_0 rfl (x_get_n (v := .inl (μ o 7)) hG (pc := 1) d173_1 mo173 f11_118 rfl (am_c_iload_n hG (pc := 4) d173_4 rfl (am_c_iconst hG (pc := 5) d173_5 (by decide) (am_c_iadd hG (pc := 6) d173_6 (am_c_imul hG (pc := 7) d173_7 (am_c_iload_n hG (pc := 8) d173_8 rfl (am_c_iadd hG (pc := 9) d173_9 (x_iret hG (by decide) hr (pc := 10) d173_10 mr173 h))))))))))
/-! ChartPressModel.spanChar(IZ)I -/
theorem D174 (k : Nat) {pc : Nat} {i : Instr} (h : tbi174[k]? = some (pc, i)) (hs : am_isw i = false) {n : Nat} (hn : am_il i = n) : decode (am_mc 174) pc = .ok (i, n) := am_d2 (by decide) (by decide) rfl h hs hn
theorem d174_0 : decode (am_mc 174) 0 = .ok (.iload_n 2, 1) := D174 0 rfl rfl rfl
theorem d174_1 : decode (am_mc 174) 1 = .ok (.ifCond .eq 12, 3) := D174 1 rfl rfl rfl
theorem d174_4 : decode (am_mc 174) 4 = .ok (.aload_n 0, 1) := D174 2 rfl rfl rfl
theorem d174_5 : decode (am_mc 174) 5 = .ok (.getfield 30, 3) := D174 3 rfl rfl rfl
theorem d174_8 : decode (am_mc 174) 8 = .ok (.iload_n 1, 1) := D174 4 rfl rfl rfl
theorem d174_9 : decode (am_mc 174) 9 = .ok (.caload, 1) := D174 5 rfl rfl rfl
theorem d174_10 : decode (am_mc 174) 10 = .ok (.goto 9, 3) := D174 6 rfl rfl rfl
theorem d174_13 : decode (am_mc 174) 13 = .ok (.aload_n 0, 1) := D174 7 rfl rfl rfl
theorem d174_14 : decode (am_mc 174) 14 = .ok (.getfield 13, 3) := D174 8 rfl rfl rfl
theorem d174_17 : decode (am_mc 174) 17 = .ok (.iload_n 1, 1) := D174 9 rfl rfl rfl
theorem d174_18 : decode (am_mc 174) 18 = .ok (.caload, 1) := D174 10 rfl rfl rfl
theorem d174_19 : decode (am_mc 174) 19 = .ok (.ireturn, 1) := D174 11 rfl rfl rfl
theorem ml174 : ∀ n, n < 3 → n < am_ml 174 := fun _ h => h
theorem mo174 : am_mo 174 = 11 := by decide +kernel
theorem mr174 : am_mr 174 = some .int := by decide +kernel
theorem rg174 : am_rcg 174 = 12 := by decide +kernel
theorem f11_13 : tb_f 11 13 = some (11, 4, 5, 18) := by decide +kernel
def fn174 (o : Nat) (a : Int) (b : Int) (μ : am_M) : Option (Int × am_M) := (if b = 0 then (if (0 : Int) ≤ a ∧ a < ((am_len (am_ref o 4) : Nat) : Int) then some (μ (am_ref o 4) (a : Int).toNat, μ) else none) else (if (0 : Int) ≤ a ∧ a < ((am_len (am_ref o 13) : Nat) : Int) then some (μ (am_ref o 13) (a : Int).toNat, μ) else none))
def sp174 : am_F := fun vs μ => am_aR 11 vs fun o vs => am_aI vs fun a vs => am_aI vs fun b vs => am_a0 vs (fn174 o a b μ)
theorem e174 (o : Nat) (a : Int) (b : Int) (μ : am_M) : sp174 [.inr (.inr (11, o)), .inl a, .inl b] μ = fn174 o a b μ := by simp only [sp174, am_aR_c, am_aI_c, am_aJ_c, am_a0_c]
theorem sd174 : am_Sd 174 sp174 := by
  refine am_Sd_of (by decide) (fun vs μ μ' x h hv hM => ?_)
  obtain ⟨o, vs0, rfl, h0⟩ := am_aR_s h
  obtain ⟨a, vs1, rfl, h1⟩ := am_aI_s h0
  obtain ⟨b, vs2, rfl, h2⟩ := am_aI_s h1
  obtain ⟨rfl, hz⟩ := am_a0_s h2
  refine ⟨Nat.le_of_ble_eq_true rfl, fun X C hG hr => ?_⟩
  have h := hz
  unfold fn174 at h
  exact (show am_W X C 174 _ 0 0 0 [(0, .inr (.inr (11, o))), (1, .inl a), (2, .inl b)] [] μ from (am_c_iload_n hG (pc := 0) d174_0 rfl (x_if_eq (tgt := 13) hG (pc := 1) d174_1 rfl h (fun h => (am_c_aload_n hG (pc := 13) d174_13 rfl (x_get_n (v := .inr (.inr (18, am_ref o 4))) hG (pc := 14) d174_14 mo174 f11_13 rfl (am_c_iload_n hG (pc := 17) d174_17 rfl (x_caload hG (pc := 18) d174_18 h (fun h => (x_iret hG (by decide) hr (pc := 19) d174_19 mr174 h))))))) (fun h => (am_c_aload_n hG (pc := 4) d174_4 rfl (x_get_n (v := .inr (.inr (18, am_ref o 13))) hG (pc := 5) d174_5 mo174 f11_30 rfl (am_c_iload_n hG (pc := 8) d174_8 rfl (x_caload hG (pc := 9) d174_9 h (fun h => (x_goto (tgt := 19) hG (pc := 10) d174_10 rfl (x_iret hG (by decide) hr (pc := 19) d174_19 mr174 h)))))))))))
/-! ChartPressModel.isDigit(I)Z -/
theorem D175 (k : Nat) {pc : Nat} {i : Instr} (h : tbi175[k]? = some (pc, i)) (hs : am_isw i = false) {n : Nat} (hn : am_il i = n) : decode (am_mc 175) pc = .ok (i, n) := am_d2 (by decide) (by decide) rfl h hs hn
theorem d175_0 : decode (am_mc 175) 0 = .ok (.iload_n 0, 1) := D175 0 rfl rfl rfl
theorem d175_1 : decode (am_mc 175) 1 = .ok (.bipush 48, 2) := D175 1 rfl rfl rfl
theorem d175_3 : decode (am_mc 175) 3 = .ok (.if_icmp .lt 13, 3) := D175 2 rfl rfl rfl
theorem d175_6 : decode (am_mc 175) 6 = .ok (.iload_n 0, 1) := D175 3 rfl rfl rfl
theorem d175_7 : decode (am_mc 175) 7 = .ok (.bipush 57, 2) := D175 4 rfl rfl rfl
theorem d175_9 : decode (am_mc 175) 9 = .ok (.if_icmp .gt 7, 3) := D175 5 rfl rfl rfl
theorem d175_12 : decode (am_mc 175) 12 = .ok (.iconst 1, 1) := D175 6 rfl rfl rfl
theorem d175_13 : decode (am_mc 175) 13 = .ok (.goto 4, 3) := D175 7 rfl rfl rfl
theorem d175_16 : decode (am_mc 175) 16 = .ok (.iconst 0, 1) := D175 8 rfl rfl rfl
theorem d175_17 : decode (am_mc 175) 17 = .ok (.ireturn, 1) := D175 9 rfl rfl rfl
theorem ml175 : ∀ n, n < 1 → n < am_ml 175 := fun _ h => h
theorem mo175 : am_mo 175 = 11 := by decide +kernel
theorem mr175 : am_mr 175 = some .boolean := by decide +kernel
theorem rg175 : am_rcg 175 = 0 := by decide +kernel
def fn175 (a : Int) (μ : am_M) : Option (Int × am_M) := (if a < 48 then some (0, μ) else (if 57 < a then some (0, μ) else some (1, μ)))
def sp175 : am_F := fun vs μ => am_aI vs fun a vs => am_a0 vs (fn175 a μ)
theorem e175 (a : Int) (μ : am_M) : sp175 [.inl a] μ = fn175 a μ := by simp only [sp175, am_aR_c, am_aI_c, am_aJ_c, am_a0_c]
theorem sd175 : am_Sd 175 sp175 := by
  refine am_Sd_of (by decide) (fun vs μ μ' x h hv hM => ?_)
  obtain ⟨a, vs0, rfl, h0⟩ := am_aI_s h
  obtain ⟨rfl, hz⟩ := am_a0_s h0
  refine ⟨Nat.le_of_ble_eq_true rfl, fun X C hG hr => ?_⟩
  have h := hz
  unfold fn175 at h
  exact (show am_W X C 175 _ 0 0 0 [(0, .inl a)] [] μ from (am_c_iload_n hG (pc := 0) d175_0 rfl (am_c_bipush hG (pc := 1) d175_1 (by decide) (x_icmp_lt (tgt := 16) hG (pc := 3) d175_3 rfl h (fun h => (am_c_iconst hG (pc := 16) d175_16 (by decide) (x_zret0 hG (by decide) hr (pc := 17) d175_17 mr175 h))) (fun h => (am_c_iload_n hG (pc := 6) d175_6 rfl (am_c_bipush hG (pc := 7) d175_7 (by decide) (x_icmp_gt (tgt := 16) hG (pc := 9) d175_9 rfl h (fun h => (am_c_iconst hG (pc := 16) d175_16 (by decide) (x_zret0 hG (by decide) hr (pc := 17) d175_17 mr175 h))) (fun h => (am_c_iconst hG (pc := 12) d175_12 (by decide) (x_goto (tgt := 17) hG (pc := 13) d175_13 rfl (x_zret1 hG (by decide) hr (pc := 17) d175_17 mr175 h))))))))))))
/-! ChartPressModel.daysOf(II)I -/
theorem D178 (k : Nat) {pc : Nat} {i : Instr} (h : tbi178[k]? = some (pc, i)) (hs : am_isw i = false) {n : Nat} (hn : am_il i = n) : decode (am_mc 178) pc = .ok (i, n) := am_d2 (by decide) (by decide) rfl h hs hn
theorem d178_0 : decode (am_mc 178) 0 = .ok (.iload_n 0, 1) := D178 0 rfl rfl rfl
theorem d178_1 : decode (am_mc 178) 1 = .ok (.iconst 4, 1) := D178 1 rfl rfl rfl
theorem d178_2 : decode (am_mc 178) 2 = .ok (.irem, 1) := D178 2 rfl rfl rfl
theorem d178_3 : decode (am_mc 178) 3 = .ok (.ifCond .ne 10, 3) := D178 3 rfl rfl rfl
theorem d178_6 : decode (am_mc 178) 6 = .ok (.iload_n 0, 1) := D178 4 rfl rfl rfl
theorem d178_7 : decode (am_mc 178) 7 = .ok (.bipush 100, 2) := D178 5 rfl rfl rfl
theorem d178_9 : decode (am_mc 178) 9 = .ok (.irem, 1) := D178 6 rfl rfl rfl
theorem d178_10 : decode (am_mc 178) 10 = .ok (.ifCond .ne 11, 3) := D178 7 rfl rfl rfl
theorem d178_13 : decode (am_mc 178) 13 = .ok (.iload_n 0, 1) := D178 8 rfl rfl rfl
theorem d178_14 : decode (am_mc 178) 14 = .ok (.sipush 400, 3) := D178 9 rfl rfl rfl
theorem d178_17 : decode (am_mc 178) 17 = .ok (.irem, 1) := D178 10 rfl rfl rfl
theorem d178_18 : decode (am_mc 178) 18 = .ok (.ifCond .ne 7, 3) := D178 11 rfl rfl rfl
theorem d178_21 : decode (am_mc 178) 21 = .ok (.iconst 1, 1) := D178 12 rfl rfl rfl
theorem d178_22 : decode (am_mc 178) 22 = .ok (.goto 4, 3) := D178 13 rfl rfl rfl
theorem d178_25 : decode (am_mc 178) 25 = .ok (.iconst 0, 1) := D178 14 rfl rfl rfl
theorem d178_26 : decode (am_mc 178) 26 = .ok (.istore_n 2, 1) := D178 15 rfl rfl rfl
theorem d178_27 : decode (am_mc 178) 27 = .ok (.iload_n 1, 1) := D178 16 rfl rfl rfl
theorem d178_28 : decode (am_mc 178) 28 = .ok (.iconst 2, 1) := D178 17 rfl rfl rfl
theorem d178_29 : decode (am_mc 178) 29 = .ok (.if_icmp .ne 17, 3) := D178 18 rfl rfl rfl
theorem d178_32 : decode (am_mc 178) 32 = .ok (.iload_n 2, 1) := D178 19 rfl rfl rfl
theorem d178_33 : decode (am_mc 178) 33 = .ok (.ifCond .eq 8, 3) := D178 20 rfl rfl rfl
theorem d178_36 : decode (am_mc 178) 36 = .ok (.bipush 29, 2) := D178 21 rfl rfl rfl
theorem d178_38 : decode (am_mc 178) 38 = .ok (.goto 38, 3) := D178 22 rfl rfl rfl
theorem d178_41 : decode (am_mc 178) 41 = .ok (.bipush 28, 2) := D178 23 rfl rfl rfl
theorem d178_43 : decode (am_mc 178) 43 = .ok (.goto 33, 3) := D178 24 rfl rfl rfl
theorem d178_46 : decode (am_mc 178) 46 = .ok (.iload_n 1, 1) := D178 25 rfl rfl rfl
theorem d178_47 : decode (am_mc 178) 47 = .ok (.iconst 4, 1) := D178 26 rfl rfl rfl
theorem d178_48 : decode (am_mc 178) 48 = .ok (.if_icmp .eq 21, 3) := D178 27 rfl rfl rfl
theorem d178_51 : decode (am_mc 178) 51 = .ok (.iload_n 1, 1) := D178 28 rfl rfl rfl
theorem d178_52 : decode (am_mc 178) 52 = .ok (.bipush 6, 2) := D178 29 rfl rfl rfl
theorem d178_54 : decode (am_mc 178) 54 = .ok (.if_icmp .eq 15, 3) := D178 30 rfl rfl rfl
theorem d178_57 : decode (am_mc 178) 57 = .ok (.iload_n 1, 1) := D178 31 rfl rfl rfl
theorem d178_58 : decode (am_mc 178) 58 = .ok (.bipush 9, 2) := D178 32 rfl rfl rfl
theorem d178_60 : decode (am_mc 178) 60 = .ok (.if_icmp .eq 9, 3) := D178 33 rfl rfl rfl
theorem d178_63 : decode (am_mc 178) 63 = .ok (.iload_n 1, 1) := D178 34 rfl rfl rfl
theorem d178_64 : decode (am_mc 178) 64 = .ok (.bipush 11, 2) := D178 35 rfl rfl rfl
theorem d178_66 : decode (am_mc 178) 66 = .ok (.if_icmp .ne 8, 3) := D178 36 rfl rfl rfl
theorem d178_69 : decode (am_mc 178) 69 = .ok (.bipush 30, 2) := D178 37 rfl rfl rfl
theorem d178_71 : decode (am_mc 178) 71 = .ok (.goto 5, 3) := D178 38 rfl rfl rfl
theorem d178_74 : decode (am_mc 178) 74 = .ok (.bipush 31, 2) := D178 39 rfl rfl rfl
theorem d178_76 : decode (am_mc 178) 76 = .ok (.ireturn, 1) := D178 40 rfl rfl rfl
theorem ml178 : ∀ n, n < 3 → n < am_ml 178 := fun _ h => h
theorem mo178 : am_mo 178 = 11 := by decide +kernel
theorem mr178 : am_mr 178 = some .int := by decide +kernel
theorem rg178 : am_rcg 178 = 0 := by decide +kernel
def fn178 (a : Int) (b : Int) (μ : am_M) : Option (Int × am_M) := (if o_rem a 4 = 0 then (if o_rem a 100 = 0 then (if o_rem a 400 = 0 then (if b = 2 then some (29, μ) else (if b = 4 then some (30, μ) else (if b = 6 then some (30, μ) else (if b = 9 then some (30, μ) else (if b = 11 then some (30, μ) else some (31, μ)))))) else (if b = 2 then some (28, μ) else (if b = 4 then some (30, μ) else (if b = 6 then some (30, μ) else (if b = 9 then some (30, μ) else (if b = 11 then some (30, μ) else some (31, μ))))))) else (if b = 2 then some (29, μ) else (if b = 4 then some (30, μ) else (if b = 6 then some (30, μ) else (if b = 9 then some (30, μ) else (if b = 11 then some (30, μ) else some (31, μ))))))) else (if o_rem a 400 = 0 then (if b = 2 then some (29, μ) else (if b = 4 then some (30, μ) else (if b = 6 then some (30, μ) else (if b = 9 then some (30, μ) else (if b = 11 then some (30, μ) else some (31, μ)))))) else (if b = 2 then some (28, μ) else (if b = 4 then some (30, μ) else (if b = 6 then some (30, μ) else (if b = 9 then some (30, μ) else (if b = 11 then some (30, μ) else some (31, μ))))))))
def sp178 : am_F := fun vs μ => am_aI vs fun a vs => am_aI vs fun b vs => am_a0 vs (fn178 a b μ)
theorem e178 (a : Int) (b : Int) (μ : am_M) : sp178 [.inl a, .inl b] μ = fn178 a b μ := by simp only [sp178, am_aR_c, am_aI_c, am_aJ_c, am_a0_c]
theorem sd178 : am_Sd 178 sp178 := by
  refine am_Sd_of (by decide) (fun vs μ μ' x h hv hM => ?_)
  obtain ⟨a, vs0, rfl, h0⟩ := am_aI_s h
  obtain ⟨b, vs1, rfl, h1⟩ := am_aI_s h0
  obtain ⟨rfl, hz⟩ := am_a0_s h1
  refine ⟨Nat.le_of_ble_eq_true rfl, fun X C hG hr => ?_⟩
  have h := hz
  unfold fn178 at h
  exact (show am_W X C 178 _ 0 0 0 [(0, .inl a), (1, .inl b)] [] μ from (am_c_iload_n hG (pc := 0) d178_0 rfl (am_c_iconst hG (pc := 1) d178_1 (by decide) (am_c_irem hG (pc := 2) d178_2 (by decide) (x_if_ne (tgt := 13) hG (pc := 3) d178_3 rfl h (fun h => (am_c_iload_n hG (pc := 13) d178_13 rfl (am_c_sipush hG (pc := 14) d178_14 (by decide) (am_c_irem hG (pc := 17) d178_17 (by decide) (x_if_ne (tgt := 25) hG (pc := 18) d178_18 rfl h (fun h => (am_c_iconst hG (pc := 25) d178_25 (by decide) (x_istore_n (lv' := [(2, .inl 0), (0, .inl a), (1, .inl b)]) hG (pc := 26) d178_26 (ml178 _ (by decide)) rfl (am_c_iload_n hG (pc := 27) d178_27 rfl (am_c_iconst hG (pc := 28) d178_28 (by decide) (x_icmp_ne (tgt := 46) hG (pc := 29) d178_29 rfl h (fun h => (am_c_iload_n hG (pc := 46) d178_46 rfl (am_c_iconst hG (pc := 47) d178_47 (by decide) (x_icmp_eq (tgt := 69) hG (pc := 48) d178_48 rfl h (fun h => (am_c_bipush hG (pc := 69) d178_69 (by decide) (x_goto (tgt := 76) hG (pc := 71) d178_71 rfl (x_iret hG (by decide) hr (pc := 76) d178_76 mr178 h)))) (fun h => (am_c_iload_n hG (pc := 51) d178_51 rfl (am_c_bipush hG (pc := 52) d178_52 (by decide) (x_icmp_eq (tgt := 69) hG (pc := 54) d178_54 rfl h (fun h => (am_c_bipush hG (pc := 69) d178_69 (by decide) (x_goto (tgt := 76) hG (pc := 71) d178_71 rfl (x_iret hG (by decide) hr (pc := 76) d178_76 mr178 h)))) (fun h => (am_c_iload_n hG (pc := 57) d178_57 rfl (am_c_bipush hG (pc := 58) d178_58 (by decide) (x_icmp_eq (tgt := 69) hG (pc := 60) d178_60 rfl h (fun h => (am_c_bipush hG (pc := 69) d178_69 (by decide) (x_goto (tgt := 76) hG (pc := 71) d178_71 rfl (x_iret hG (by decide) hr (pc := 76) d178_76 mr178 h)))) (fun h => (am_c_iload_n hG (pc := 63) d178_63 rfl (am_c_bipush hG (pc := 64) d178_64 (by decide) (x_icmp_ne (tgt := 74) hG (pc := 66) d178_66 rfl h (fun h => (am_c_bipush hG (pc := 74) d178_74 (by decide) (x_iret hG (by decide) hr (pc := 76) d178_76 mr178 h))) (fun h => (am_c_bipush hG (pc := 69) d178_69 (by decide) (x_goto (tgt := 76) hG (pc := 71) d178_71 rfl (x_iret hG (by decide) hr (pc := 76) d178_76 mr178 h)))))))))))))))))))) (fun h => (am_c_iload_n hG (pc := 32) d178_32 rfl (y_if_eq (tgt := 41) hG (pc := 33) d178_33 rfl (by decide) (am_c_bipush hG (pc := 41) d178_41 (by decide) (x_goto (tgt := 76) hG (pc := 43) d178_43 rfl (x_iret hG (by decide) hr (pc := 76) d178_76 mr178 h)))))))))))) (fun h => (am_c_iconst hG (pc := 21) d178_21 (by decide) (x_goto (tgt := 26) hG (pc := 22) d178_22 rfl (x_istore_n (lv' := [(2, .inl 1), (0, .inl a), (1, .inl b)]) hG (pc := 26) d178_26 (ml178 _ (by decide)) rfl (am_c_iload_n hG (pc := 27) d178_27 rfl (am_c_iconst hG (pc := 28) d178_28 (by decide) (x_icmp_ne (tgt := 46) hG (pc := 29) d178_29 rfl h (fun h => (am_c_iload_n hG (pc := 46) d178_46 rfl (am_c_iconst hG (pc := 47) d178_47 (by decide) (x_icmp_eq (tgt := 69) hG (pc := 48) d178_48 rfl h (fun h => (am_c_bipush hG (pc := 69) d178_69 (by decide) (x_goto (tgt := 76) hG (pc := 71) d178_71 rfl (x_iret hG (by decide) hr (pc := 76) d178_76 mr178 h)))) (fun h => (am_c_iload_n hG (pc := 51) d178_51 rfl (am_c_bipush hG (pc := 52) d178_52 (by decide) (x_icmp_eq (tgt := 69) hG (pc := 54) d178_54 rfl h (fun h => (am_c_bipush hG (pc := 69) d178_69 (by decide) (x_goto (tgt := 76) hG (pc := 71) d178_71 rfl (x_iret hG (by decide) hr (pc := 76) d178_76 mr178 h)))) (fun h => (am_c_iload_n hG (pc := 57) d178_57 rfl (am_c_bipush hG (pc := 58) d178_58 (by decide) (x_icmp_eq (tgt := 69) hG (pc := 60) d178_60 rfl h (fun h => (am_c_bipush hG (pc := 69) d178_69 (by decide) (x_goto (tgt := 76) hG (pc := 71) d178_71 rfl (x_iret hG (by decide) hr (pc := 76) d178_76 mr178 h)))) (fun h => (am_c_iload_n hG (pc := 63) d178_63 rfl (am_c_bipush hG (pc := 64) d178_64 (by decide) (x_icmp_ne (tgt := 74) hG (pc := 66) d178_66 rfl h (fun h => (am_c_bipush hG (pc := 74) d178_74 (by decide) (x_iret hG (by decide) hr (pc := 76) d178_76 mr178 h))) (fun h => (am_c_bipush hG (pc := 69) d178_69 (by decide) (x_goto (tgt := 76) hG (pc := 71) d178_71 rfl (x_iret hG (by decide) hr (pc := 76) d178_76 mr178 h)))))))))))))))))))) (fun h => (am_c_iload_n hG (pc := 32) d178_32 rfl (n_if_eq (tgt := 41) hG (pc := 33) d178_33 rfl (by decide) (am_c_bipush hG (pc := 36) d178_36 (by decide) (x_goto (tgt := 76) hG (pc := 38) d178_38 rfl (x_iret hG (by decide) hr (pc := 76) d178_76 mr178 h)))))))))))))))))) (fun h => (am_c_iload_n hG (pc := 6) d178_6 rfl (am_c_bipush hG (pc := 7) d178_7 (by decide) (am_c_irem hG (pc := 9) d178_9 (by decide) (x_if_ne (tgt := 21) hG (pc := 10) d178_10 rfl h (fun h => (am_c_iconst hG (pc := 21) d178_21 (by decide) (x_goto (tgt := 26) hG (pc := 22) d178_22 rfl (x_istore_n (lv' := [(2, .inl 1), (0, .inl a), (1, .inl b)]) hG (pc := 26) d178_26 (ml178 _ (by decide)) rfl (am_c_iload_n hG (pc := 27) d178_27 rfl (am_c_iconst hG (pc := 28) d178_28 (by decide) (x_icmp_ne (tgt := 46) hG (pc := 29) d178_29 rfl h (fun h => (am_c_iload_n hG (pc := 46) d178_46 rfl (am_c_iconst hG (pc := 47) d178_47 (by decide) (x_icmp_eq (tgt := 69) hG (pc := 48) d178_48 rfl h (fun h => (am_c_bipush hG (pc := 69) d178_69 (by decide) (x_goto (tgt := 76) hG (pc := 71) d178_71 rfl (x_iret hG (by decide) hr (pc := 76) d178_76 mr178 h)))) (fun h => (am_c_iload_n hG (pc := 51) d178_51 rfl (am_c_bipush hG (pc := 52) d178_52 (by decide) (x_icmp_eq (tgt := 69) hG (pc := 54) d178_54 rfl h (fun h => (am_c_bipush hG (pc := 69) d178_69 (by decide) (x_goto (tgt := 76) hG (pc := 71) d178_71 rfl (x_iret hG (by decide) hr (pc := 76) d178_76 mr178 h)))) (fun h => (am_c_iload_n hG (pc := 57) d178_57 rfl (am_c_bipush hG (pc := 58) d178_58 (by decide) (x_icmp_eq (tgt := 69) hG (pc := 60) d178_60 rfl h (fun h => (am_c_bipush hG (pc := 69) d178_69 (by decide) (x_goto (tgt := 76) hG (pc := 71) d178_71 rfl (x_iret hG (by decide) hr (pc := 76) d178_76 mr178 h)))) (fun h => (am_c_iload_n hG (pc := 63) d178_63 rfl (am_c_bipush hG (pc := 64) d178_64 (by decide) (x_icmp_ne (tgt := 74) hG (pc := 66) d178_66 rfl h (fun h => (am_c_bipush hG (pc := 74) d178_74 (by decide) (x_iret hG (by decide) hr (pc := 76) d178_76 mr178 h))) (fun h => (am_c_bipush hG (pc := 69) d178_69 (by decide) (x_goto (tgt := 76) hG (pc := 71) d178_71 rfl (x_iret hG (by decide) hr (pc := 76) d178_76 mr178 h)))))))))))))))))))) (fun h => (am_c_iload_n hG (pc := 32) d178_32 rfl (n_if_eq (tgt := 41) hG (pc := 33) d178_33 rfl (by decide) (am_c_bipush hG (pc := 36) d178_36 (by decide) (x_goto (tgt := 76) hG (pc := 38) d178_38 rfl (x_iret hG (by decide) hr (pc := 76) d178_76 mr178 h))))))))))))) (fun h => (am_c_iload_n hG (pc := 13) d178_13 rfl (am_c_sipush hG (pc := 14) d178_14 (by decide) (am_c_irem hG (pc := 17) d178_17 (by decide) (x_if_ne (tgt := 25) hG (pc := 18) d178_18 rfl h (fun h => (am_c_iconst hG (pc := 25) d178_25 (by decide) (x_istore_n (lv' := [(2, .inl 0), (0, .inl a), (1, .inl b)]) hG (pc := 26) d178_26 (ml178 _ (by decide)) rfl (am_c_iload_n hG (pc := 27) d178_27 rfl (am_c_iconst hG (pc := 28) d178_28 (by decide) (x_icmp_ne (tgt := 46) hG (pc := 29) d178_29 rfl h (fun h => (am_c_iload_n hG (pc := 46) d178_46 rfl (am_c_iconst hG (pc := 47) d178_47 (by decide) (x_icmp_eq (tgt := 69) hG (pc := 48) d178_48 rfl h (fun h => (am_c_bipush hG (pc := 69) d178_69 (by decide) (x_goto (tgt := 76) hG (pc := 71) d178_71 rfl (x_iret hG (by decide) hr (pc := 76) d178_76 mr178 h)))) (fun h => (am_c_iload_n hG (pc := 51) d178_51 rfl (am_c_bipush hG (pc := 52) d178_52 (by decide) (x_icmp_eq (tgt := 69) hG (pc := 54) d178_54 rfl h (fun h => (am_c_bipush hG (pc := 69) d178_69 (by decide) (x_goto (tgt := 76) hG (pc := 71) d178_71 rfl (x_iret hG (by decide) hr (pc := 76) d178_76 mr178 h)))) (fun h => (am_c_iload_n hG (pc := 57) d178_57 rfl (am_c_bipush hG (pc := 58) d178_58 (by decide) (x_icmp_eq (tgt := 69) hG (pc := 60) d178_60 rfl h (fun h => (am_c_bipush hG (pc := 69) d178_69 (by decide) (x_goto (tgt := 76) hG (pc := 71) d178_71 rfl (x_iret hG (by decide) hr (pc := 76) d178_76 mr178 h)))) (fun h => (am_c_iload_n hG (pc := 63) d178_63 rfl (am_c_bipush hG (pc := 64) d178_64 (by decide) (x_icmp_ne (tgt := 74) hG (pc := 66) d178_66 rfl h (fun h => (am_c_bipush hG (pc := 74) d178_74 (by decide) (x_iret hG (by decide) hr (pc := 76) d178_76 mr178 h))) (fun h => (am_c_bipush hG (pc := 69) d178_69 (by decide) (x_goto (tgt := 76) hG (pc := 71) d178_71 rfl (x_iret hG (by decide) hr (pc := 76) d178_76 mr178 h)))))))))))))))))))) (fun h => (am_c_iload_n hG (pc := 32) d178_32 rfl (y_if_eq (tgt := 41) hG (pc := 33) d178_33 rfl (by decide) (am_c_bipush hG (pc := 41) d178_41 (by decide) (x_goto (tgt := 76) hG (pc := 43) d178_43 rfl (x_iret hG (by decide) hr (pc := 76) d178_76 mr178 h)))))))))))) (fun h => (am_c_iconst hG (pc := 21) d178_21 (by decide) (x_goto (tgt := 26) hG (pc := 22) d178_22 rfl (x_istore_n (lv' := [(2, .inl 1), (0, .inl a), (1, .inl b)]) hG (pc := 26) d178_26 (ml178 _ (by decide)) rfl (am_c_iload_n hG (pc := 27) d178_27 rfl (am_c_iconst hG (pc := 28) d178_28 (by decide) (x_icmp_ne (tgt := 46) hG (pc := 29) d178_29 rfl h (fun h => (am_c_iload_n hG (pc := 46) d178_46 rfl (am_c_iconst hG (pc := 47) d178_47 (by decide) (x_icmp_eq (tgt := 69) hG (pc := 48) d178_48 rfl h (fun h => (am_c_bipush hG (pc := 69) d178_69 (by decide) (x_goto (tgt := 76) hG (pc := 71) d178_71 rfl (x_iret hG (by decide) hr (pc := 76) d178_76 mr178 h)))) (fun h => (am_c_iload_n hG (pc := 51) d178_51 rfl (am_c_bipush hG (pc := 52) d178_52 (by decide) (x_icmp_eq (tgt := 69) hG (pc := 54) d178_54 rfl h (fun h => (am_c_bipush hG (pc := 69) d178_69 (by decide) (x_goto (tgt := 76) hG (pc := 71) d178_71 rfl (x_iret hG (by decide) hr (pc := 76) d178_76 mr178 h)))) (fun h => (am_c_iload_n hG (pc := 57) d178_57 rfl (am_c_bipush hG (pc := 58) d178_58 (by decide) (x_icmp_eq (tgt := 69) hG (pc := 60) d178_60 rfl h (fun h => (am_c_bipush hG (pc := 69) d178_69 (by decide) (x_goto (tgt := 76) hG (pc := 71) d178_71 rfl (x_iret hG (by decide) hr (pc := 76) d178_76 mr178 h)))) (fun h => (am_c_iload_n hG (pc := 63) d178_63 rfl (am_c_bipush hG (pc := 64) d178_64 (by decide) (x_icmp_ne (tgt := 74) hG (pc := 66) d178_66 rfl h (fun h => (am_c_bipush hG (pc := 74) d178_74 (by decide) (x_iret hG (by decide) hr (pc := 76) d178_76 mr178 h))) (fun h => (am_c_bipush hG (pc := 69) d178_69 (by decide) (x_goto (tgt := 76) hG (pc := 71) d178_71 rfl (x_iret hG (by decide) hr (pc := 76) d178_76 mr178 h)))))))))))))))))))) (fun h => (am_c_iload_n hG (pc := 32) d178_32 rfl (n_if_eq (tgt := 41) hG (pc := 33) d178_33 rfl (by decide) (am_c_bipush hG (pc := 36) d178_36 (by decide) (x_goto (tgt := 76) hG (pc := 38) d178_38 rfl (x_iret hG (by decide) hr (pc := 76) d178_76 mr178 h))))))))))))))))))))))))))))
/-! ChartPressModel.raise(I)I -/
theorem D182 (k : Nat) {pc : Nat} {i : Instr} (h : tbi182[k]? = some (pc, i)) (hs : am_isw i = false) {n : Nat} (hn : am_il i = n) : decode (am_mc 182) pc = .ok (i, n) := am_d2 (by decide) (by decide) rfl h hs hn
theorem d182_0 : decode (am_mc 182) 0 = .ok (.aload_n 0, 1) := D182 0 rfl rfl rfl
theorem d182_1 : decode (am_mc 182) 1 = .ok (.iload_n 1, 1) := D182 1 rfl rfl rfl
theorem d182_2 : decode (am_mc 182) 2 = .ok (.putfield 83, 3) := D182 2 rfl rfl rfl
theorem d182_5 : decode (am_mc 182) 5 = .ok (.iconst 0, 1) := D182 3 rfl rfl rfl
theorem d182_6 : decode (am_mc 182) 6 = .ok (.ireturn, 1) := D182 4 rfl rfl rfl
theorem ml182 : ∀ n, n < 2 → n < am_ml 182 := fun _ h => h
theorem mo182 : am_mo 182 = 11 := by decide +kernel
theorem mr182 : am_mr 182 = some .int := by decide +kernel
theorem rg182 : am_rcg 182 = 12 := by decide +kernel
def fn182 (o : Nat) (a : Int) (μ : am_M) : Option (Int × am_M) := some (0, am_up μ o 0 a)
def sp182 : am_F := fun vs μ => am_aR 11 vs fun o vs => am_aI vs fun a vs => am_a0 vs (fn182 o a μ)
theorem e182 (o : Nat) (a : Int) (μ : am_M) : sp182 [.inr (.inr (11, o)), .inl a] μ = fn182 o a μ := by simp only [sp182, am_aR_c, am_aI_c, am_aJ_c, am_a0_c]
theorem sd182 : am_Sd 182 sp182 := by
  refine am_Sd_of (by decide) (fun vs μ μ' x h hv hM => ?_)
  obtain ⟨o, vs0, rfl, h0⟩ := am_aR_s h
  obtain ⟨a, vs1, rfl, h1⟩ := am_aI_s h0
  obtain ⟨rfl, hz⟩ := am_a0_s h1
  refine ⟨Nat.le_of_ble_eq_true rfl, fun X C hG hr => ?_⟩
  have h := hz
  unfold fn182 at h
  exact (show am_W X C 182 _ 0 0 0 [(0, .inr (.inr (11, o))), (1, .inl a)] [] μ from (am_c_aload_n hG (pc := 0) d182_0 rfl (am_c_iload_n hG (pc := 1) d182_1 rfl (x_put_i hG (pc := 2) d182_2 mo182 f11_83 (by decide) (am_c_iconst hG (pc := 5) d182_5 (by decide) (x_iret hG (by decide) hr (pc := 6) d182_6 mr182 h))))))
/-! ChartPressModel.missing(II)Z -/
theorem D192 (k : Nat) {pc : Nat} {i : Instr} (h : tbi192[k]? = some (pc, i)) (hs : am_isw i = false) {n : Nat} (hn : am_il i = n) : decode (am_mc 192) pc = .ok (i, n) := am_d2 (by decide) (by decide) rfl h hs hn
theorem d192_0 : decode (am_mc 192) 0 = .ok (.aload_n 0, 1) := D192 0 rfl rfl rfl
theorem d192_1 : decode (am_mc 192) 1 = .ok (.getfield 27, 3) := D192 1 rfl rfl rfl
theorem d192_4 : decode (am_mc 192) 4 = .ok (.aload_n 0, 1) := D192 2 rfl rfl rfl
theorem d192_5 : decode (am_mc 192) 5 = .ok (.iload_n 1, 1) := D192 3 rfl rfl rfl
theorem d192_6 : decode (am_mc 192) 6 = .ok (.iload_n 2, 1) := D192 4 rfl rfl rfl
theorem d192_7 : decode (am_mc 192) 7 = .ok (.invokevirtual 133, 3) := D192 5 rfl rfl rfl
theorem d192_10 : decode (am_mc 192) 10 = .ok (.iaload, 1) := D192 6 rfl rfl rfl
theorem d192_11 : decode (am_mc 192) 11 = .ok (.ifCond .ne 7, 3) := D192 7 rfl rfl rfl
theorem d192_14 : decode (am_mc 192) 14 = .ok (.iconst 1, 1) := D192 8 rfl rfl rfl
theorem d192_15 : decode (am_mc 192) 15 = .ok (.goto 4, 3) := D192 9 rfl rfl rfl
theorem d192_18 : decode (am_mc 192) 18 = .ok (.iconst 0, 1) := D192 10 rfl rfl rfl
theorem d192_19 : decode (am_mc 192) 19 = .ok (.ireturn, 1) := D192 11 rfl rfl rfl
theorem ml192 : ∀ n, n < 3 → n < am_ml 192 := fun _ h => h
theorem mo192 : am_mo 192 = 11 := by decide +kernel
theorem mr192 : am_mr 192 = some .boolean := by decide +kernel
theorem rg192 : am_rcg 192 = 12 := by decide +kernel
theorem f11_27 : tb_f 11 27 = some (11, 11, 5, 16) := by decide +kernel
theorem m11_133 : tb_m 11 133 = some (173, 3, 1, 0) := by decide +kernel
theorem dp192_173 : am_md 173 + 1 ≤ am_md 192 ∧ 8 + (am_ml 173 + 11) + am_lr 173 ≤ am_lr 192 := by decide +kernel
def fn192 (o : Nat) (a : Int) (b : Int) (μ : am_M) : Option (Int × am_M) := (am_op (fn173 o a b μ) (fun z1 => (if (0 : Int) ≤ z1.1 ∧ z1.1 < ((am_len (am_ref o 11) : Nat) : Int) then (if z1.2 (am_ref o 11) (z1.1 : Int).toNat = 0 then some (1, z1.2) else some (0, z1.2)) else none)))
def sp192 : am_F := fun vs μ => am_aR 11 vs fun o vs => am_aI vs fun a vs => am_aI vs fun b vs => am_a0 vs (fn192 o a b μ)
theorem e192 (o : Nat) (a : Int) (b : Int) (μ : am_M) : sp192 [.inr (.inr (11, o)), .inl a, .inl b] μ = fn192 o a b μ := by simp only [sp192, am_aR_c, am_aI_c, am_aJ_c, am_a0_c]
theorem sd192 : am_Sd 192 sp192 := by
  refine am_Sd_of (by decide) (fun vs μ μ' x h hv hM => ?_)
  obtain ⟨o, vs0, rfl, h0⟩ := am_aR_s h
  obtain ⟨a, vs1, rfl, h1⟩ := am_aI_s h0
  obtain ⟨b, vs2, rfl, h2⟩ := am_aI_s h1
  obtain ⟨rfl, hz⟩ := am_a0_s h2
  refine ⟨Nat.le_of_ble_eq_true rfl, fun X C hG hr => ?_⟩
  have h := hz
  unfold fn192 at h
  exact (show am_W X C 192 _ 0 0 0 [(0, .inr (.inr (11, o))), (1, .inl a), (2, .inl b)] [] μ from (am_c_aload_n hG (pc := 0) d192_0 rfl (x_get_n (v := .inr (.inr (16, am_ref o 11))) hG (pc := 1) d192_1 mo192 f11_27 rfl (am_c_aload_n hG (pc := 4) d192_4 rfl (am_c_iload_n hG (pc := 5) d192_5 rfl (am_c_iload_n hG (pc := 6) d192_6 rfl (x_virtual_i (t := 11) (o := o) (as2 := [.inl a, .inl b]) (rest := [.inr (.inr (16, am_ref o 11))]) hG (pc := 7) d192_7 mo192 m11_133 (by decide) dp192_173 rfl rfl (Nat.le_of_ble_eq_true rfl) (Nat.le_of_ble_eq_true rfl) rg173 sd173 (e173 _ _ _ _) h (fun z1 h => (x_iaload hG (pc := 10) d192_10 h (fun h => (x_if_ne (tgt := 18) hG (pc := 11) d192_11 rfl h (fun h => (am_c_iconst hG (pc := 18) d192_18 (by decide) (x_zret0 hG (by decide) hr (pc := 19) d192_19 mr192 h))) (fun h => (am_c_iconst hG (pc := 14) d192_14 (by decide) (x_goto (tgt := 19) hG (pc := 15) d192_15 rfl (x_zret1 hG (by decide) hr (pc := 19) d192_19 mr192 h)))))))))))))))
/-! ChartPressModel.reach(J)V -/
theorem D202 (k : Nat) {pc : Nat} {i : Instr} (h : tbi202[k]? = some (pc, i)) (hs : am_isw i = false) {n : Nat} (hn : am_il i = n) : decode (am_mc 202) pc = .ok (i, n) := am_d2 (by decide) (by decide) rfl h hs hn
theorem d202_0 : decode (am_mc 202) 0 = .ok (.aload_n 0, 1) := D202 0 rfl rfl rfl
theorem d202_1 : decode (am_mc 202) 1 = .ok (.lload_n 1, 1) := D202 1 rfl rfl rfl
theorem d202_2 : decode (am_mc 202) 2 = .ok (.aload_n 0, 1) := D202 2 rfl rfl rfl
theorem d202_3 : decode (am_mc 202) 3 = .ok (.getfield 303, 3) := D202 3 rfl rfl rfl
theorem d202_6 : decode (am_mc 202) 6 = .ok (.lcmp, 1) := D202 4 rfl rfl rfl
theorem d202_7 : decode (am_mc 202) 7 = .ok (.ifCond .ge 7, 3) := D202 5 rfl rfl rfl
theorem d202_10 : decode (am_mc 202) 10 = .ok (.lload_n 1, 1) := D202 6 rfl rfl rfl
theorem d202_11 : decode (am_mc 202) 11 = .ok (.goto 7, 3) := D202 7 rfl rfl rfl
theorem d202_14 : decode (am_mc 202) 14 = .ok (.aload_n 0, 1) := D202 8 rfl rfl rfl
theorem d202_15 : decode (am_mc 202) 15 = .ok (.getfield 303, 3) := D202 9 rfl rfl rfl
theorem d202_18 : decode (am_mc 202) 18 = .ok (.putfield 303, 3) := D202 10 rfl rfl rfl
theorem d202_21 : decode (am_mc 202) 21 = .ok (.aload_n 0, 1) := D202 11 rfl rfl rfl
theorem d202_22 : decode (am_mc 202) 22 = .ok (.lload_n 1, 1) := D202 12 rfl rfl rfl
theorem d202_23 : decode (am_mc 202) 23 = .ok (.aload_n 0, 1) := D202 13 rfl rfl rfl
theorem d202_24 : decode (am_mc 202) 24 = .ok (.getfield 307, 3) := D202 14 rfl rfl rfl
theorem d202_27 : decode (am_mc 202) 27 = .ok (.lcmp, 1) := D202 15 rfl rfl rfl
theorem d202_28 : decode (am_mc 202) 28 = .ok (.ifCond .le 7, 3) := D202 16 rfl rfl rfl
theorem d202_31 : decode (am_mc 202) 31 = .ok (.lload_n 1, 1) := D202 17 rfl rfl rfl
theorem d202_32 : decode (am_mc 202) 32 = .ok (.goto 7, 3) := D202 18 rfl rfl rfl
theorem d202_35 : decode (am_mc 202) 35 = .ok (.aload_n 0, 1) := D202 19 rfl rfl rfl
theorem d202_36 : decode (am_mc 202) 36 = .ok (.getfield 307, 3) := D202 20 rfl rfl rfl
theorem d202_39 : decode (am_mc 202) 39 = .ok (.putfield 307, 3) := D202 21 rfl rfl rfl
theorem d202_42 : decode (am_mc 202) 42 = .ok (.return_, 1) := D202 22 rfl rfl rfl
theorem ml202 : ∀ n, n < 3 → n < am_ml 202 := fun _ h => h
theorem mo202 : am_mo 202 = 11 := by decide +kernel
theorem rk202 : am_rk 202 = 0 := by decide +kernel
theorem rg202 : am_rcg 202 = 12 := by decide +kernel
theorem f11_303 : tb_f 11 303 = some (11, 39, 1, 0) := by decide +kernel
theorem f11_307 : tb_f 11 307 = some (11, 40, 1, 0) := by decide +kernel
def fn202 (o : Nat) (a : Int) (μ : am_M) : Option (Int × am_M) := (if o_cmp a (μ o 39) < 0 then (if 0 < o_cmp a ((am_up μ o 39 a) o 40) then some (0, am_up (am_up μ o 39 a) o 40 a) else some (0, am_up (am_up μ o 39 a) o 40 ((am_up μ o 39 a) o 40))) else (if 0 < o_cmp a ((am_up μ o 39 (μ o 39)) o 40) then some (0, am_up (am_up μ o 39 (μ o 39)) o 40 a) else some (0, am_up (am_up μ o 39 (μ o 39)) o 40 ((am_up μ o 39 (μ o 39)) o 40))))
def sp202 : am_F := fun vs μ => am_aR 11 vs fun o vs => am_aJ vs fun a vs => am_a0 vs (fn202 o a μ)
theorem e202 (o : Nat) (a : Int) (μ : am_M) : sp202 [.inr (.inr (11, o)), .inr (.inl a)] μ = fn202 o a μ := by simp only [sp202, am_aR_c, am_aI_c, am_aJ_c, am_a0_c]
theorem sd202 : am_Sd 202 sp202 := by
  refine am_Sd_of (by decide) (fun vs μ μ' x h hv hM => ?_)
  obtain ⟨o, vs0, rfl, h0⟩ := am_aR_s h
  obtain ⟨a, vs1, rfl, h1⟩ := am_aJ_s h0
  obtain ⟨rfl, hz⟩ := am_a0_s h1
  refine ⟨Nat.le_of_ble_eq_true rfl, fun X C hG hr => ?_⟩
  have h := hz
  unfold fn202 at h
  exact (show am_W X C 202 _ 0 0 0 [(0, .inr (.inr (11, o))), (1, .inr (.inl a))] [] μ from (am_c_aload_n hG (pc := 0) d202_0 rfl (am_c_lload_n hG (pc := 1) d202_1 rfl (am_c_aload_n hG (pc := 2) d202_2 rfl (x_get_n (v := .inr (.inl (μ o 39))) hG (pc := 3) d202_3 mo202 f11_303 rfl (am_c_lcmp hG (pc := 6) d202_6 (x_if_ge (tgt := 14) hG (pc := 7) d202_7 rfl h (fun h => (am_c_aload_n hG (pc := 14) d202_14 rfl (x_get_n (v := .inr (.inl (μ o 39))) hG (pc := 15) d202_15 mo202 f11_303 rfl (x_put_l hG (pc := 18) d202_18 mo202 f11_303 (by decide) (am_c_aload_n hG (pc := 21) d202_21 rfl (am_c_lload_n hG (pc := 22) d202_22 rfl (am_c_aload_n hG (pc := 23) d202_23 rfl (x_get_n (v := .inr (.inl ((am_up μ o 39 (μ o 39)) o 40))) hG (pc := 24) d202_24 mo202 f11_307 rfl (am_c_lcmp hG (pc := 27) d202_27 (x_if_le (tgt := 35) hG (pc := 28) d202_28 rfl h (fun h => (am_c_aload_n hG (pc := 35) d202_35 rfl (x_get_n (v := .inr (.inl ((am_up μ o 39 (μ o 39)) o 40))) hG (pc := 36) d202_36 mo202 f11_307 rfl (x_put_l hG (pc := 39) d202_39 mo202 f11_307 (by decide) (x_vret hG (by decide) hr (pc := 42) d202_42 rk202 h))))) (fun h => (am_c_lload_n hG (pc := 31) d202_31 rfl (x_goto (tgt := 39) hG (pc := 32) d202_32 rfl (x_put_l hG (pc := 39) d202_39 mo202 f11_307 (by decide) (x_vret hG (by decide) hr (pc := 42) d202_42 rk202 h))))))))))))))) (fun h => (am_c_lload_n hG (pc := 10) d202_10 rfl (x_goto (tgt := 18) hG (pc := 11) d202_11 rfl (x_put_l hG (pc := 18) d202_18 mo202 f11_303 (by decide) (am_c_aload_n hG (pc := 21) d202_21 rfl (am_c_lload_n hG (pc := 22) d202_22 rfl (am_c_aload_n hG (pc := 23) d202_23 rfl (x_get_n (v := .inr (.inl ((am_up μ o 39 a) o 40))) hG (pc := 24) d202_24 mo202 f11_307 rfl (am_c_lcmp hG (pc := 27) d202_27 (x_if_le (tgt := 35) hG (pc := 28) d202_28 rfl h (fun h => (am_c_aload_n hG (pc := 35) d202_35 rfl (x_get_n (v := .inr (.inl ((am_up μ o 39 a) o 40))) hG (pc := 36) d202_36 mo202 f11_307 rfl (x_put_l hG (pc := 39) d202_39 mo202 f11_307 (by decide) (x_vret hG (by decide) hr (pc := 42) d202_42 rk202 h))))) (fun h => (am_c_lload_n hG (pc := 31) d202_31 rfl (x_goto (tgt := 39) hG (pc := 32) d202_32 rfl (x_put_l hG (pc := 39) d202_39 mo202 f11_307 (by decide) (x_vret hG (by decide) hr (pc := 42) d202_42 rk202 h))))))))))))))))))))))
/-! ChartPressModel.floored(JJ)J -/
theorem D206 (k : Nat) {pc : Nat} {i : Instr} (h : tbi206[k]? = some (pc, i)) (hs : am_isw i = false) {n : Nat} (hn : am_il i = n) : decode (am_mc 206) pc = .ok (i, n) := am_d2 (by decide) (by decide) rfl h hs hn
theorem d206_0 : decode (am_mc 206) 0 = .ok (.lload_n 0, 1) := D206 0 rfl rfl rfl
theorem d206_1 : decode (am_mc 206) 1 = .ok (.lload_n 2, 1) := D206 1 rfl rfl rfl
theorem d206_2 : decode (am_mc 206) 2 = .ok (.ldiv, 1) := D206 2 rfl rfl rfl
theorem d206_3 : decode (am_mc 206) 3 = .ok (.lstore 4, 2) := D206 3 rfl rfl rfl
theorem d206_5 : decode (am_mc 206) 5 = .ok (.lload 4, 2) := D206 4 rfl rfl rfl
theorem d206_7 : decode (am_mc 206) 7 = .ok (.lload_n 2, 1) := D206 5 rfl rfl rfl
theorem d206_8 : decode (am_mc 206) 8 = .ok (.lmul, 1) := D206 6 rfl rfl rfl
theorem d206_9 : decode (am_mc 206) 9 = .ok (.lload_n 0, 1) := D206 7 rfl rfl rfl
theorem d206_10 : decode (am_mc 206) 10 = .ok (.lcmp, 1) := D206 8 rfl rfl rfl
theorem d206_11 : decode (am_mc 206) 11 = .ok (.ifCond .le 10, 3) := D206 9 rfl rfl rfl
theorem d206_14 : decode (am_mc 206) 14 = .ok (.lload 4, 2) := D206 10 rfl rfl rfl
theorem d206_16 : decode (am_mc 206) 16 = .ok (.lconst 1, 1) := D206 11 rfl rfl rfl
theorem d206_17 : decode (am_mc 206) 17 = .ok (.lsub, 1) := D206 12 rfl rfl rfl
theorem d206_18 : decode (am_mc 206) 18 = .ok (.goto 5, 3) := D206 13 rfl rfl rfl
theorem d206_21 : decode (am_mc 206) 21 = .ok (.lload 4, 2) := D206 14 rfl rfl rfl
theorem d206_23 : decode (am_mc 206) 23 = .ok (.lreturn, 1) := D206 15 rfl rfl rfl
theorem ml206 : ∀ n, n < 6 → n < am_ml 206 := fun _ h => h
theorem mo206 : am_mo 206 = 11 := by decide +kernel
theorem rk206 : am_rk 206 = 2 := by decide +kernel
theorem rg206 : am_rcg 206 = 0 := by decide +kernel
def fn206 (a : Int) (b : Int) (μ : am_M) : Option (Int × am_M) := (if b = 0 then none else (if 0 < o_cmp (w64 ((o_divl a b) * b)) a then some (w64 ((o_divl a b) - 1), μ) else some (o_divl a b, μ)))
def sp206 : am_F := fun vs μ => am_aJ vs fun a vs => am_aJ vs fun b vs => am_a0 vs (fn206 a b μ)
theorem e206 (a : Int) (b : Int) (μ : am_M) : sp206 [.inr (.inl a), .inr (.inl b)] μ = fn206 a b μ := by simp only [sp206, am_aR_c, am_aI_c, am_aJ_c, am_a0_c]
theorem sd206 : am_Sd 206 sp206 := by
  refine am_Sd_of (by decide) (fun vs μ μ' x h hv hM => ?_)
  obtain ⟨a, vs0, rfl, h0⟩ := am_aJ_s h
  obtain ⟨b, vs1, rfl, h1⟩ := am_aJ_s h0
  obtain ⟨rfl, hz⟩ := am_a0_s h1
  refine ⟨Nat.le_of_ble_eq_true rfl, fun X C hG hr => ?_⟩
  have h := hz
  unfold fn206 at h
  exact (show am_W X C 206 _ 0 0 0 [(0, .inr (.inl a)), (2, .inr (.inl b))] [] μ from (am_c_lload_n hG (pc := 0) d206_0 rfl (am_c_lload_n hG (pc := 1) d206_1 rfl (x_ldiv hG (pc := 2) d206_2 h (fun h => (x_lstore (lv' := [(4, .inr (.inl (o_divl a b))), (0, .inr (.inl a)), (2, .inr (.inl b))]) hG (pc := 3) d206_3 (ml206 _ (by decide)) rfl (am_c_lload hG (pc := 5) d206_5 rfl (am_c_lload_n hG (pc := 7) d206_7 rfl (am_c_lmul hG (pc := 8) d206_8 (am_c_lload_n hG (pc := 9) d206_9 rfl (am_c_lcmp hG (pc := 10) d206_10 (x_if_le (tgt := 21) hG (pc := 11) d206_11 rfl h (fun h => (am_c_lload hG (pc := 21) d206_21 rfl (x_lret hG (by decide) hr (pc := 23) d206_23 rk206 h))) (fun h => (am_c_lload hG (pc := 14) d206_14 rfl (am_c_lconst hG (pc := 16) d206_16 (am_c_lsub hG (pc := 17) d206_17 (x_goto (tgt := 23) hG (pc := 18) d206_18 rfl (x_lret hG (by decide) hr (pc := 23) d206_23 rk206 h))))))))))))))))))
/-! ChartPressModel.areaWidth()I -/
theorem D209 (k : Nat) {pc : Nat} {i : Instr} (h : tbi209[k]? = some (pc, i)) (hs : am_isw i = false) {n : Nat} (hn : am_il i = n) : decode (am_mc 209) pc = .ok (i, n) := am_d2 (by decide) (by decide) rfl h hs hn
theorem d209_0 : decode (am_mc 209) 0 = .ok (.aload_n 0, 1) := D209 0 rfl rfl rfl
theorem d209_1 : decode (am_mc 209) 1 = .ok (.getfield 16, 3) := D209 1 rfl rfl rfl
theorem d209_4 : decode (am_mc 209) 4 = .ok (.iconst 1, 1) := D209 2 rfl rfl rfl
theorem d209_5 : decode (am_mc 209) 5 = .ok (.isub, 1) := D209 3 rfl rfl rfl
theorem d209_6 : decode (am_mc 209) 6 = .ok (.aload_n 0, 1) := D209 4 rfl rfl rfl
theorem d209_7 : decode (am_mc 209) 7 = .ok (.getfield 348, 3) := D209 5 rfl rfl rfl
theorem d209_10 : decode (am_mc 209) 10 = .ok (.isub, 1) := D209 6 rfl rfl rfl
theorem d209_11 : decode (am_mc 209) 11 = .ok (.ireturn, 1) := D209 7 rfl rfl rfl
theorem ml209 : ∀ n, n < 1 → n < am_ml 209 := fun _ h => h
theorem mo209 : am_mo 209 = 11 := by decide +kernel
theorem mr209 : am_mr 209 = some .int := by decide +kernel
theorem rg209 : am_rcg 209 = 12 := by decide +kernel
theorem f11_348 : tb_f 11 348 = some (11, 45, 0, 0) := by decide +kernel
def fn209 (o : Nat) (μ : am_M) : Option (Int × am_M) := some (w32 ((w32 ((μ o 5) - 1)) - (μ o 45)), μ)
def sp209 : am_F := fun vs μ => am_aR 11 vs fun o vs => am_a0 vs (fn209 o μ)
theorem e209 (o : Nat) (μ : am_M) : sp209 [.inr (.inr (11, o))] μ = fn209 o μ := by simp only [sp209, am_aR_c, am_aI_c, am_aJ_c, am_a0_c]
theorem sd209 : am_Sd 209 sp209 := by
  refine am_Sd_of (by decide) (fun vs μ μ' x h hv hM => ?_)
  obtain ⟨o, vs0, rfl, h0⟩ := am_aR_s h
  obtain ⟨rfl, hz⟩ := am_a0_s h0
  refine ⟨Nat.le_of_ble_eq_true rfl, fun X C hG hr => ?_⟩
  have h := hz
  unfold fn209 at h
  exact (show am_W X C 209 _ 0 0 0 [(0, .inr (.inr (11, o)))] [] μ from (am_c_aload_n hG (pc := 0) d209_0 rfl (x_get_n (v := .inl (μ o 5)) hG (pc := 1) d209_1 mo209 f11_16 rfl (am_c_iconst hG (pc := 4) d209_4 (by decide) (am_c_isub hG (pc := 5) d209_5 (am_c_aload_n hG (pc := 6) d209_6 rfl (x_get_n (v := .inl (μ o 45)) hG (pc := 7) d209_7 mo209 f11_348 rfl (am_c_isub hG (pc := 10) d209_10 (x_iret hG (by decide) hr (pc := 11) d209_11 mr209 h)))))))))
/-! ChartPressModel.labelLength(I)I -/
theorem D210 (k : Nat) {pc : Nat} {i : Instr} (h : tbi210[k]? = some (pc, i)) (hs : am_isw i = false) {n : Nat} (hn : am_il i = n) : decode (am_mc 210) pc = .ok (i, n) := am_d2 (by decide) (by decide) rfl h hs hn
theorem d210_0 : decode (am_mc 210) 0 = .ok (.aload_n 0, 1) := D210 0 rfl rfl rfl
theorem d210_1 : decode (am_mc 210) 1 = .ok (.getfield 27, 3) := D210 1 rfl rfl rfl
theorem d210_4 : decode (am_mc 210) 4 = .ok (.aload_n 0, 1) := D210 2 rfl rfl rfl
theorem d210_5 : decode (am_mc 210) 5 = .ok (.aload_n 0, 1) := D210 3 rfl rfl rfl
theorem d210_6 : decode (am_mc 210) 6 = .ok (.getfield 57, 3) := D210 4 rfl rfl rfl
theorem d210_9 : decode (am_mc 210) 9 = .ok (.aload_n 0, 1) := D210 5 rfl rfl rfl
theorem d210_10 : decode (am_mc 210) 10 = .ok (.getfield 64, 3) := D210 6 rfl rfl rfl
theorem d210_13 : decode (am_mc 210) 13 = .ok (.iload_n 1, 1) := D210 7 rfl rfl rfl
theorem d210_14 : decode (am_mc 210) 14 = .ok (.iaload, 1) := D210 8 rfl rfl rfl
theorem d210_15 : decode (am_mc 210) 15 = .ok (.iaload, 1) := D210 9 rfl rfl rfl
theorem d210_16 : decode (am_mc 210) 16 = .ok (.aload_n 0, 1) := D210 10 rfl rfl rfl
theorem d210_17 : decode (am_mc 210) 17 = .ok (.getfield 263, 3) := D210 11 rfl rfl rfl
theorem d210_20 : decode (am_mc 210) 20 = .ok (.invokevirtual 133, 3) := D210 12 rfl rfl rfl
theorem d210_23 : decode (am_mc 210) 23 = .ok (.iaload, 1) := D210 13 rfl rfl rfl
theorem d210_24 : decode (am_mc 210) 24 = .ok (.ireturn, 1) := D210 14 rfl rfl rfl
theorem ml210 : ∀ n, n < 2 → n < am_ml 210 := fun _ h => h
theorem mo210 : am_mo 210 = 11 := by decide +kernel
theorem mr210 : am_mr 210 = some .int := by decide +kernel
theorem rg210 : am_rcg 210 = 12 := by decide +kernel
theorem f11_57 : tb_f 11 57 = some (11, 34, 5, 16) := by decide +kernel
theorem f11_64 : tb_f 11 64 = some (11, 36, 5, 16) := by decide +kernel
theorem f11_263 : tb_f 11 263 = some (11, 21, 0, 0) := by decide +kernel
theorem dp210_173 : am_md 173 + 1 ≤ am_md 210 ∧ 8 + (am_ml 173 + 11) + am_lr 173 ≤ am_lr 210 := by decide +kernel
def fn210 (o : Nat) (a : Int) (μ : am_M) : Option (Int × am_M) := (if (0 : Int) ≤ a ∧ a < ((am_len (am_ref o 36) : Nat) : Int) then (if (0 : Int) ≤ μ (am_ref o 36) (a : Int).toNat ∧ μ (am_ref o 36) (a : Int).toNat < ((am_len (am_ref o 34) : Nat) : Int) then (am_op (fn173 o (μ (am_ref o 34) (μ (am_ref o 36) (a : Int).toNat : Int).toNat) (μ o 21) μ) (fun z1 => (if (0 : Int) ≤ z1.1 ∧ z1.1 < ((am_len (am_ref o 11) : Nat) : Int) then some (z1.2 (am_ref o 11) (z1.1 : Int).toNat, z1.2) else none))) else none) else none)
def sp210 : am_F := fun vs μ => am_aR 11 vs fun o vs => am_aI vs fun a vs => am_a0 vs (fn210 o a μ)
theorem e210 (o : Nat) (a : Int) (μ : am_M) : sp210 [.inr (.inr (11, o)), .inl a] μ = fn210 o a μ := by simp only [sp210, am_aR_c, am_aI_c, am_aJ_c, am_a0_c]
theorem sd210 : am_Sd 210 sp210 := by
  refine am_Sd_of (by decide) (fun vs μ μ' x h hv hM => ?_)
  obtain ⟨o, vs0, rfl, h0⟩ := am_aR_s h
  obtain ⟨a, vs1, rfl, h1⟩ := am_aI_s h0
  obtain ⟨rfl, hz⟩ := am_a0_s h1
  refine ⟨Nat.le_of_ble_eq_true rfl, fun X C hG hr => ?_⟩
  have h := hz
  unfold fn210 at h
  exact (show am_W X C 210 _ 0 0 0 [(0, .inr (.inr (11, o))), (1, .inl a)] [] μ from (am_c_aload_n hG (pc := 0) d210_0 rfl (x_get_n (v := .inr (.inr (16, am_ref o 11))) hG (pc := 1) d210_1 mo210 f11_27 rfl (am_c_aload_n hG (pc := 4) d210_4 rfl (am_c_aload_n hG (pc := 5) d210_5 rfl (x_get_n (v := .inr (.inr (16, am_ref o 34))) hG (pc := 6) d210_6 mo210 f11_57 rfl (am_c_aload_n hG (pc := 9) d210_9 rfl (x_get_n (v := .inr (.inr (16, am_ref o 36))) hG (pc := 10) d210_10 mo210 f11_64 rfl (am_c_iload_n hG (pc := 13) d210_13 rfl (x_iaload hG (pc := 14) d210_14 h (fun h => (x_iaload hG (pc := 15) d210_15 h (fun h => (am_c_aload_n hG (pc := 16) d210_16 rfl (x_get_n (v := .inl (μ o 21)) hG (pc := 17) d210_17 mo210 f11_263 rfl (x_virtual_i (t := 11) (o := o) (as2 := [.inl (μ (am_ref o 34) (μ (am_ref o 36) (a : Int).toNat : Int).toNat), .inl (μ o 21)]) (rest := [.inr (.inr (16, am_ref o 11))]) hG (pc := 20) d210_20 mo210 m11_133 (by decide) dp210_173 rfl rfl (Nat.le_of_ble_eq_true rfl) (Nat.le_of_ble_eq_true rfl) rg173 sd173 (e173 _ _ _ _) h (fun z1 h => (x_iaload hG (pc := 23) d210_23 h (fun h => (x_iret hG (by decide) hr (pc := 24) d210_24 mr210 h))))))))))))))))))))
/-! ChartPressModel.bandFrom(I)I -/
theorem D211 (k : Nat) {pc : Nat} {i : Instr} (h : tbi211[k]? = some (pc, i)) (hs : am_isw i = false) {n : Nat} (hn : am_il i = n) : decode (am_mc 211) pc = .ok (i, n) := am_d2 (by decide) (by decide) rfl h hs hn
theorem d211_0 : decode (am_mc 211) 0 = .ok (.aload_n 0, 1) := D211 0 rfl rfl rfl
theorem d211_1 : decode (am_mc 211) 1 = .ok (.getfield 348, 3) := D211 1 rfl rfl rfl
theorem d211_4 : decode (am_mc 211) 4 = .ok (.iload_n 1, 1) := D211 2 rfl rfl rfl
theorem d211_5 : decode (am_mc 211) 5 = .ok (.aload_n 0, 1) := D211 3 rfl rfl rfl
theorem d211_6 : decode (am_mc 211) 6 = .ok (.invokevirtual 351, 3) := D211 4 rfl rfl rfl
theorem d211_9 : decode (am_mc 211) 9 = .ok (.imul, 1) := D211 5 rfl rfl rfl
theorem d211_10 : decode (am_mc 211) 10 = .ok (.aload_n 0, 1) := D211 6 rfl rfl rfl
theorem d211_11 : decode (am_mc 211) 11 = .ok (.getfield 310, 3) := D211 7 rfl rfl rfl
theorem d211_14 : decode (am_mc 211) 14 = .ok (.idiv, 1) := D211 8 rfl rfl rfl
theorem d211_15 : decode (am_mc 211) 15 = .ok (.iadd, 1) := D211 9 rfl rfl rfl
theorem d211_16 : decode (am_mc 211) 16 = .ok (.ireturn, 1) := D211 10 rfl rfl rfl
theorem ml211 : ∀ n, n < 2 → n < am_ml 211 := fun _ h => h
theorem mo211 : am_mo 211 = 11 := by decide +kernel
theorem mr211 : am_mr 211 = some .int := by decide +kernel
theorem rg211 : am_rcg 211 = 12 := by decide +kernel
theorem f11_310 : tb_f 11 310 = some (11, 47, 0, 0) := by decide +kernel
theorem m11_351 : tb_m 11 351 = some (209, 1, 1, 0) := by decide +kernel
theorem dp211_209 : am_md 209 + 1 ≤ am_md 211 ∧ 8 + (am_ml 209 + 11) + am_lr 209 ≤ am_lr 211 := by decide +kernel
def fn211 (o : Nat) (a : Int) (μ : am_M) : Option (Int × am_M) := (am_op (fn209 o μ) (fun z1 => (if z1.2 o 47 = 0 then none else some (w32 ((μ o 45) + (o_div (w32 (a * z1.1)) (z1.2 o 47))), z1.2))))
def sp211 : am_F := fun vs μ => am_aR 11 vs fun o vs => am_aI vs fun a vs => am_a0 vs (fn211 o a μ)
theorem e211 (o : Nat) (a : Int) (μ : am_M) : sp211 [.inr (.inr (11, o)), .inl a] μ = fn211 o a μ := by simp only [sp211, am_aR_c, am_aI_c, am_aJ_c, am_a0_c]
theorem sd211 : am_Sd 211 sp211 := by
  refine am_Sd_of (by decide) (fun vs μ μ' x h hv hM => ?_)
  obtain ⟨o, vs0, rfl, h0⟩ := am_aR_s h
  obtain ⟨a, vs1, rfl, h1⟩ := am_aI_s h0
  obtain ⟨rfl, hz⟩ := am_a0_s h1
  refine ⟨Nat.le_of_ble_eq_true rfl, fun X C hG hr => ?_⟩
  have h := hz
  unfold fn211 at h
  exact (show am_W X C 211 _ 0 0 0 [(0, .inr (.inr (11, o))), (1, .inl a)] [] μ from (am_c_aload_n hG (pc := 0) d211_0 rfl (x_get_n (v := .inl (μ o 45)) hG (pc := 1) d211_1 mo211 f11_348 rfl (am_c_iload_n hG (pc := 4) d211_4 rfl (am_c_aload_n hG (pc := 5) d211_5 rfl (x_virtual_i (t := 11) (o := o) (as2 := []) (rest := [.inl a, .inl (μ o 45)]) hG (pc := 6) d211_6 mo211 m11_351 (by decide) dp211_209 rfl rfl (Nat.le_of_ble_eq_true rfl) (Nat.le_of_ble_eq_true rfl) rg209 sd209 (e209 _ _) h (fun z1 h => (am_c_imul hG (pc := 9) d211_9 (am_c_aload_n hG (pc := 10) d211_10 rfl (x_get_n (v := .inl (z1.2 o 47)) hG (pc := 11) d211_11 mo211 f11_310 rfl (x_idiv hG (pc := 14) d211_14 h (fun h => (am_c_iadd hG (pc := 15) d211_15 (x_iret hG (by decide) hr (pc := 16) d211_16 mr211 h))))))))))))))
/-! ChartPressModel.bandTo(I)I -/
theorem D212 (k : Nat) {pc : Nat} {i : Instr} (h : tbi212[k]? = some (pc, i)) (hs : am_isw i = false) {n : Nat} (hn : am_il i = n) : decode (am_mc 212) pc = .ok (i, n) := am_d2 (by decide) (by decide) rfl h hs hn
theorem d212_0 : decode (am_mc 212) 0 = .ok (.aload_n 0, 1) := D212 0 rfl rfl rfl
theorem d212_1 : decode (am_mc 212) 1 = .ok (.iload_n 1, 1) := D212 1 rfl rfl rfl
theorem d212_2 : decode (am_mc 212) 2 = .ok (.iconst 1, 1) := D212 2 rfl rfl rfl
theorem d212_3 : decode (am_mc 212) 3 = .ok (.iadd, 1) := D212 3 rfl rfl rfl
theorem d212_4 : decode (am_mc 212) 4 = .ok (.invokevirtual 354, 3) := D212 4 rfl rfl rfl
theorem d212_7 : decode (am_mc 212) 7 = .ok (.iconst 1, 1) := D212 5 rfl rfl rfl
theorem d212_8 : decode (am_mc 212) 8 = .ok (.isub, 1) := D212 6 rfl rfl rfl
theorem d212_9 : decode (am_mc 212) 9 = .ok (.ireturn, 1) := D212 7 rfl rfl rfl
theorem ml212 : ∀ n, n < 2 → n < am_ml 212 := fun _ h => h
theorem mo212 : am_mo 212 = 11 := by decide +kernel
theorem mr212 : am_mr 212 = some .int := by decide +kernel
theorem rg212 : am_rcg 212 = 12 := by decide +kernel
theorem m11_354 : tb_m 11 354 = some (211, 2, 1, 0) := by decide +kernel
theorem dp212_211 : am_md 211 + 1 ≤ am_md 212 ∧ 8 + (am_ml 211 + 11) + am_lr 211 ≤ am_lr 212 := by decide +kernel
def fn212 (o : Nat) (a : Int) (μ : am_M) : Option (Int × am_M) := (am_op (fn211 o (w32 (a + 1)) μ) (fun z1 => some (w32 (z1.1 - 1), z1.2)))
def sp212 : am_F := fun vs μ => am_aR 11 vs fun o vs => am_aI vs fun a vs => am_a0 vs (fn212 o a μ)
theorem e212 (o : Nat) (a : Int) (μ : am_M) : sp212 [.inr (.inr (11, o)), .inl a] μ = fn212 o a μ := by simp only [sp212, am_aR_c, am_aI_c, am_aJ_c, am_a0_c]
theorem sd212 : am_Sd 212 sp212 := by
  refine am_Sd_of (by decide) (fun vs μ μ' x h hv hM => ?_)
  obtain ⟨o, vs0, rfl, h0⟩ := am_aR_s h
  obtain ⟨a, vs1, rfl, h1⟩ := am_aI_s h0
  obtain ⟨rfl, hz⟩ := am_a0_s h1
  refine ⟨Nat.le_of_ble_eq_true rfl, fun X C hG hr => ?_⟩
  have h := hz
  unfold fn212 at h
  exact (show am_W X C 212 _ 0 0 0 [(0, .inr (.inr (11, o))), (1, .inl a)] [] μ from (am_c_aload_n hG (pc := 0) d212_0 rfl (am_c_iload_n hG (pc := 1) d212_1 rfl (am_c_iconst hG (pc := 2) d212_2 (by decide) (am_c_iadd hG (pc := 3) d212_3 (x_virtual_i (t := 11) (o := o) (as2 := [.inl (w32 (a + 1))]) (rest := []) hG (pc := 4) d212_4 mo212 m11_354 (by decide) dp212_211 rfl rfl (Nat.le_of_ble_eq_true rfl) (Nat.le_of_ble_eq_true rfl) rg211 sd211 (e211 _ _ _) h (fun z1 h => (am_c_iconst hG (pc := 7) d212_7 (by decide) (am_c_isub hG (pc := 8) d212_8 (x_iret hG (by decide) hr (pc := 9) d212_9 mr212 h))))))))))
/-! ChartPressModel.middle(I)I -/
theorem D213 (k : Nat) {pc : Nat} {i : Instr} (h : tbi213[k]? = some (pc, i)) (hs : am_isw i = false) {n : Nat} (hn : am_il i = n) : decode (am_mc 213) pc = .ok (i, n) := am_d2 (by decide) (by decide) rfl h hs hn
theorem d213_0 : decode (am_mc 213) 0 = .ok (.aload_n 0, 1) := D213 0 rfl rfl rfl
theorem d213_1 : decode (am_mc 213) 1 = .ok (.iload_n 1, 1) := D213 1 rfl rfl rfl
theorem d213_2 : decode (am_mc 213) 2 = .ok (.invokevirtual 354, 3) := D213 2 rfl rfl rfl
theorem d213_5 : decode (am_mc 213) 5 = .ok (.aload_n 0, 1) := D213 3 rfl rfl rfl
theorem d213_6 : decode (am_mc 213) 6 = .ok (.iload_n 1, 1) := D213 4 rfl rfl rfl
theorem d213_7 : decode (am_mc 213) 7 = .ok (.invokevirtual 357, 3) := D213 5 rfl rfl rfl
theorem d213_10 : decode (am_mc 213) 10 = .ok (.iadd, 1) := D213 6 rfl rfl rfl
theorem d213_11 : decode (am_mc 213) 11 = .ok (.iconst 2, 1) := D213 7 rfl rfl rfl
theorem d213_12 : decode (am_mc 213) 12 = .ok (.idiv, 1) := D213 8 rfl rfl rfl
theorem d213_13 : decode (am_mc 213) 13 = .ok (.ireturn, 1) := D213 9 rfl rfl rfl
theorem ml213 : ∀ n, n < 2 → n < am_ml 213 := fun _ h => h
theorem mo213 : am_mo 213 = 11 := by decide +kernel
theorem mr213 : am_mr 213 = some .int := by decide +kernel
theorem rg213 : am_rcg 213 = 12 := by decide +kernel
theorem m11_357 : tb_m 11 357 = some (212, 2, 1, 0) := by decide +kernel
theorem dp213_211 : am_md 211 + 1 ≤ am_md 213 ∧ 8 + (am_ml 211 + 11) + am_lr 211 ≤ am_lr 213 := by decide +kernel
theorem dp213_212 : am_md 212 + 1 ≤ am_md 213 ∧ 8 + (am_ml 212 + 11) + am_lr 212 ≤ am_lr 213 := by decide +kernel
def fn213 (o : Nat) (a : Int) (μ : am_M) : Option (Int × am_M) := (am_op (fn211 o a μ) (fun z1 => (am_op (fn212 o a z1.2) (fun z2 => some (o_div (w32 (z1.1 + z2.1)) 2, z2.2)))))
def sp213 : am_F := fun vs μ => am_aR 11 vs fun o vs => am_aI vs fun a vs => am_a0 vs (fn213 o a μ)
theorem e213 (o : Nat) (a : Int) (μ : am_M) : sp213 [.inr (.inr (11, o)), .inl a] μ = fn213 o a μ := by simp only [sp213, am_aR_c, am_aI_c, am_aJ_c, am_a0_c]
theorem sd213 : am_Sd 213 sp213 := by
  refine am_Sd_of (by decide) (fun vs μ μ' x h hv hM => ?_)
  obtain ⟨o, vs0, rfl, h0⟩ := am_aR_s h
  obtain ⟨a, vs1, rfl, h1⟩ := am_aI_s h0
  obtain ⟨rfl, hz⟩ := am_a0_s h1
  refine ⟨Nat.le_of_ble_eq_true rfl, fun X C hG hr => ?_⟩
  have h := hz
  unfold fn213 at h
  exact (show am_W X C 213 _ 0 0 0 [(0, .inr (.inr (11, o))), (1, .inl a)] [] μ from (am_c_aload_n hG (pc := 0) d213_0 rfl (am_c_iload_n hG (pc := 1) d213_1 rfl (x_virtual_i (t := 11) (o := o) (as2 := [.inl a]) (rest := []) hG (pc := 2) d213_2 mo213 m11_354 (by decide) dp213_211 rfl rfl (Nat.le_of_ble_eq_true rfl) (Nat.le_of_ble_eq_true rfl) rg211 sd211 (e211 _ _ _) h (fun z1 h => (am_c_aload_n hG (pc := 5) d213_5 rfl (am_c_iload_n hG (pc := 6) d213_6 rfl (x_virtual_i (t := 11) (o := o) (as2 := [.inl a]) (rest := [.inl z1.1]) hG (pc := 7) d213_7 mo213 m11_357 (by decide) dp213_212 rfl rfl (Nat.le_of_ble_eq_true rfl) (Nat.le_of_ble_eq_true rfl) rg212 sd212 (e212 _ _ _) h (fun z2 h => (am_c_iadd hG (pc := 10) d213_10 (am_c_iconst hG (pc := 11) d213_11 (by decide) (am_c_idiv hG (pc := 12) d213_12 (by decide) (x_iret hG (by decide) hr (pc := 13) d213_13 mr213 h)))))))))))))
/-! ChartPressModel.labelFrom(I)I -/
theorem D214 (k : Nat) {pc : Nat} {i : Instr} (h : tbi214[k]? = some (pc, i)) (hs : am_isw i = false) {n : Nat} (hn : am_il i = n) : decode (am_mc 214) pc = .ok (i, n) := am_d2 (by decide) (by decide) rfl h hs hn
theorem d214_0 : decode (am_mc 214) 0 = .ok (.iconst 4, 1) := D214 0 rfl rfl rfl
theorem d214_1 : decode (am_mc 214) 1 = .ok (.aload_n 0, 1) := D214 1 rfl rfl rfl
theorem d214_2 : decode (am_mc 214) 2 = .ok (.iload_n 1, 1) := D214 2 rfl rfl rfl
theorem d214_3 : decode (am_mc 214) 3 = .ok (.invokevirtual 360, 3) := D214 3 rfl rfl rfl
theorem d214_6 : decode (am_mc 214) 6 = .ok (.imul, 1) := D214 4 rfl rfl rfl
theorem d214_7 : decode (am_mc 214) 7 = .ok (.iconst 1, 1) := D214 5 rfl rfl rfl
theorem d214_8 : decode (am_mc 214) 8 = .ok (.isub, 1) := D214 6 rfl rfl rfl
theorem d214_9 : decode (am_mc 214) 9 = .ok (.istore_n 2, 1) := D214 7 rfl rfl rfl
theorem d214_10 : decode (am_mc 214) 10 = .ok (.aload_n 0, 1) := D214 8 rfl rfl rfl
theorem d214_11 : decode (am_mc 214) 11 = .ok (.iload_n 1, 1) := D214 9 rfl rfl rfl
theorem d214_12 : decode (am_mc 214) 12 = .ok (.invokevirtual 363, 3) := D214 10 rfl rfl rfl
theorem d214_15 : decode (am_mc 214) 15 = .ok (.iload_n 2, 1) := D214 11 rfl rfl rfl
theorem d214_16 : decode (am_mc 214) 16 = .ok (.iconst 2, 1) := D214 12 rfl rfl rfl
theorem d214_17 : decode (am_mc 214) 17 = .ok (.idiv, 1) := D214 13 rfl rfl rfl
theorem d214_18 : decode (am_mc 214) 18 = .ok (.isub, 1) := D214 14 rfl rfl rfl
theorem d214_19 : decode (am_mc 214) 19 = .ok (.istore_n 3, 1) := D214 15 rfl rfl rfl
theorem d214_20 : decode (am_mc 214) 20 = .ok (.iload_n 3, 1) := D214 16 rfl rfl rfl
theorem d214_21 : decode (am_mc 214) 21 = .ok (.iload_n 2, 1) := D214 17 rfl rfl rfl
theorem d214_22 : decode (am_mc 214) 22 = .ok (.iadd, 1) := D214 18 rfl rfl rfl
theorem d214_23 : decode (am_mc 214) 23 = .ok (.aload_n 0, 1) := D214 19 rfl rfl rfl
theorem d214_24 : decode (am_mc 214) 24 = .ok (.getfield 16, 3) := D214 20 rfl rfl rfl
theorem d214_27 : decode (am_mc 214) 27 = .ok (.if_icmp .le 12, 3) := D214 21 rfl rfl rfl
theorem d214_30 : decode (am_mc 214) 30 = .ok (.aload_n 0, 1) := D214 22 rfl rfl rfl
theorem d214_31 : decode (am_mc 214) 31 = .ok (.getfield 16, 3) := D214 23 rfl rfl rfl
theorem d214_34 : decode (am_mc 214) 34 = .ok (.iload_n 2, 1) := D214 24 rfl rfl rfl
theorem d214_35 : decode (am_mc 214) 35 = .ok (.isub, 1) := D214 25 rfl rfl rfl
theorem d214_36 : decode (am_mc 214) 36 = .ok (.goto 4, 3) := D214 26 rfl rfl rfl
theorem d214_39 : decode (am_mc 214) 39 = .ok (.iload_n 3, 1) := D214 27 rfl rfl rfl
theorem d214_40 : decode (am_mc 214) 40 = .ok (.istore_n 3, 1) := D214 28 rfl rfl rfl
theorem d214_41 : decode (am_mc 214) 41 = .ok (.iload_n 3, 1) := D214 29 rfl rfl rfl
theorem d214_42 : decode (am_mc 214) 42 = .ok (.ifCond .ge 7, 3) := D214 30 rfl rfl rfl
theorem d214_45 : decode (am_mc 214) 45 = .ok (.iconst 0, 1) := D214 31 rfl rfl rfl
theorem d214_46 : decode (am_mc 214) 46 = .ok (.goto 4, 3) := D214 32 rfl rfl rfl
theorem d214_49 : decode (am_mc 214) 49 = .ok (.iload_n 3, 1) := D214 33 rfl rfl rfl
theorem d214_50 : decode (am_mc 214) 50 = .ok (.ireturn, 1) := D214 34 rfl rfl rfl
theorem ml214 : ∀ n, n < 4 → n < am_ml 214 := fun _ h => h
theorem mo214 : am_mo 214 = 11 := by decide +kernel
theorem mr214 : am_mr 214 = some .int := by decide +kernel
theorem rg214 : am_rcg 214 = 12 := by decide +kernel
theorem m11_360 : tb_m 11 360 = some (210, 2, 1, 0) := by decide +kernel
theorem m11_363 : tb_m 11 363 = some (213, 2, 1, 0) := by decide +kernel
theorem dp214_210 : am_md 210 + 1 ≤ am_md 214 ∧ 8 + (am_ml 210 + 11) + am_lr 210 ≤ am_lr 214 := by decide +kernel
theorem dp214_213 : am_md 213 + 1 ≤ am_md 214 ∧ 8 + (am_ml 213 + 11) + am_lr 213 ≤ am_lr 214 := by decide +kernel
def fn214 (o : Nat) (a : Int) (μ : am_M) : Option (Int × am_M) := (am_op (fn210 o a μ) (fun z1 => (am_op (fn213 o a z1.2) (fun z2 => (if z2.2 o 5 < w32 ((w32 (z2.1 - (o_div (w32 ((w32 (4 * z1.1)) - 1)) 2))) + (w32 ((w32 (4 * z1.1)) - 1))) then (if w32 ((z2.2 o 5) - (w32 ((w32 (4 * z1.1)) - 1))) < 0 then some (0, z2.2) else some (w32 ((z2.2 o 5) - (w32 ((w32 (4 * z1.1)) - 1))), z2.2)) else (if w32 (z2.1 - (o_div (w32 ((w32 (4 * z1.1)) - 1)) 2)) < 0 then some (0, z2.2) else some (w32 (z2.1 - (o_div (w32 ((w32 (4 * z1.1)) - 1)) 2)), z2.2)))))))
def sp214 : am_F := fun vs μ => am_aR 11 vs fun o vs => am_aI vs fun a vs => am_a0 vs (fn214 o a μ)
theorem e214 (o : Nat) (a : Int) (μ : am_M) : sp214 [.inr (.inr (11, o)), .inl a] μ = fn214 o a μ := by simp only [sp214, am_aR_c, am_aI_c, am_aJ_c, am_a0_c]
theorem sd214 : am_Sd 214 sp214 := by
  refine am_Sd_of (by decide) (fun vs μ μ' x h hv hM => ?_)
  obtain ⟨o, vs0, rfl, h0⟩ := am_aR_s h
  obtain ⟨a, vs1, rfl, h1⟩ := am_aI_s h0
  obtain ⟨rfl, hz⟩ := am_a0_s h1
  refine ⟨Nat.le_of_ble_eq_true rfl, fun X C hG hr => ?_⟩
  have h := hz
  unfold fn214 at h
  exact (show am_W X C 214 _ 0 0 0 [(0, .inr (.inr (11, o))), (1, .inl a)] [] μ from (am_c_iconst hG (pc := 0) d214_0 (by decide) (am_c_aload_n hG (pc := 1) d214_1 rfl (am_c_iload_n hG (pc := 2) d214_2 rfl (x_virtual_i (t := 11) (o := o) (as2 := [.inl a]) (rest := [.inl 4]) hG (pc := 3) d214_3 mo214 m11_360 (by decide) dp214_210 rfl rfl (Nat.le_of_ble_eq_true rfl) (Nat.le_of_ble_eq_true rfl) rg210 sd210 (e210 _ _ _) h (fun z1 h => (am_c_imul hG (pc := 6) d214_6 (am_c_iconst hG (pc := 7) d214_7 (by decide) (am_c_isub hG (pc := 8) d214_8 (x_istore_n (lv' := [(2, .inl (w32 ((w32 (4 * z1.1)) - 1))), (0, .inr (.inr (11, o))), (1, .inl a)]) hG (pc := 9) d214_9 (ml214 _ (by decide)) rfl (am_c_aload_n hG (pc := 10) d214_10 rfl (am_c_iload_n hG (pc := 11) d214_11 rfl (x_virtual_i (t := 11) (o := o) (as2 := [.inl a]) (rest := []) hG (pc := 12) d214_12 mo214 m11_363 (by decide) dp214_213 rfl rfl (Nat.le_of_ble_eq_true rfl) (Nat.le_of_ble_eq_true rfl) rg213 sd213 (e213 _ _ _) h (fun z2 h => (am_c_iload_n hG (pc := 15) d214_15 rfl (am_c_iconst hG (pc := 16) d214_16 (by decide) (am_c_idiv hG (pc := 17) d214_17 (by decide) (am_c_isub hG (pc := 18) d214_18 (x_istore_n (lv' := [(3, .inl (w32 (z2.1 - (o_div (w32 ((w32 (4 * z1.1)) - 1)) 2)))), (2, .inl (w32 ((w32 (4 * z1.1)) - 1))), (0, .inr (.inr (11, o))), (1, .inl a)]) hG (pc := 19) d214_19 (ml214 _ (by decide)) rfl (am_c_iload_n hG (pc := 20) d214_20 rfl (am_c_iload_n hG (pc := 21) d214_21 rfl (am_c_iadd hG (pc := 22) d214_22 (am_c_aload_n hG (pc := 23) d214_23 rfl (x_get_n (v := .inl (z2.2 o 5)) hG (pc := 24) d214_24 mo214 f11_16 rfl (x_icmp_le (tgt := 39) hG (pc := 27) d214_27 rfl h (fun h => (am_c_iload_n hG (pc := 39) d214_39 rfl (x_istore_n (lv' := [(3, .inl (w32 (z2.1 - (o_div (w32 ((w32 (4 * z1.1)) - 1)) 2)))), (2, .inl (w32 ((w32 (4 * z1.1)) - 1))), (0, .inr (.inr (11, o))), (1, .inl a)]) hG (pc := 40) d214_40 (ml214 _ (by decide)) rfl (am_c_iload_n hG (pc := 41) d214_41 rfl (x_if_ge (tgt := 49) hG (pc := 42) d214_42 rfl h (fun h => (am_c_iload_n hG (pc := 49) d214_49 rfl (x_iret hG (by decide) hr (pc := 50) d214_50 mr214 h))) (fun h => (am_c_iconst hG (pc := 45) d214_45 (by decide) (x_goto (tgt := 50) hG (pc := 46) d214_46 rfl (x_iret hG (by decide) hr (pc := 50) d214_50 mr214 h))))))))) (fun h => (am_c_aload_n hG (pc := 30) d214_30 rfl (x_get_n (v := .inl (z2.2 o 5)) hG (pc := 31) d214_31 mo214 f11_16 rfl (am_c_iload_n hG (pc := 34) d214_34 rfl (am_c_isub hG (pc := 35) d214_35 (x_goto (tgt := 40) hG (pc := 36) d214_36 rfl (x_istore_n (lv' := [(3, .inl (w32 ((z2.2 o 5) - (w32 ((w32 (4 * z1.1)) - 1))))), (2, .inl (w32 ((w32 (4 * z1.1)) - 1))), (0, .inr (.inr (11, o))), (1, .inl a)]) hG (pc := 40) d214_40 (ml214 _ (by decide)) rfl (am_c_iload_n hG (pc := 41) d214_41 rfl (x_if_ge (tgt := 49) hG (pc := 42) d214_42 rfl h (fun h => (am_c_iload_n hG (pc := 49) d214_49 rfl (x_iret hG (by decide) hr (pc := 50) d214_50 mr214 h))) (fun h => (am_c_iconst hG (pc := 45) d214_45 (by decide) (x_goto (tgt := 50) hG (pc := 46) d214_46 rfl (x_iret hG (by decide) hr (pc := 50) d214_50 mr214 h))))))))))))))))))))))))))))))))))))))
/-! ChartPressModel.dot(III)V -/
theorem D217 (k : Nat) {pc : Nat} {i : Instr} (h : tbi217[k]? = some (pc, i)) (hs : am_isw i = false) {n : Nat} (hn : am_il i = n) : decode (am_mc 217) pc = .ok (i, n) := am_d2 (by decide) (by decide) rfl h hs hn
theorem d217_0 : decode (am_mc 217) 0 = .ok (.aload_n 0, 1) := D217 0 rfl rfl rfl
theorem d217_1 : decode (am_mc 217) 1 = .ok (.getfield 74, 3) := D217 1 rfl rfl rfl
theorem d217_4 : decode (am_mc 217) 4 = .ok (.bipush 96, 2) := D217 2 rfl rfl rfl
theorem d217_6 : decode (am_mc 217) 6 = .ok (.iload_n 2, 1) := D217 3 rfl rfl rfl
theorem d217_7 : decode (am_mc 217) 7 = .ok (.imul, 1) := D217 4 rfl rfl rfl
theorem d217_8 : decode (am_mc 217) 8 = .ok (.iload_n 1, 1) := D217 5 rfl rfl rfl
theorem d217_9 : decode (am_mc 217) 9 = .ok (.iadd, 1) := D217 6 rfl rfl rfl
theorem d217_10 : decode (am_mc 217) 10 = .ok (.iload_n 3, 1) := D217 7 rfl rfl rfl
theorem d217_11 : decode (am_mc 217) 11 = .ok (.iastore, 1) := D217 8 rfl rfl rfl
theorem d217_12 : decode (am_mc 217) 12 = .ok (.return_, 1) := D217 9 rfl rfl rfl
theorem ml217 : ∀ n, n < 4 → n < am_ml 217 := fun _ h => h
theorem mo217 : am_mo 217 = 11 := by decide +kernel
theorem rk217 : am_rk 217 = 0 := by decide +kernel
theorem rg217 : am_rcg 217 = 12 := by decide +kernel
theorem f11_74 : tb_f 11 74 = some (11, 50, 5, 16) := by decide +kernel
def fn217 (o : Nat) (a : Int) (b : Int) (c : Int) (μ : am_M) : Option (Int × am_M) := (if (0 : Int) ≤ w32 ((w32 (96 * b)) + a) ∧ w32 ((w32 (96 * b)) + a) < ((am_len (am_ref o 50) : Nat) : Int) then some (0, am_up μ (am_ref o 50) (w32 ((w32 (96 * b)) + a) : Int).toNat c) else none)
def sp217 : am_F := fun vs μ => am_aR 11 vs fun o vs => am_aI vs fun a vs => am_aI vs fun b vs => am_aI vs fun c vs => am_a0 vs (fn217 o a b c μ)
theorem e217 (o : Nat) (a : Int) (b : Int) (c : Int) (μ : am_M) : sp217 [.inr (.inr (11, o)), .inl a, .inl b, .inl c] μ = fn217 o a b c μ := by simp only [sp217, am_aR_c, am_aI_c, am_aJ_c, am_a0_c]
theorem sd217 : am_Sd 217 sp217 := by
  refine am_Sd_of (by decide) (fun vs μ μ' x h hv hM => ?_)
  obtain ⟨o, vs0, rfl, h0⟩ := am_aR_s h
  obtain ⟨a, vs1, rfl, h1⟩ := am_aI_s h0
  obtain ⟨b, vs2, rfl, h2⟩ := am_aI_s h1
  obtain ⟨c, vs3, rfl, h3⟩ := am_aI_s h2
  obtain ⟨rfl, hz⟩ := am_a0_s h3
  refine ⟨Nat.le_of_ble_eq_true rfl, fun X C hG hr => ?_⟩
  have h := hz
  unfold fn217 at h
  exact (show am_W X C 217 _ 0 0 0 [(0, .inr (.inr (11, o))), (1, .inl a), (2, .inl b), (3, .inl c)] [] μ from (am_c_aload_n hG (pc := 0) d217_0 rfl (x_get_n (v := .inr (.inr (16, am_ref o 50))) hG (pc := 1) d217_1 mo217 f11_74 rfl (am_c_bipush hG (pc := 4) d217_4 (by decide) (am_c_iload_n hG (pc := 6) d217_6 rfl (am_c_imul hG (pc := 7) d217_7 (am_c_iload_n hG (pc := 8) d217_8 rfl (am_c_iadd hG (pc := 9) d217_9 (am_c_iload_n hG (pc := 10) d217_10 rfl (x_iastore hG (pc := 11) d217_11 h (fun h => (x_vret hG (by decide) hr (pc := 12) d217_12 rk217 h))))))))))))
/-! ChartPressModel.rowOf(J)I -/
theorem D218 (k : Nat) {pc : Nat} {i : Instr} (h : tbi218[k]? = some (pc, i)) (hs : am_isw i = false) {n : Nat} (hn : am_il i = n) : decode (am_mc 218) pc = .ok (i, n) := am_d2 (by decide) (by decide) rfl h hs hn
theorem d218_0 : decode (am_mc 218) 0 = .ok (.aload_n 0, 1) := D218 0 rfl rfl rfl
theorem d218_1 : decode (am_mc 218) 1 = .ok (.getfield 340, 3) := D218 1 rfl rfl rfl
theorem d218_4 : decode (am_mc 218) 4 = .ok (.aload_n 0, 1) := D218 2 rfl rfl rfl
theorem d218_5 : decode (am_mc 218) 5 = .ok (.getfield 337, 3) := D218 3 rfl rfl rfl
theorem d218_8 : decode (am_mc 218) 8 = .ok (.lsub, 1) := D218 4 rfl rfl rfl
theorem d218_9 : decode (am_mc 218) 9 = .ok (.ldc2_w 280, 3) := D218 5 rfl rfl rfl
theorem d218_12 : decode (am_mc 218) 12 = .ok (.lmul, 1) := D218 6 rfl rfl rfl
theorem d218_13 : decode (am_mc 218) 13 = .ok (.lstore_n 3, 1) := D218 7 rfl rfl rfl
theorem d218_14 : decode (am_mc 218) 14 = .ok (.lload_n 1, 1) := D218 8 rfl rfl rfl
theorem d218_15 : decode (am_mc 218) 15 = .ok (.aload_n 0, 1) := D218 9 rfl rfl rfl
theorem d218_16 : decode (am_mc 218) 16 = .ok (.getfield 337, 3) := D218 10 rfl rfl rfl
theorem d218_19 : decode (am_mc 218) 19 = .ok (.ldc2_w 280, 3) := D218 11 rfl rfl rfl
theorem d218_22 : decode (am_mc 218) 22 = .ok (.lmul, 1) := D218 12 rfl rfl rfl
theorem d218_23 : decode (am_mc 218) 23 = .ok (.lsub, 1) := D218 13 rfl rfl rfl
theorem d218_24 : decode (am_mc 218) 24 = .ok (.aload_n 0, 1) := D218 14 rfl rfl rfl
theorem d218_25 : decode (am_mc 218) 25 = .ok (.getfield 20, 3) := D218 15 rfl rfl rfl
theorem d218_28 : decode (am_mc 218) 28 = .ok (.bipush 10, 2) := D218 16 rfl rfl rfl
theorem d218_30 : decode (am_mc 218) 30 = .ok (.isub, 1) := D218 17 rfl rfl rfl
theorem d218_31 : decode (am_mc 218) 31 = .ok (.i2l, 1) := D218 18 rfl rfl rfl
theorem d218_32 : decode (am_mc 218) 32 = .ok (.lmul, 1) := D218 19 rfl rfl rfl
theorem d218_33 : decode (am_mc 218) 33 = .ok (.lstore 5, 2) := D218 20 rfl rfl rfl
theorem d218_35 : decode (am_mc 218) 35 = .ok (.aload_n 0, 1) := D218 21 rfl rfl rfl
theorem d218_36 : decode (am_mc 218) 36 = .ok (.getfield 20, 3) := D218 22 rfl rfl rfl
theorem d218_39 : decode (am_mc 218) 39 = .ok (.bipush 9, 2) := D218 23 rfl rfl rfl
theorem d218_41 : decode (am_mc 218) 41 = .ok (.isub, 1) := D218 24 rfl rfl rfl
theorem d218_42 : decode (am_mc 218) 42 = .ok (.ldc2_w 326, 3) := D218 25 rfl rfl rfl
theorem d218_45 : decode (am_mc 218) 45 = .ok (.lload 5, 2) := D218 26 rfl rfl rfl
theorem d218_47 : decode (am_mc 218) 47 = .ok (.lmul, 1) := D218 27 rfl rfl rfl
theorem d218_48 : decode (am_mc 218) 48 = .ok (.lload_n 3, 1) := D218 28 rfl rfl rfl
theorem d218_49 : decode (am_mc 218) 49 = .ok (.ladd, 1) := D218 29 rfl rfl rfl
theorem d218_50 : decode (am_mc 218) 50 = .ok (.ldc2_w 326, 3) := D218 30 rfl rfl rfl
theorem d218_53 : decode (am_mc 218) 53 = .ok (.lload_n 3, 1) := D218 31 rfl rfl rfl
theorem d218_54 : decode (am_mc 218) 54 = .ok (.lmul, 1) := D218 32 rfl rfl rfl
theorem d218_55 : decode (am_mc 218) 55 = .ok (.ldiv, 1) := D218 33 rfl rfl rfl
theorem d218_56 : decode (am_mc 218) 56 = .ok (.l2i, 1) := D218 34 rfl rfl rfl
theorem d218_57 : decode (am_mc 218) 57 = .ok (.isub, 1) := D218 35 rfl rfl rfl
theorem d218_58 : decode (am_mc 218) 58 = .ok (.ireturn, 1) := D218 36 rfl rfl rfl
theorem ml218 : ∀ n, n < 7 → n < am_ml 218 := fun _ h => h
theorem mo218 : am_mo 218 = 11 := by decide +kernel
theorem mr218 : am_mr 218 = some .int := by decide +kernel
theorem rg218 : am_rcg 218 = 12 := by decide +kernel
theorem f11_337 : tb_f 11 337 = some (11, 42, 1, 0) := by decide +kernel
theorem f11_340 : tb_f 11 340 = some (11, 43, 1, 0) := by decide +kernel
def fn218 (o : Nat) (a : Int) (μ : am_M) : Option (Int × am_M) := (if w64 (2 * (w64 ((w64 ((μ o 43) - (μ o 42))) * 27720))) = 0 then none else some (w32 ((w32 ((μ o 6) - 9)) - (o_l2i (o_divl (w64 ((w64 (2 * (w64 ((w64 (a - (w64 ((μ o 42) * 27720)))) * (w32 ((μ o 6) - 10)))))) + (w64 ((w64 ((μ o 43) - (μ o 42))) * 27720)))) (w64 (2 * (w64 ((w64 ((μ o 43) - (μ o 42))) * 27720))))))), μ))
def sp218 : am_F := fun vs μ => am_aR 11 vs fun o vs => am_aJ vs fun a vs => am_a0 vs (fn218 o a μ)
theorem e218 (o : Nat) (a : Int) (μ : am_M) : sp218 [.inr (.inr (11, o)), .inr (.inl a)] μ = fn218 o a μ := by simp only [sp218, am_aR_c, am_aI_c, am_aJ_c, am_a0_c]
theorem sd218 : am_Sd 218 sp218 := by
  refine am_Sd_of (by decide) (fun vs μ μ' x h hv hM => ?_)
  obtain ⟨o, vs0, rfl, h0⟩ := am_aR_s h
  obtain ⟨a, vs1, rfl, h1⟩ := am_aJ_s h0
  obtain ⟨rfl, hz⟩ := am_a0_s h1
  refine ⟨Nat.le_of_ble_eq_true rfl, fun X C hG hr => ?_⟩
  have h := hz
  unfold fn218 at h
  exact (show am_W X C 218 _ 0 0 0 [(0, .inr (.inr (11, o))), (1, .inr (.inl a))] [] μ from (am_c_aload_n hG (pc := 0) d218_0 rfl (x_get_n (v := .inr (.inl (μ o 43))) hG (pc := 1) d218_1 mo218 f11_340 rfl (am_c_aload_n hG (pc := 4) d218_4 rfl (x_get_n (v := .inr (.inl (μ o 42))) hG (pc := 5) d218_5 mo218 f11_337 rfl (am_c_lsub hG (pc := 8) d218_8 (am_c_ldc2 hG (pc := 9) d218_9 (v := 27720) (by decide +kernel) (am_c_lmul hG (pc := 12) d218_12 (x_lstore_n (lv' := [(3, .inr (.inl (w64 ((w64 ((μ o 43) - (μ o 42))) * 27720)))), (0, .inr (.inr (11, o))), (1, .inr (.inl a))]) hG (pc := 13) d218_13 (ml218 _ (by decide)) rfl (am_c_lload_n hG (pc := 14) d218_14 rfl (am_c_aload_n hG (pc := 15) d218_15 rfl (x_get_n (v := .inr (.inl (μ o 42))) hG (pc := 16) d218_16 mo218 f11_337 rfl (am_c_ldc2 hG (pc := 19) d218_19 (v := 27720) (by decide +kernel) (am_c_lmul hG (pc := 22) d218_22 (am_c_lsub hG (pc := 23) d218_23 (am_c_aload_n hG (pc := 24) d218_24 rfl (x_get_n (v := .inl (μ o 6)) hG (pc := 25) d218_25 mo218 f11_20 rfl (am_c_bipush hG (pc := 28) d218_28 (by decide) (am_c_isub hG (pc := 30) d218_30 (am_c_i2l hG (pc := 31) d218_31 (am_c_lmul hG (pc := 32) d218_32 (x_lstore (lv' := [(5, .inr (.inl (w64 ((w64 (a - (w64 ((μ o 42) * 27720)))) * (w32 ((μ o 6) - 10)))))), (3, .inr (.inl (w64 ((w64 ((μ o 43) - (μ o 42))) * 27720)))), (0, .inr (.inr (11, o))), (1, .inr (.inl a))]) hG (pc := 33) d218_33 (ml218 _ (by decide)) rfl (am_c_aload_n hG (pc := 35) d218_35 rfl (x_get_n (v := .inl (μ o 6)) hG (pc := 36) d218_36 mo218 f11_20 rfl (am_c_bipush hG (pc := 39) d218_39 (by decide) (am_c_isub hG (pc := 41) d218_41 (am_c_ldc2 hG (pc := 42) d218_42 (v := 2) (by decide +kernel) (am_c_lload hG (pc := 45) d218_45 rfl (am_c_lmul hG (pc := 47) d218_47 (am_c_lload_n hG (pc := 48) d218_48 rfl (am_c_ladd hG (pc := 49) d218_49 (am_c_ldc2 hG (pc := 50) d218_50 (v := 2) (by decide +kernel) (am_c_lload_n hG (pc := 53) d218_53 rfl (am_c_lmul hG (pc := 54) d218_54 (x_ldiv hG (pc := 55) d218_55 h (fun h => (am_c_l2i hG (pc := 56) d218_56 (am_c_isub hG (pc := 57) d218_57 (x_iret hG (by decide) hr (pc := 58) d218_58 mr218 h)))))))))))))))))))))))))))))))))))))))
/-! ChartPressModel.inArea(II)V -/
theorem D222 (k : Nat) {pc : Nat} {i : Instr} (h : tbi222[k]? = some (pc, i)) (hs : am_isw i = false) {n : Nat} (hn : am_il i = n) : decode (am_mc 222) pc = .ok (i, n) := am_d2 (by decide) (by decide) rfl h hs hn
theorem d222_0 : decode (am_mc 222) 0 = .ok (.iload_n 1, 1) := D222 0 rfl rfl rfl
theorem d222_1 : decode (am_mc 222) 1 = .ok (.aload_n 0, 1) := D222 1 rfl rfl rfl
theorem d222_2 : decode (am_mc 222) 2 = .ok (.getfield 348, 3) := D222 2 rfl rfl rfl
theorem d222_5 : decode (am_mc 222) 5 = .ok (.if_icmp .lt 36, 3) := D222 3 rfl rfl rfl
theorem d222_8 : decode (am_mc 222) 8 = .ok (.iload_n 1, 1) := D222 4 rfl rfl rfl
theorem d222_9 : decode (am_mc 222) 9 = .ok (.aload_n 0, 1) := D222 5 rfl rfl rfl
theorem d222_10 : decode (am_mc 222) 10 = .ok (.getfield 16, 3) := D222 6 rfl rfl rfl
theorem d222_13 : decode (am_mc 222) 13 = .ok (.iconst 2, 1) := D222 7 rfl rfl rfl
theorem d222_14 : decode (am_mc 222) 14 = .ok (.isub, 1) := D222 8 rfl rfl rfl
theorem d222_15 : decode (am_mc 222) 15 = .ok (.if_icmp .gt 26, 3) := D222 9 rfl rfl rfl
theorem d222_18 : decode (am_mc 222) 18 = .ok (.iload_n 2, 1) := D222 10 rfl rfl rfl
theorem d222_19 : decode (am_mc 222) 19 = .ok (.iconst 1, 1) := D222 11 rfl rfl rfl
theorem d222_20 : decode (am_mc 222) 20 = .ok (.if_icmp .lt 21, 3) := D222 12 rfl rfl rfl
theorem d222_23 : decode (am_mc 222) 23 = .ok (.iload_n 2, 1) := D222 13 rfl rfl rfl
theorem d222_24 : decode (am_mc 222) 24 = .ok (.aload_n 0, 1) := D222 14 rfl rfl rfl
theorem d222_25 : decode (am_mc 222) 25 = .ok (.getfield 20, 3) := D222 15 rfl rfl rfl
theorem d222_28 : decode (am_mc 222) 28 = .ok (.bipush 9, 2) := D222 16 rfl rfl rfl
theorem d222_30 : decode (am_mc 222) 30 = .ok (.isub, 1) := D222 17 rfl rfl rfl
theorem d222_31 : decode (am_mc 222) 31 = .ok (.if_icmp .gt 10, 3) := D222 18 rfl rfl rfl
theorem d222_34 : decode (am_mc 222) 34 = .ok (.aload_n 0, 1) := D222 19 rfl rfl rfl
theorem d222_35 : decode (am_mc 222) 35 = .ok (.iload_n 1, 1) := D222 20 rfl rfl rfl
theorem d222_36 : decode (am_mc 222) 36 = .ok (.iload_n 2, 1) := D222 21 rfl rfl rfl
theorem d222_37 : decode (am_mc 222) 37 = .ok (.iconst 3, 1) := D222 22 rfl rfl rfl
theorem d222_38 : decode (am_mc 222) 38 = .ok (.invokevirtual 378, 3) := D222 23 rfl rfl rfl
theorem d222_41 : decode (am_mc 222) 41 = .ok (.return_, 1) := D222 24 rfl rfl rfl
theorem ml222 : ∀ n, n < 3 → n < am_ml 222 := fun _ h => h
theorem mo222 : am_mo 222 = 11 := by decide +kernel
theorem rk222 : am_rk 222 = 0 := by decide +kernel
theorem rg222 : am_rcg 222 = 12 := by decide +kernel
theorem m11_378 : tb_m 11 378 = some (217, 4, 0, 0) := by decide +kernel
theorem dp222_217 : am_md 217 + 1 ≤ am_md 222 ∧ 8 + (am_ml 217 + 11) + am_lr 217 ≤ am_lr 222 := by decide +kernel
def fn222 (o : Nat) (a : Int) (b : Int) (μ : am_M) : Option (Int × am_M) := (if a < μ o 45 then some (0, μ) else (if w32 ((μ o 5) - 2) < a then some (0, μ) else (if b < 1 then some (0, μ) else (if w32 ((μ o 6) - 9) < b then some (0, μ) else (am_op (fn217 o a b 3 μ) (fun z1 => some (0, z1.2)))))))
def sp222 : am_F := fun vs μ => am_aR 11 vs fun o vs => am_aI vs fun a vs => am_aI vs fun b vs => am_a0 vs (fn222 o a b μ)
theorem e222 (o : Nat) (a : Int) (b : Int) (μ : am_M) : sp222 [.inr (.inr (11, o)), .inl a, .inl b] μ = fn222 o a b μ := by simp only [sp222, am_aR_c, am_aI_c, am_aJ_c, am_a0_c]
theorem sd222 : am_Sd 222 sp222 := by
  refine am_Sd_of (by decide) (fun vs μ μ' x h hv hM => ?_)
  obtain ⟨o, vs0, rfl, h0⟩ := am_aR_s h
  obtain ⟨a, vs1, rfl, h1⟩ := am_aI_s h0
  obtain ⟨b, vs2, rfl, h2⟩ := am_aI_s h1
  obtain ⟨rfl, hz⟩ := am_a0_s h2
  refine ⟨Nat.le_of_ble_eq_true rfl, fun X C hG hr => ?_⟩
  have h := hz
  unfold fn222 at h
  exact (show am_W X C 222 _ 0 0 0 [(0, .inr (.inr (11, o))), (1, .inl a), (2, .inl b)] [] μ from (am_c_iload_n hG (pc := 0) d222_0 rfl (am_c_aload_n hG (pc := 1) d222_1 rfl (x_get_n (v := .inl (μ o 45)) hG (pc := 2) d222_2 mo222 f11_348 rfl (x_icmp_lt (tgt := 41) hG (pc := 5) d222_5 rfl h (fun h => (x_vret hG (by decide) hr (pc := 41) d222_41 rk222 h)) (fun h => (am_c_iload_n hG (pc := 8) d222_8 rfl (am_c_aload_n hG (pc := 9) d222_9 rfl (x_get_n (v := .inl (μ o 5)) hG (pc := 10) d222_10 mo222 f11_16 rfl (am_c_iconst hG (pc := 13) d222_13 (by decide) (am_c_isub hG (pc := 14) d222_14 (x_icmp_gt (tgt := 41) hG (pc := 15) d222_15 rfl h (fun h => (x_vret hG (by decide) hr (pc := 41) d222_41 rk222 h)) (fun h => (am_c_iload_n hG (pc := 18) d222_18 rfl (am_c_iconst hG (pc := 19) d222_19 (by decide) (x_icmp_lt (tgt := 41) hG (pc := 20) d222_20 rfl h (fun h => (x_vret hG (by decide) hr (pc := 41) d222_41 rk222 h)) (fun h => (am_c_iload_n hG (pc := 23) d222_23 rfl (am_c_aload_n hG (pc := 24) d222_24 rfl (x_get_n (v := .inl (μ o 6)) hG (pc := 25) d222_25 mo222 f11_20 rfl (am_c_bipush hG (pc := 28) d222_28 (by decide) (am_c_isub hG (pc := 30) d222_30 (x_icmp_gt (tgt := 41) hG (pc := 31) d222_31 rfl h (fun h => (x_vret hG (by decide) hr (pc := 41) d222_41 rk222 h)) (fun h => (am_c_aload_n hG (pc := 34) d222_34 rfl (am_c_iload_n hG (pc := 35) d222_35 rfl (am_c_iload_n hG (pc := 36) d222_36 rfl (am_c_iconst hG (pc := 37) d222_37 (by decide) (x_virtual_v (t := 11) (o := o) (as2 := [.inl a, .inl b, .inl 3]) (rest := []) hG (pc := 38) d222_38 mo222 m11_378 (by decide) dp222_217 rfl rfl (Nat.le_of_ble_eq_true rfl) (Nat.le_of_ble_eq_true rfl) rg217 sd217 (e217 _ _ _ _ _) h (fun z1 h => (x_vret hG (by decide) hr (pc := 41) d222_41 rk222 h)))))))))))))))))))))))))))))))
/-! ChartPressModel.pixel(II)I -/
theorem D228 (k : Nat) {pc : Nat} {i : Instr} (h : tbi228[k]? = some (pc, i)) (hs : am_isw i = false) {n : Nat} (hn : am_il i = n) : decode (am_mc 228) pc = .ok (i, n) := am_d2 (by decide) (by decide) rfl h hs hn
theorem d228_0 : decode (am_mc 228) 0 = .ok (.aload_n 0, 1) := D228 0 rfl rfl rfl
theorem d228_1 : decode (am_mc 228) 1 = .ok (.iconst 0, 1) := D228 1 rfl rfl rfl
theorem d228_2 : decode (am_mc 228) 2 = .ok (.putfield 83, 3) := D228 2 rfl rfl rfl
theorem d228_5 : decode (am_mc 228) 5 = .ok (.aload_n 0, 1) := D228 3 rfl rfl rfl
theorem d228_6 : decode (am_mc 228) 6 = .ok (.getfield 100, 3) := D228 4 rfl rfl rfl
theorem d228_9 : decode (am_mc 228) 9 = .ok (.ifCond .eq 41, 3) := D228 5 rfl rfl rfl
theorem d228_12 : decode (am_mc 228) 12 = .ok (.iload_n 1, 1) := D228 6 rfl rfl rfl
theorem d228_13 : decode (am_mc 228) 13 = .ok (.ifCond .lt 37, 3) := D228 7 rfl rfl rfl
theorem d228_16 : decode (am_mc 228) 16 = .ok (.iload_n 1, 1) := D228 8 rfl rfl rfl
theorem d228_17 : decode (am_mc 228) 17 = .ok (.aload_n 0, 1) := D228 9 rfl rfl rfl
theorem d228_18 : decode (am_mc 228) 18 = .ok (.getfield 16, 3) := D228 10 rfl rfl rfl
theorem d228_21 : decode (am_mc 228) 21 = .ok (.if_icmp .ge 29, 3) := D228 11 rfl rfl rfl
theorem d228_24 : decode (am_mc 228) 24 = .ok (.iload_n 2, 1) := D228 12 rfl rfl rfl
theorem d228_25 : decode (am_mc 228) 25 = .ok (.ifCond .lt 25, 3) := D228 13 rfl rfl rfl
theorem d228_28 : decode (am_mc 228) 28 = .ok (.iload_n 2, 1) := D228 14 rfl rfl rfl
theorem d228_29 : decode (am_mc 228) 29 = .ok (.aload_n 0, 1) := D228 15 rfl rfl rfl
theorem d228_30 : decode (am_mc 228) 30 = .ok (.getfield 20, 3) := D228 16 rfl rfl rfl
theorem d228_33 : decode (am_mc 228) 33 = .ok (.if_icmp .ge 17, 3) := D228 17 rfl rfl rfl
theorem d228_36 : decode (am_mc 228) 36 = .ok (.aload_n 0, 1) := D228 18 rfl rfl rfl
theorem d228_37 : decode (am_mc 228) 37 = .ok (.getfield 74, 3) := D228 19 rfl rfl rfl
theorem d228_40 : decode (am_mc 228) 40 = .ok (.bipush 96, 2) := D228 20 rfl rfl rfl
theorem d228_42 : decode (am_mc 228) 42 = .ok (.iload_n 2, 1) := D228 21 rfl rfl rfl
theorem d228_43 : decode (am_mc 228) 43 = .ok (.imul, 1) := D228 22 rfl rfl rfl
theorem d228_44 : decode (am_mc 228) 44 = .ok (.iload_n 1, 1) := D228 23 rfl rfl rfl
theorem d228_45 : decode (am_mc 228) 45 = .ok (.iadd, 1) := D228 24 rfl rfl rfl
theorem d228_46 : decode (am_mc 228) 46 = .ok (.iaload, 1) := D228 25 rfl rfl rfl
theorem d228_47 : decode (am_mc 228) 47 = .ok (.goto 4, 3) := D228 26 rfl rfl rfl
theorem d228_50 : decode (am_mc 228) 50 = .ok (.iconst (-1), 1) := D228 27 rfl rfl rfl
theorem d228_51 : decode (am_mc 228) 51 = .ok (.ireturn, 1) := D228 28 rfl rfl rfl
theorem ml228 : ∀ n, n < 3 → n < am_ml 228 := fun _ h => h
theorem mo228 : am_mo 228 = 11 := by decide +kernel
theorem mr228 : am_mr 228 = some .int := by decide +kernel
theorem rg228 : am_rcg 228 = 12 := by decide +kernel
def fn228 (o : Nat) (a : Int) (b : Int) (μ : am_M) : Option (Int × am_M) := (if (am_up μ o 0 0) o 49 = 0 then some ((-1), am_up μ o 0 0) else (if a < 0 then some ((-1), am_up μ o 0 0) else (if a < (am_up μ o 0 0) o 5 then (if b < 0 then some ((-1), am_up μ o 0 0) else (if b < (am_up μ o 0 0) o 6 then (if (0 : Int) ≤ w32 ((w32 (96 * b)) + a) ∧ w32 ((w32 (96 * b)) + a) < ((am_len (am_ref o 50) : Nat) : Int) then some ((am_up μ o 0 0) (am_ref o 50) (w32 ((w32 (96 * b)) + a) : Int).toNat, am_up μ o 0 0) else none) else some ((-1), am_up μ o 0 0))) else some ((-1), am_up μ o 0 0))))
def sp228 : am_F := fun vs μ => am_aR 11 vs fun o vs => am_aI vs fun a vs => am_aI vs fun b vs => am_a0 vs (fn228 o a b μ)
theorem e228 (o : Nat) (a : Int) (b : Int) (μ : am_M) : sp228 [.inr (.inr (11, o)), .inl a, .inl b] μ = fn228 o a b μ := by simp only [sp228, am_aR_c, am_aI_c, am_aJ_c, am_a0_c]
theorem sd228 : am_Sd 228 sp228 := by
  refine am_Sd_of (by decide) (fun vs μ μ' x h hv hM => ?_)
  obtain ⟨o, vs0, rfl, h0⟩ := am_aR_s h
  obtain ⟨a, vs1, rfl, h1⟩ := am_aI_s h0
  obtain ⟨b, vs2, rfl, h2⟩ := am_aI_s h1
  obtain ⟨rfl, hz⟩ := am_a0_s h2
  refine ⟨Nat.le_of_ble_eq_true rfl, fun X C hG hr => ?_⟩
  have h := hz
  unfold fn228 at h
  exact (show am_W X C 228 _ 0 0 0 [(0, .inr (.inr (11, o))), (1, .inl a), (2, .inl b)] [] μ from (am_c_aload_n hG (pc := 0) d228_0 rfl (am_c_iconst hG (pc := 1) d228_1 (by decide) (x_put_i hG (pc := 2) d228_2 mo228 f11_83 (by decide) (am_c_aload_n hG (pc := 5) d228_5 rfl (x_get_n (v := .inl ((am_up μ o 0 0) o 49)) hG (pc := 6) d228_6 mo228 f11_100 rfl (x_if_eq (tgt := 50) hG (pc := 9) d228_9 rfl h (fun h => (am_c_iconst hG (pc := 50) d228_50 (by decide) (x_iret hG (by decide) hr (pc := 51) d228_51 mr228 h))) (fun h => (am_c_iload_n hG (pc := 12) d228_12 rfl (x_if_lt (tgt := 50) hG (pc := 13) d228_13 rfl h (fun h => (am_c_iconst hG (pc := 50) d228_50 (by decide) (x_iret hG (by decide) hr (pc := 51) d228_51 mr228 h))) (fun h => (am_c_iload_n hG (pc := 16) d228_16 rfl (am_c_aload_n hG (pc := 17) d228_17 rfl (x_get_n (v := .inl ((am_up μ o 0 0) o 5)) hG (pc := 18) d228_18 mo228 f11_16 rfl (x_icmp_ge (tgt := 50) hG (pc := 21) d228_21 rfl h (fun h => (am_c_iconst hG (pc := 50) d228_50 (by decide) (x_iret hG (by decide) hr (pc := 51) d228_51 mr228 h))) (fun h => (am_c_iload_n hG (pc := 24) d228_24 rfl (x_if_lt (tgt := 50) hG (pc := 25) d228_25 rfl h (fun h => (am_c_iconst hG (pc := 50) d228_50 (by decide) (x_iret hG (by decide) hr (pc := 51) d228_51 mr228 h))) (fun h => (am_c_iload_n hG (pc := 28) d228_28 rfl (am_c_aload_n hG (pc := 29) d228_29 rfl (x_get_n (v := .inl ((am_up μ o 0 0) o 6)) hG (pc := 30) d228_30 mo228 f11_20 rfl (x_icmp_ge (tgt := 50) hG (pc := 33) d228_33 rfl h (fun h => (am_c_iconst hG (pc := 50) d228_50 (by decide) (x_iret hG (by decide) hr (pc := 51) d228_51 mr228 h))) (fun h => (am_c_aload_n hG (pc := 36) d228_36 rfl (x_get_n (v := .inr (.inr (16, am_ref o 50))) hG (pc := 37) d228_37 mo228 f11_74 rfl (am_c_bipush hG (pc := 40) d228_40 (by decide) (am_c_iload_n hG (pc := 42) d228_42 rfl (am_c_imul hG (pc := 43) d228_43 (am_c_iload_n hG (pc := 44) d228_44 rfl (am_c_iadd hG (pc := 45) d228_45 (x_iaload hG (pc := 46) d228_46 h (fun h => (x_goto (tgt := 51) hG (pc := 47) d228_47 rfl (x_iret hG (by decide) hr (pc := 51) d228_51 mr228 h)))))))))))))))))))))))))))))))))))
/-! ChartPressModel.figure(I)J -/
theorem D229 (k : Nat) {pc : Nat} {i : Instr} (h : tbi229[k]? = some (pc, i)) (hs : am_isw i = false) {n : Nat} (hn : am_il i = n) : decode (am_mc 229) pc = .ok (i, n) := am_d2 (by decide) (by decide) rfl h hs hn
theorem d229_0 : decode (am_mc 229) 0 = .ok (.aload_n 0, 1) := D229 0 rfl rfl rfl
theorem d229_1 : decode (am_mc 229) 1 = .ok (.iconst 0, 1) := D229 1 rfl rfl rfl
theorem d229_2 : decode (am_mc 229) 2 = .ok (.putfield 83, 3) := D229 2 rfl rfl rfl
theorem d229_5 : decode (am_mc 229) 5 = .ok (.aload_n 0, 1) := D229 3 rfl rfl rfl
theorem d229_6 : decode (am_mc 229) 6 = .ok (.getfield 100, 3) := D229 4 rfl rfl rfl
theorem d229_9 : decode (am_mc 229) 9 = .ok (.ifCond .eq 22, 3) := D229 5 rfl rfl rfl
theorem d229_12 : decode (am_mc 229) 12 = .ok (.iload_n 1, 1) := D229 6 rfl rfl rfl
theorem d229_13 : decode (am_mc 229) 13 = .ok (.ifCond .lt 18, 3) := D229 7 rfl rfl rfl
theorem d229_16 : decode (am_mc 229) 16 = .ok (.iload_n 1, 1) := D229 8 rfl rfl rfl
theorem d229_17 : decode (am_mc 229) 17 = .ok (.bipush 6, 2) := D229 9 rfl rfl rfl
theorem d229_19 : decode (am_mc 229) 19 = .ok (.if_icmp .gt 12, 3) := D229 10 rfl rfl rfl
theorem d229_22 : decode (am_mc 229) 22 = .ok (.aload_n 0, 1) := D229 11 rfl rfl rfl
theorem d229_23 : decode (am_mc 229) 23 = .ok (.getfield 77, 3) := D229 12 rfl rfl rfl
theorem d229_26 : decode (am_mc 229) 26 = .ok (.iload_n 1, 1) := D229 13 rfl rfl rfl
theorem d229_27 : decode (am_mc 229) 27 = .ok (.laload, 1) := D229 14 rfl rfl rfl
theorem d229_28 : decode (am_mc 229) 28 = .ok (.goto 6, 3) := D229 15 rfl rfl rfl
theorem d229_31 : decode (am_mc 229) 31 = .ok (.ldc2_w 439, 3) := D229 16 rfl rfl rfl
theorem d229_34 : decode (am_mc 229) 34 = .ok (.lreturn, 1) := D229 17 rfl rfl rfl
theorem ml229 : ∀ n, n < 2 → n < am_ml 229 := fun _ h => h
theorem mo229 : am_mo 229 = 11 := by decide +kernel
theorem rk229 : am_rk 229 = 2 := by decide +kernel
theorem rg229 : am_rcg 229 = 12 := by decide +kernel
theorem f11_77 : tb_f 11 77 = some (11, 51, 5, 17) := by decide +kernel
def fn229 (o : Nat) (a : Int) (μ : am_M) : Option (Int × am_M) := (if (am_up μ o 0 0) o 49 = 0 then some ((-1), am_up μ o 0 0) else (if a < 0 then some ((-1), am_up μ o 0 0) else (if 6 < a then some ((-1), am_up μ o 0 0) else (if (0 : Int) ≤ a ∧ a < ((am_len (am_ref o 51) : Nat) : Int) then some ((am_up μ o 0 0) (am_ref o 51) (a : Int).toNat, am_up μ o 0 0) else none))))
def sp229 : am_F := fun vs μ => am_aR 11 vs fun o vs => am_aI vs fun a vs => am_a0 vs (fn229 o a μ)
theorem e229 (o : Nat) (a : Int) (μ : am_M) : sp229 [.inr (.inr (11, o)), .inl a] μ = fn229 o a μ := by simp only [sp229, am_aR_c, am_aI_c, am_aJ_c, am_a0_c]
theorem sd229 : am_Sd 229 sp229 := by
  refine am_Sd_of (by decide) (fun vs μ μ' x h hv hM => ?_)
  obtain ⟨o, vs0, rfl, h0⟩ := am_aR_s h
  obtain ⟨a, vs1, rfl, h1⟩ := am_aI_s h0
  obtain ⟨rfl, hz⟩ := am_a0_s h1
  refine ⟨Nat.le_of_ble_eq_true rfl, fun X C hG hr => ?_⟩
  have h := hz
  unfold fn229 at h
  exact (show am_W X C 229 _ 0 0 0 [(0, .inr (.inr (11, o))), (1, .inl a)] [] μ from (am_c_aload_n hG (pc := 0) d229_0 rfl (am_c_iconst hG (pc := 1) d229_1 (by decide) (x_put_i hG (pc := 2) d229_2 mo229 f11_83 (by decide) (am_c_aload_n hG (pc := 5) d229_5 rfl (x_get_n (v := .inl ((am_up μ o 0 0) o 49)) hG (pc := 6) d229_6 mo229 f11_100 rfl (x_if_eq (tgt := 31) hG (pc := 9) d229_9 rfl h (fun h => (am_c_ldc2 hG (pc := 31) d229_31 (v := (-1)) (by decide +kernel) (x_lret hG (by decide) hr (pc := 34) d229_34 rk229 h))) (fun h => (am_c_iload_n hG (pc := 12) d229_12 rfl (x_if_lt (tgt := 31) hG (pc := 13) d229_13 rfl h (fun h => (am_c_ldc2 hG (pc := 31) d229_31 (v := (-1)) (by decide +kernel) (x_lret hG (by decide) hr (pc := 34) d229_34 rk229 h))) (fun h => (am_c_iload_n hG (pc := 16) d229_16 rfl (am_c_bipush hG (pc := 17) d229_17 (by decide) (x_icmp_gt (tgt := 31) hG (pc := 19) d229_19 rfl h (fun h => (am_c_ldc2 hG (pc := 31) d229_31 (v := (-1)) (by decide +kernel) (x_lret hG (by decide) hr (pc := 34) d229_34 rk229 h))) (fun h => (am_c_aload_n hG (pc := 22) d229_22 rfl (x_get_n (v := .inr (.inr (17, am_ref o 51))) hG (pc := 23) d229_23 mo229 f11_77 rfl (am_c_iload_n hG (pc := 26) d229_26 rfl (x_laload hG (pc := 27) d229_27 h (fun h => (x_goto (tgt := 34) hG (pc := 28) d229_28 rfl (x_lret hG (by decide) hr (pc := 34) d229_34 rk229 h))))))))))))))))))))))
/-! ChartPressModel.value(I)J -/
theorem D231 (k : Nat) {pc : Nat} {i : Instr} (h : tbi231[k]? = some (pc, i)) (hs : am_isw i = false) {n : Nat} (hn : am_il i = n) : decode (am_mc 231) pc = .ok (i, n) := am_d2 (by decide) (by decide) rfl h hs hn
theorem d231_0 : decode (am_mc 231) 0 = .ok (.aload_n 0, 1) := D231 0 rfl rfl rfl
theorem d231_1 : decode (am_mc 231) 1 = .ok (.iconst 0, 1) := D231 1 rfl rfl rfl
theorem d231_2 : decode (am_mc 231) 2 = .ok (.putfield 83, 3) := D231 2 rfl rfl rfl
theorem d231_5 : decode (am_mc 231) 5 = .ok (.aload_n 0, 1) := D231 3 rfl rfl rfl
theorem d231_6 : decode (am_mc 231) 6 = .ok (.getfield 100, 3) := D231 4 rfl rfl rfl
theorem d231_9 : decode (am_mc 231) 9 = .ok (.ifCond .eq 24, 3) := D231 5 rfl rfl rfl
theorem d231_12 : decode (am_mc 231) 12 = .ok (.iload_n 1, 1) := D231 6 rfl rfl rfl
theorem d231_13 : decode (am_mc 231) 13 = .ok (.ifCond .lt 20, 3) := D231 7 rfl rfl rfl
theorem d231_16 : decode (am_mc 231) 16 = .ok (.iload_n 1, 1) := D231 8 rfl rfl rfl
theorem d231_17 : decode (am_mc 231) 17 = .ok (.aload_n 0, 1) := D231 9 rfl rfl rfl
theorem d231_18 : decode (am_mc 231) 18 = .ok (.getfield 436, 3) := D231 10 rfl rfl rfl
theorem d231_21 : decode (am_mc 231) 21 = .ok (.if_icmp .ge 12, 3) := D231 11 rfl rfl rfl
theorem d231_24 : decode (am_mc 231) 24 = .ok (.aload_n 0, 1) := D231 12 rfl rfl rfl
theorem d231_25 : decode (am_mc 231) 25 = .ok (.getfield 80, 3) := D231 13 rfl rfl rfl
theorem d231_28 : decode (am_mc 231) 28 = .ok (.iload_n 1, 1) := D231 14 rfl rfl rfl
theorem d231_29 : decode (am_mc 231) 29 = .ok (.laload, 1) := D231 15 rfl rfl rfl
theorem d231_30 : decode (am_mc 231) 30 = .ok (.goto 4, 3) := D231 16 rfl rfl rfl
theorem d231_33 : decode (am_mc 231) 33 = .ok (.lconst 0, 1) := D231 17 rfl rfl rfl
theorem d231_34 : decode (am_mc 231) 34 = .ok (.lreturn, 1) := D231 18 rfl rfl rfl
theorem ml231 : ∀ n, n < 2 → n < am_ml 231 := fun _ h => h
theorem mo231 : am_mo 231 = 11 := by decide +kernel
theorem rk231 : am_rk 231 = 2 := by decide +kernel
theorem rg231 : am_rcg 231 = 12 := by decide +kernel
theorem f11_80 : tb_f 11 80 = some (11, 53, 5, 17) := by decide +kernel
theorem f11_436 : tb_f 11 436 = some (11, 52, 0, 0) := by decide +kernel
def fn231 (o : Nat) (a : Int) (μ : am_M) : Option (Int × am_M) := (if (am_up μ o 0 0) o 49 = 0 then some (0, am_up μ o 0 0) else (if a < 0 then some (0, am_up μ o 0 0) else (if a < (am_up μ o 0 0) o 52 then (if (0 : Int) ≤ a ∧ a < ((am_len (am_ref o 53) : Nat) : Int) then some ((am_up μ o 0 0) (am_ref o 53) (a : Int).toNat, am_up μ o 0 0) else none) else some (0, am_up μ o 0 0))))
def sp231 : am_F := fun vs μ => am_aR 11 vs fun o vs => am_aI vs fun a vs => am_a0 vs (fn231 o a μ)
theorem e231 (o : Nat) (a : Int) (μ : am_M) : sp231 [.inr (.inr (11, o)), .inl a] μ = fn231 o a μ := by simp only [sp231, am_aR_c, am_aI_c, am_aJ_c, am_a0_c]
theorem sd231 : am_Sd 231 sp231 := by
  refine am_Sd_of (by decide) (fun vs μ μ' x h hv hM => ?_)
  obtain ⟨o, vs0, rfl, h0⟩ := am_aR_s h
  obtain ⟨a, vs1, rfl, h1⟩ := am_aI_s h0
  obtain ⟨rfl, hz⟩ := am_a0_s h1
  refine ⟨Nat.le_of_ble_eq_true rfl, fun X C hG hr => ?_⟩
  have h := hz
  unfold fn231 at h
  exact (show am_W X C 231 _ 0 0 0 [(0, .inr (.inr (11, o))), (1, .inl a)] [] μ from (am_c_aload_n hG (pc := 0) d231_0 rfl (am_c_iconst hG (pc := 1) d231_1 (by decide) (x_put_i hG (pc := 2) d231_2 mo231 f11_83 (by decide) (am_c_aload_n hG (pc := 5) d231_5 rfl (x_get_n (v := .inl ((am_up μ o 0 0) o 49)) hG (pc := 6) d231_6 mo231 f11_100 rfl (x_if_eq (tgt := 33) hG (pc := 9) d231_9 rfl h (fun h => (am_c_lconst hG (pc := 33) d231_33 (x_lret hG (by decide) hr (pc := 34) d231_34 rk231 h))) (fun h => (am_c_iload_n hG (pc := 12) d231_12 rfl (x_if_lt (tgt := 33) hG (pc := 13) d231_13 rfl h (fun h => (am_c_lconst hG (pc := 33) d231_33 (x_lret hG (by decide) hr (pc := 34) d231_34 rk231 h))) (fun h => (am_c_iload_n hG (pc := 16) d231_16 rfl (am_c_aload_n hG (pc := 17) d231_17 rfl (x_get_n (v := .inl ((am_up μ o 0 0) o 52)) hG (pc := 18) d231_18 mo231 f11_436 rfl (x_icmp_ge (tgt := 33) hG (pc := 21) d231_21 rfl h (fun h => (am_c_lconst hG (pc := 33) d231_33 (x_lret hG (by decide) hr (pc := 34) d231_34 rk231 h))) (fun h => (am_c_aload_n hG (pc := 24) d231_24 rfl (x_get_n (v := .inr (.inr (17, am_ref o 53))) hG (pc := 25) d231_25 mo231 f11_80 rfl (am_c_iload_n hG (pc := 28) d231_28 rfl (x_laload hG (pc := 29) d231_29 h (fun h => (x_goto (tgt := 34) hG (pc := 30) d231_30 rfl (x_lret hG (by decide) hr (pc := 34) d231_34 rk231 h)))))))))))))))))))))))
