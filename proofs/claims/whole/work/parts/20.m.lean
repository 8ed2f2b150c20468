/-! Methods as functions with their contracts (written by program). -/
/-! ChartPress$Script.byteAt(JI)I -/
theorem D0 (k : Nat) {pc : Nat} {i : Instr} (h : tbi0[k]? = some (pc, i)) (hs : am_isw i = false) {n : Nat} (hn : am_il i = n) : decode (am_mc 0) pc = .ok (i, n) := am_d2 (by decide) (by decide) rfl h hs hn
theorem d0_0 : decode (am_mc 0) 0 = .ok (.lload_n 0, 1) := D0 0 rfl rfl rfl
theorem d0_1 : decode (am_mc 0) 1 = .ok (.iload_n 2, 1) := D0 1 rfl rfl rfl
theorem d0_2 : decode (am_mc 0) 2 = .ok (.lushr, 1) := D0 2 rfl rfl rfl
theorem d0_3 : decode (am_mc 0) 3 = .ok (.l2i, 1) := D0 3 rfl rfl rfl
theorem d0_4 : decode (am_mc 0) 4 = .ok (.sipush 255, 3) := D0 4 rfl rfl rfl
theorem d0_7 : decode (am_mc 0) 7 = .ok (.iand, 1) := D0 5 rfl rfl rfl
theorem d0_8 : decode (am_mc 0) 8 = .ok (.ireturn, 1) := D0 6 rfl rfl rfl
theorem ml0 : ∀ n, n < 3 → n < am_ml 0 := fun _ h => h
theorem mo0 : am_mo 0 = 1 := by decide +kernel
theorem mr0 : am_mr 0 = some .int := by decide +kernel
theorem rg0 : am_rcg 0 = 0 := by decide +kernel
def fn0 (a : Int) (b : Int) (μ : am_M) : Option (Int × am_M) := some (o_and (o_l2i (o_ushrl a b)) 255, μ)
def sp0 : am_F := fun vs μ => am_aJ vs fun a vs => am_aI vs fun b vs => am_a0 vs (fn0 a b μ)
theorem e0 (a : Int) (b : Int) (μ : am_M) : sp0 [.inr (.inl a), .inl b] μ = fn0 a b μ := am_aJ_c.trans (am_aI_c.trans am_a0_c)
theorem sd0 : am_Sd 0 sp0 := by
  refine am_Sd_of (by decide) (fun vs μ μ' x h hv hM => ?_)
  obtain ⟨a, vs0, rfl, h0⟩ := am_aJ_s h
  obtain ⟨b, vs1, rfl, h1⟩ := am_aI_s h0
  obtain ⟨rfl, hz⟩ := am_a0_s h1
  refine ⟨Nat.le_of_ble_eq_true rfl, fun X C hG hr => ?_⟩
  have h := hz
  unfold fn0 at h
  exact (show am_W X C 0 _ 0 0 0 [(0, .inr (.inl a)), (2, .inl b)] [] μ from (am_c_lload_n hG (pc := 0) d0_0 rfl (am_c_iload_n hG (pc := 1) d0_1 rfl (am_c_lushr hG (pc := 2) d0_2 (am_c_l2i hG (pc := 3) d0_3 (am_c_sipush hG (pc := 4) d0_4 (by decide) (am_c_iand hG (pc := 7) d0_7 (xq_iret hG (by decide) hr (pc := 8) d0_8 mr0 (am_q0 h)))))))))
/-! ChartPress$Script.allows(I)Z -/
theorem D1 (k : Nat) {pc : Nat} {i : Instr} (h : tbi1[k]? = some (pc, i)) (hs : am_isw i = false) {n : Nat} (hn : am_il i = n) : decode (am_mc 1) pc = .ok (i, n) := am_d2 (by decide) (by decide) rfl h hs hn
theorem d1_0 : decode (am_mc 1) 0 = .ok (.iload_n 1, 1) := D1 0 rfl rfl rfl
theorem d1_1 : decode (am_mc 1) 1 = .ok (.bipush 32, 2) := D1 1 rfl rfl rfl
theorem d1_3 : decode (am_mc 1) 3 = .ok (.if_icmp .lt 9, 3) := D1 2 rfl rfl rfl
theorem d1_6 : decode (am_mc 1) 6 = .ok (.iload_n 1, 1) := D1 3 rfl rfl rfl
theorem d1_7 : decode (am_mc 1) 7 = .ok (.bipush 126, 2) := D1 4 rfl rfl rfl
theorem d1_9 : decode (am_mc 1) 9 = .ok (.if_icmp .le 22, 3) := D1 5 rfl rfl rfl
theorem d1_12 : decode (am_mc 1) 12 = .ok (.aload_n 0, 1) := D1 6 rfl rfl rfl
theorem d1_13 : decode (am_mc 1) 13 = .ok (.getfield 13, 3) := D1 7 rfl rfl rfl
theorem d1_16 : decode (am_mc 1) 16 = .ok (.ifCond .eq 19, 3) := D1 8 rfl rfl rfl
theorem d1_19 : decode (am_mc 1) 19 = .ok (.iload_n 1, 1) := D1 9 rfl rfl rfl
theorem d1_20 : decode (am_mc 1) 20 = .ok (.bipush 10, 2) := D1 10 rfl rfl rfl
theorem d1_22 : decode (am_mc 1) 22 = .ok (.if_icmp .eq 9, 3) := D1 11 rfl rfl rfl
theorem d1_25 : decode (am_mc 1) 25 = .ok (.iload_n 1, 1) := D1 12 rfl rfl rfl
theorem d1_26 : decode (am_mc 1) 26 = .ok (.bipush 13, 2) := D1 13 rfl rfl rfl
theorem d1_28 : decode (am_mc 1) 28 = .ok (.if_icmp .ne 7, 3) := D1 14 rfl rfl rfl
theorem d1_31 : decode (am_mc 1) 31 = .ok (.iconst 1, 1) := D1 15 rfl rfl rfl
theorem d1_32 : decode (am_mc 1) 32 = .ok (.goto 4, 3) := D1 16 rfl rfl rfl
theorem d1_35 : decode (am_mc 1) 35 = .ok (.iconst 0, 1) := D1 17 rfl rfl rfl
theorem d1_36 : decode (am_mc 1) 36 = .ok (.ireturn, 1) := D1 18 rfl rfl rfl
theorem ml1 : ∀ n, n < 2 → n < am_ml 1 := fun _ h => h
theorem mo1 : am_mo 1 = 1 := by decide +kernel
theorem mr1 : am_mr 1 = some .boolean := by decide +kernel
theorem rg1 : am_rcg 1 = 2 := by decide +kernel
theorem f1_13 : tb_f 1 13 = some (1, 1, 2, 0) := by decide +kernel
def fn1 (o : Nat) (a : Int) (μ : am_M) : Option (Int × am_M) := (if a < 32 then (if μ o 1 = 0 then some (0, μ) else (if a = 10 then some (1, μ) else (if a = 13 then some (1, μ) else some (0, μ)))) else (if 126 < a then (if μ o 1 = 0 then some (0, μ) else (if a = 10 then some (1, μ) else (if a = 13 then some (1, μ) else some (0, μ)))) else some (1, μ)))
def sp1 : am_F := fun vs μ => am_aR 1 vs fun o vs => am_aI vs fun a vs => am_a0 vs (fn1 o a μ)
theorem e1 (o : Nat) (a : Int) (μ : am_M) : sp1 [.inr (.inr (1, o)), .inl a] μ = fn1 o a μ := am_aR_c.trans (am_aI_c.trans am_a0_c)
theorem sd1 : am_Sd 1 sp1 := by
  refine am_Sd_of (by decide) (fun vs μ μ' x h hv hM => ?_)
  obtain ⟨o, vs0, rfl, h0⟩ := am_aR_s h
  obtain ⟨a, vs1, rfl, h1⟩ := am_aI_s h0
  obtain ⟨rfl, hz⟩ := am_a0_s h1
  refine ⟨Nat.le_of_ble_eq_true rfl, fun X C hG hr => ?_⟩
  have h := hz
  unfold fn1 at h
  exact (show am_W X C 1 _ 0 0 0 [(0, .inr (.inr (1, o))), (1, .inl a)] [] μ from (am_c_iload_n hG (pc := 0) d1_0 rfl (am_c_bipush hG (pc := 1) d1_1 (by decide) (x_icmp_lt (tgt := 12) hG (pc := 3) d1_3 rfl h (fun h => (am_c_aload_n hG (pc := 12) d1_12 rfl (x_get_n (v := .inl (μ o 1)) hG (pc := 13) d1_13 mo1 f1_13 rfl (x_if_eq (tgt := 35) hG (pc := 16) d1_16 rfl h (fun h => (am_c_iconst hG (pc := 35) d1_35 (by decide) (xq_zret0 hG (by decide) hr (pc := 36) d1_36 mr1 (am_q0 h)))) (fun h => (am_c_iload_n hG (pc := 19) d1_19 rfl (am_c_bipush hG (pc := 20) d1_20 (by decide) (x_icmp_eq (tgt := 31) hG (pc := 22) d1_22 rfl h (fun h => (am_c_iconst hG (pc := 31) d1_31 (by decide) (x_goto (tgt := 36) hG (pc := 32) d1_32 rfl (xq_zret1 hG (by decide) hr (pc := 36) d1_36 mr1 (am_q0 h))))) (fun h => (am_c_iload_n hG (pc := 25) d1_25 rfl (am_c_bipush hG (pc := 26) d1_26 (by decide) (x_icmp_ne (tgt := 35) hG (pc := 28) d1_28 rfl h (fun h => (am_c_iconst hG (pc := 35) d1_35 (by decide) (xq_zret0 hG (by decide) hr (pc := 36) d1_36 mr1 (am_q0 h)))) (fun h => (am_c_iconst hG (pc := 31) d1_31 (by decide) (x_goto (tgt := 36) hG (pc := 32) d1_32 rfl (xq_zret1 hG (by decide) hr (pc := 36) d1_36 mr1 (am_q0 h))))))))))))))))) (fun h => (am_c_iload_n hG (pc := 6) d1_6 rfl (am_c_bipush hG (pc := 7) d1_7 (by decide) (x_icmp_le (tgt := 31) hG (pc := 9) d1_9 rfl h (fun h => (am_c_iconst hG (pc := 31) d1_31 (by decide) (x_goto (tgt := 36) hG (pc := 32) d1_32 rfl (xq_zret1 hG (by decide) hr (pc := 36) d1_36 mr1 (am_q0 h))))) (fun h => (am_c_aload_n hG (pc := 12) d1_12 rfl (x_get_n (v := .inl (μ o 1)) hG (pc := 13) d1_13 mo1 f1_13 rfl (x_if_eq (tgt := 35) hG (pc := 16) d1_16 rfl h (fun h => (am_c_iconst hG (pc := 35) d1_35 (by decide) (xq_zret0 hG (by decide) hr (pc := 36) d1_36 mr1 (am_q0 h)))) (fun h => (am_c_iload_n hG (pc := 19) d1_19 rfl (am_c_bipush hG (pc := 20) d1_20 (by decide) (x_icmp_eq (tgt := 31) hG (pc := 22) d1_22 rfl h (fun h => (am_c_iconst hG (pc := 31) d1_31 (by decide) (x_goto (tgt := 36) hG (pc := 32) d1_32 rfl (xq_zret1 hG (by decide) hr (pc := 36) d1_36 mr1 (am_q0 h))))) (fun h => (am_c_iload_n hG (pc := 25) d1_25 rfl (am_c_bipush hG (pc := 26) d1_26 (by decide) (x_icmp_ne (tgt := 35) hG (pc := 28) d1_28 rfl h (fun h => (am_c_iconst hG (pc := 35) d1_35 (by decide) (xq_zret0 hG (by decide) hr (pc := 36) d1_36 mr1 (am_q0 h)))) (fun h => (am_c_iconst hG (pc := 31) d1_31 (by decide) (x_goto (tgt := 36) hG (pc := 32) d1_32 rfl (xq_zret1 hG (by decide) hr (pc := 36) d1_36 mr1 (am_q0 h)))))))))))))))))))))))))
/-! ChartPress$Script.append(J)Z -/
theorem D2 (k : Nat) {pc : Nat} {i : Instr} (h : tbi2[k]? = some (pc, i)) (hs : am_isw i = false) {n : Nat} (hn : am_il i = n) : decode (am_mc 2) pc = .ok (i, n) := am_d2 (by decide) (by decide) rfl h hs hn
theorem d2_0 : decode (am_mc 2) 0 = .ok (.iconst 0, 1) := D2 0 rfl rfl rfl
theorem d2_1 : decode (am_mc 2) 1 = .ok (.istore_n 3, 1) := D2 1 rfl rfl rfl
theorem d2_2 : decode (am_mc 2) 2 = .ok (.bipush 56, 2) := D2 2 rfl rfl rfl
theorem d2_4 : decode (am_mc 2) 4 = .ok (.istore 4, 2) := D2 3 rfl rfl rfl
theorem d2_6 : decode (am_mc 2) 6 = .ok (.iload 4, 2) := D2 4 rfl rfl rfl
theorem d2_8 : decode (am_mc 2) 8 = .ok (.ifCond .lt 36, 3) := D2 5 rfl rfl rfl
theorem d2_11 : decode (am_mc 2) 11 = .ok (.lload_n 1, 1) := D2 6 rfl rfl rfl
theorem d2_12 : decode (am_mc 2) 12 = .ok (.iload 4, 2) := D2 7 rfl rfl rfl
theorem d2_14 : decode (am_mc 2) 14 = .ok (.invokestatic 21, 3) := D2 8 rfl rfl rfl
theorem d2_17 : decode (am_mc 2) 17 = .ok (.istore 5, 2) := D2 9 rfl rfl rfl
theorem d2_19 : decode (am_mc 2) 19 = .ok (.iload 5, 2) := D2 10 rfl rfl rfl
theorem d2_21 : decode (am_mc 2) 21 = .ok (.ifCond .eq 17, 3) := D2 11 rfl rfl rfl
theorem d2_24 : decode (am_mc 2) 24 = .ok (.aload_n 0, 1) := D2 12 rfl rfl rfl
theorem d2_25 : decode (am_mc 2) 25 = .ok (.iload 5, 2) := D2 13 rfl rfl rfl
theorem d2_27 : decode (am_mc 2) 27 = .ok (.invokevirtual 25, 3) := D2 14 rfl rfl rfl
theorem d2_30 : decode (am_mc 2) 30 = .ok (.ifCond .ne 5, 3) := D2 15 rfl rfl rfl
theorem d2_33 : decode (am_mc 2) 33 = .ok (.iconst 0, 1) := D2 16 rfl rfl rfl
theorem d2_34 : decode (am_mc 2) 34 = .ok (.ireturn, 1) := D2 17 rfl rfl rfl
theorem d2_35 : decode (am_mc 2) 35 = .ok (.iinc 3 1, 3) := D2 18 rfl rfl rfl
theorem d2_38 : decode (am_mc 2) 38 = .ok (.iinc 4 (-8), 3) := D2 19 rfl rfl rfl
theorem d2_41 : decode (am_mc 2) 41 = .ok (.goto (-35), 3) := D2 20 rfl rfl rfl
theorem d2_44 : decode (am_mc 2) 44 = .ok (.aload_n 0, 1) := D2 21 rfl rfl rfl
theorem d2_45 : decode (am_mc 2) 45 = .ok (.getfield 17, 3) := D2 22 rfl rfl rfl
theorem d2_48 : decode (am_mc 2) 48 = .ok (.iload_n 3, 1) := D2 23 rfl rfl rfl
theorem d2_49 : decode (am_mc 2) 49 = .ok (.iadd, 1) := D2 24 rfl rfl rfl
theorem d2_50 : decode (am_mc 2) 50 = .ok (.aload_n 0, 1) := D2 25 rfl rfl rfl
theorem d2_51 : decode (am_mc 2) 51 = .ok (.getfield 7, 3) := D2 26 rfl rfl rfl
theorem d2_54 : decode (am_mc 2) 54 = .ok (.arraylength, 1) := D2 27 rfl rfl rfl
theorem d2_55 : decode (am_mc 2) 55 = .ok (.if_icmp .le 5, 3) := D2 28 rfl rfl rfl
theorem d2_58 : decode (am_mc 2) 58 = .ok (.iconst 0, 1) := D2 29 rfl rfl rfl
theorem d2_59 : decode (am_mc 2) 59 = .ok (.ireturn, 1) := D2 30 rfl rfl rfl
theorem d2_60 : decode (am_mc 2) 60 = .ok (.bipush 56, 2) := D2 31 rfl rfl rfl
theorem d2_62 : decode (am_mc 2) 62 = .ok (.istore 4, 2) := D2 32 rfl rfl rfl
theorem d2_64 : decode (am_mc 2) 64 = .ok (.iload 4, 2) := D2 33 rfl rfl rfl
theorem d2_66 : decode (am_mc 2) 66 = .ok (.ifCond .lt 56, 3) := D2 34 rfl rfl rfl
theorem d2_69 : decode (am_mc 2) 69 = .ok (.lload_n 1, 1) := D2 35 rfl rfl rfl
theorem d2_70 : decode (am_mc 2) 70 = .ok (.iload 4, 2) := D2 36 rfl rfl rfl
theorem d2_72 : decode (am_mc 2) 72 = .ok (.invokestatic 21, 3) := D2 37 rfl rfl rfl
theorem d2_75 : decode (am_mc 2) 75 = .ok (.istore 5, 2) := D2 38 rfl rfl rfl
theorem d2_77 : decode (am_mc 2) 77 = .ok (.iload 5, 2) := D2 39 rfl rfl rfl
theorem d2_79 : decode (am_mc 2) 79 = .ok (.ifCond .eq 37, 3) := D2 40 rfl rfl rfl
theorem d2_82 : decode (am_mc 2) 82 = .ok (.aload_n 0, 1) := D2 41 rfl rfl rfl
theorem d2_83 : decode (am_mc 2) 83 = .ok (.getfield 17, 3) := D2 42 rfl rfl rfl
theorem d2_86 : decode (am_mc 2) 86 = .ok (.aload_n 0, 1) := D2 43 rfl rfl rfl
theorem d2_87 : decode (am_mc 2) 87 = .ok (.getfield 7, 3) := D2 44 rfl rfl rfl
theorem d2_90 : decode (am_mc 2) 90 = .ok (.arraylength, 1) := D2 45 rfl rfl rfl
theorem d2_91 : decode (am_mc 2) 91 = .ok (.if_icmp .ge 25, 3) := D2 46 rfl rfl rfl
theorem d2_94 : decode (am_mc 2) 94 = .ok (.aload_n 0, 1) := D2 47 rfl rfl rfl
theorem d2_95 : decode (am_mc 2) 95 = .ok (.getfield 7, 3) := D2 48 rfl rfl rfl
theorem d2_98 : decode (am_mc 2) 98 = .ok (.aload_n 0, 1) := D2 49 rfl rfl rfl
theorem d2_99 : decode (am_mc 2) 99 = .ok (.getfield 17, 3) := D2 50 rfl rfl rfl
theorem d2_102 : decode (am_mc 2) 102 = .ok (.iload 5, 2) := D2 51 rfl rfl rfl
theorem d2_104 : decode (am_mc 2) 104 = .ok (.i2c, 1) := D2 52 rfl rfl rfl
theorem d2_105 : decode (am_mc 2) 105 = .ok (.castore, 1) := D2 53 rfl rfl rfl
theorem d2_106 : decode (am_mc 2) 106 = .ok (.aload_n 0, 1) := D2 54 rfl rfl rfl
theorem d2_107 : decode (am_mc 2) 107 = .ok (.dup, 1) := D2 55 rfl rfl rfl
theorem d2_108 : decode (am_mc 2) 108 = .ok (.getfield 17, 3) := D2 56 rfl rfl rfl
theorem d2_111 : decode (am_mc 2) 111 = .ok (.iconst 1, 1) := D2 57 rfl rfl rfl
theorem d2_112 : decode (am_mc 2) 112 = .ok (.iadd, 1) := D2 58 rfl rfl rfl
theorem d2_113 : decode (am_mc 2) 113 = .ok (.putfield 17, 3) := D2 59 rfl rfl rfl
theorem d2_116 : decode (am_mc 2) 116 = .ok (.iinc 4 (-8), 3) := D2 60 rfl rfl rfl
theorem d2_119 : decode (am_mc 2) 119 = .ok (.goto (-55), 3) := D2 61 rfl rfl rfl
theorem d2_122 : decode (am_mc 2) 122 = .ok (.iconst 1, 1) := D2 62 rfl rfl rfl
theorem d2_123 : decode (am_mc 2) 123 = .ok (.ireturn, 1) := D2 63 rfl rfl rfl
theorem ml2 : ∀ n, n < 6 → n < am_ml 2 := fun _ h => h
theorem mo2 : am_mo 2 = 1 := by decide +kernel
theorem mr2 : am_mr 2 = some .boolean := by decide +kernel
theorem rg2 : am_rcg 2 = 2 := by decide +kernel
theorem f1_7 : tb_f 1 7 = some (1, 0, 5, 18) := by decide +kernel
theorem f1_17 : tb_f 1 17 = some (1, 2, 0, 0) := by decide +kernel
theorem m1_21 : tb_m 1 21 = some (0, 2, 1, 0) := by decide +kernel
theorem m1_25 : tb_m 1 25 = some (1, 2, 1, 0) := by decide +kernel
theorem dp2_0 : am_md 0 + 1 ≤ am_md 2 ∧ 8 + (am_ml 0 + 11) + am_lr 0 ≤ am_lr 2 := by decide +kernel
theorem dp2_1 : am_md 1 + 1 ≤ am_md 2 ∧ 8 + (am_ml 1 + 11) + am_lr 1 ≤ am_lr 2 := by decide +kernel
def L2_6 (l0 : Nat) (l1 : Int) : Nat → Int → Int → am_M → Option ((Int × am_M) ⊕ (Int × Int × am_M))
  | 0, _, _, _ => none
  | n + 1, l3, l4, μ => (if l4 < 0 then (some (.inr (l3, l4, μ))) else (am_op (fn0 l1 l4 μ) (fun z1 => (if z1.1 = 0 then (L2_6 l0 l1 n l3 (w32 (l4 + (-8))) z1.2) else (am_op (fn1 l0 z1.1 z1.2) (fun z2 => (if z2.1 = 0 then some (.inl (0, z2.2)) else (L2_6 l0 l1 n (w32 (l3 + 1)) (w32 (l4 + (-8))) z2.2))))))))
theorem w2_6 {X : am_K} {C : am_C} {Q : State → Prop} (hG : am_G X C 2 0 0 (0, fun _ => 0)) (hr : match X with | (_, _, _, _, _, _, _, _, meth, _) => meth.sig.returnType = am_mr 2 ∧ meth.locks = false) (l0 : Nat) (l1 : Int) : ∀ (n : Nat) (l3 : Int) (l4 : Int) (μ : am_M) (r : (Int × am_M) ⊕ (Int × Int × am_M)), L2_6 l0 l1 n l3 l4 μ = some r → (∀ q, r = .inl q → Q = am_E X C 2 q.1 q.2) → (∀ t, r = .inr t → am_W X C 2 Q 0 0 44 [(0, .inr (.inr (1, l0))), (1, .inr (.inl l1)), (3, .inl t.1)] [] t.2.2) → am_W X C 2 Q 0 0 6 [(0, .inr (.inr (1, l0))), (1, .inr (.inl l1)), (3, .inl l3), (4, .inl l4)] [] μ := by
  intro n
  induction n with
  | zero => intro l3 l4 μ r h; cases h
  | succ n ih =>
    intro l3 l4 μ r h hI hX
    unfold L2_6 at h
    exact (am_c_iload hG (pc := 6) d2_6 rfl (x_if_lt (tgt := 44) hG (pc := 8) d2_8 rfl h (fun h => (am_lvw (lv2 := [(0, .inr (.inr (1, l0))), (1, .inr (.inl l1)), (3, .inl l3)]) [0, 1, 2] rfl (hX (l3, l4, μ) (Option.some.inj h).symm))) (fun h => (am_c_lload_n hG (pc := 11) d2_11 rfl (am_c_iload hG (pc := 12) d2_12 rfl (x_static_i (as := [.inr (.inl l1), .inl l4]) (rest := []) hG (pc := 14) d2_14 mo2 m1_21 (by decide) dp2_0 rfl rfl (Nat.le_of_ble_eq_true rfl) (Nat.le_of_ble_eq_true rfl) rg0 sd0 (e0 _ _ _) h (fun z1 h => (x_istore (lv' := [(5, .inl z1.1), (0, .inr (.inr (1, l0))), (1, .inr (.inl l1)), (3, .inl l3), (4, .inl l4)]) hG (pc := 17) d2_17 (ml2 _ (by decide)) rfl (am_c_iload hG (pc := 19) d2_19 rfl (x_if_eq (tgt := 38) hG (pc := 21) d2_21 rfl h (fun h => (x_iinc (lv' := [(4, .inl (w32 (l4 + (-8)))), (5, .inl z1.1), (0, .inr (.inr (1, l0))), (1, .inr (.inl l1)), (3, .inl l3)]) hG (pc := 38) d2_38 rfl (ml2 _ (by decide)) rfl (x_goto (tgt := 6) hG (pc := 41) d2_41 rfl (am_lvw (lv2 := [(0, .inr (.inr (1, l0))), (1, .inr (.inl l1)), (3, .inl l3), (4, .inl (w32 (l4 + (-8))))]) [2, 3, 4, 0] rfl (ih _ _ _ _ h hI hX))))) (fun h => (am_c_aload_n hG (pc := 24) d2_24 rfl (am_c_iload hG (pc := 25) d2_25 rfl (x_virtual_i (t := 1) (o := l0) (as2 := [.inl z1.1]) (rest := []) hG (pc := 27) d2_27 mo2 m1_25 (by decide) dp2_1 rfl rfl (Nat.le_of_ble_eq_true rfl) (Nat.le_of_ble_eq_true rfl) rg1 sd1 (e1 _ _ _) h (fun z2 h => (x_if_ne (tgt := 35) hG (pc := 30) d2_30 rfl h (fun h => (x_iinc (lv' := [(3, .inl (w32 (l3 + 1))), (5, .inl z1.1), (0, .inr (.inr (1, l0))), (1, .inr (.inl l1)), (4, .inl l4)]) hG (pc := 35) d2_35 rfl (ml2 _ (by decide)) rfl (x_iinc (lv' := [(4, .inl (w32 (l4 + (-8)))), (3, .inl (w32 (l3 + 1))), (5, .inl z1.1), (0, .inr (.inr (1, l0))), (1, .inr (.inl l1))]) hG (pc := 38) d2_38 rfl (ml2 _ (by decide)) rfl (x_goto (tgt := 6) hG (pc := 41) d2_41 rfl (am_lvw (lv2 := [(0, .inr (.inr (1, l0))), (1, .inr (.inl l1)), (3, .inl (w32 (l3 + 1))), (4, .inl (w32 (l4 + (-8))))]) [3, 4, 1, 0] rfl (ih _ _ _ _ h hI hX)))))) (fun h => (am_c_iconst hG (pc := 33) d2_33 (by decide) (xq_zret0 hG (by decide) hr (pc := 34) d2_34 mr2 (hI _ (Option.some.inj h).symm))))))))))))))))))))
def L2_64 (l0 : Nat) (l1 : Int) : Nat → Int → am_M → Option ((Int × am_M) ⊕ (Int × am_M))
  | 0, _, _ => none
  | n + 1, l4, μ => (if l4 < 0 then (some (.inr (l4, μ))) else (am_op (fn0 l1 l4 μ) (fun z3 => (if z3.1 = 0 then (L2_64 l0 l1 n (w32 (l4 + (-8))) z3.2) else (if z3.2 l0 2 < ((am_len (am_ref l0 0) : Nat) : Int) then (if (0 : Int) ≤ z3.2 l0 2 ∧ z3.2 l0 2 < ((am_len (am_ref l0 0) : Nat) : Int) then (L2_64 l0 l1 n (w32 (l4 + (-8))) (am_up (am_up z3.2 (am_ref l0 0) (z3.2 l0 2 : Int).toNat (o_nar .char (o_i2c z3.1))) l0 2 (w32 (((am_up z3.2 (am_ref l0 0) (z3.2 l0 2 : Int).toNat (o_nar .char (o_i2c z3.1))) l0 2) + 1)))) else none) else (L2_64 l0 l1 n (w32 (l4 + (-8))) z3.2))))))
theorem w2_64 {X : am_K} {C : am_C} {Q : State → Prop} (hG : am_G X C 2 0 0 (0, fun _ => 0)) (hr : match X with | (_, _, _, _, _, _, _, _, meth, _) => meth.sig.returnType = am_mr 2 ∧ meth.locks = false) (l0 : Nat) (l1 : Int) : ∀ (n : Nat) (l4 : Int) (μ : am_M) (r : (Int × am_M) ⊕ (Int × am_M)), L2_64 l0 l1 n l4 μ = some r → (∀ q, r = .inl q → Q = am_E X C 2 q.1 q.2) → (∀ t, r = .inr t → am_W X C 2 Q 0 0 122 [] [] t.2) → am_W X C 2 Q 0 0 64 [(0, .inr (.inr (1, l0))), (1, .inr (.inl l1)), (4, .inl l4)] [] μ := by
  intro n
  induction n with
  | zero => intro l4 μ r h; cases h
  | succ n ih =>
    intro l4 μ r h hI hX
    unfold L2_64 at h
    exact (am_c_iload hG (pc := 64) d2_64 rfl (x_if_lt (tgt := 122) hG (pc := 66) d2_66 rfl h (fun h => (am_lvw (lv2 := []) [] rfl (hX (l4, μ) (Option.some.inj h).symm))) (fun h => (am_c_lload_n hG (pc := 69) d2_69 rfl (am_c_iload hG (pc := 70) d2_70 rfl (x_static_i (as := [.inr (.inl l1), .inl l4]) (rest := []) hG (pc := 72) d2_72 mo2 m1_21 (by decide) dp2_0 rfl rfl (Nat.le_of_ble_eq_true rfl) (Nat.le_of_ble_eq_true rfl) rg0 sd0 (e0 _ _ _) h (fun z3 h => (x_istore (lv' := [(5, .inl z3.1), (0, .inr (.inr (1, l0))), (1, .inr (.inl l1)), (4, .inl l4)]) hG (pc := 75) d2_75 (ml2 _ (by decide)) rfl (am_c_iload hG (pc := 77) d2_77 rfl (x_if_eq (tgt := 116) hG (pc := 79) d2_79 rfl h (fun h => (x_iinc (lv' := [(4, .inl (w32 (l4 + (-8)))), (5, .inl z3.1), (0, .inr (.inr (1, l0))), (1, .inr (.inl l1))]) hG (pc := 116) d2_116 rfl (ml2 _ (by decide)) rfl (x_goto (tgt := 64) hG (pc := 119) d2_119 rfl (am_lvw (lv2 := [(0, .inr (.inr (1, l0))), (1, .inr (.inl l1)), (4, .inl (w32 (l4 + (-8))))]) [2, 3, 0] rfl (ih _ _ _ h hI hX))))) (fun h => (am_c_aload_n hG (pc := 82) d2_82 rfl (x_get_n (v := .inl (z3.2 l0 2)) hG (pc := 83) d2_83 mo2 f1_17 rfl (am_c_aload_n hG (pc := 86) d2_86 rfl (x_get_n (v := .inr (.inr (18, am_ref l0 0))) hG (pc := 87) d2_87 mo2 f1_7 rfl (am_c_len hG (pc := 90) d2_90 (by decide) (x_icmp_ge (tgt := 116) hG (pc := 91) d2_91 rfl h (fun h => (x_iinc (lv' := [(4, .inl (w32 (l4 + (-8)))), (5, .inl z3.1), (0, .inr (.inr (1, l0))), (1, .inr (.inl l1))]) hG (pc := 116) d2_116 rfl (ml2 _ (by decide)) rfl (x_goto (tgt := 64) hG (pc := 119) d2_119 rfl (am_lvw (lv2 := [(0, .inr (.inr (1, l0))), (1, .inr (.inl l1)), (4, .inl (w32 (l4 + (-8))))]) [2, 3, 0] rfl (ih _ _ _ h hI hX))))) (fun h => (am_c_aload_n hG (pc := 94) d2_94 rfl (x_get_n (v := .inr (.inr (18, am_ref l0 0))) hG (pc := 95) d2_95 mo2 f1_7 rfl (am_c_aload_n hG (pc := 98) d2_98 rfl (x_get_n (v := .inl (z3.2 l0 2)) hG (pc := 99) d2_99 mo2 f1_17 rfl (am_c_iload hG (pc := 102) d2_102 rfl (am_c_i2c hG (pc := 104) d2_104 (x_castore hG (pc := 105) d2_105 h (fun h => (am_c_aload_n hG (pc := 106) d2_106 rfl (am_c_dup hG (pc := 107) d2_107 rfl (x_get_n (v := .inl ((am_up z3.2 (am_ref l0 0) (z3.2 l0 2 : Int).toNat (o_nar .char (o_i2c z3.1))) l0 2)) hG (pc := 108) d2_108 mo2 f1_17 rfl (am_c_iconst hG (pc := 111) d2_111 (by decide) (am_c_iadd hG (pc := 112) d2_112 (x_put_i hG (pc := 113) d2_113 mo2 f1_17 (by decide) (x_iinc (lv' := [(4, .inl (w32 (l4 + (-8)))), (5, .inl z3.1), (0, .inr (.inr (1, l0))), (1, .inr (.inl l1))]) hG (pc := 116) d2_116 rfl (ml2 _ (by decide)) rfl (x_goto (tgt := 64) hG (pc := 119) d2_119 rfl (am_lvw (lv2 := [(0, .inr (.inr (1, l0))), (1, .inr (.inl l1)), (4, .inl (w32 (l4 + (-8))))]) [2, 3, 0] rfl (ih _ _ _ h hI hX))))))))))))))))))))))))))))))))))))
def fn2 (o : Nat) (a : Int) (μ : am_M) : Option (Int × am_M) := (am_op (L2_6 o a am_fuel 0 56 μ) (fun s => am_lp s (fun q1 => some q1) (fun t1 => (if ((am_len (am_ref o 0) : Nat) : Int) < w32 ((t1.2.2 o 2) + t1.1) then some (0, t1.2.2) else (am_op (L2_64 o a am_fuel 56 t1.2.2) (fun s => am_lp s (fun q2 => some q2) (fun t2 => some (1, t2.2))))))))
def sp2 : am_F := fun vs μ => am_aR 1 vs fun o vs => am_aJ vs fun a vs => am_a0 vs (fn2 o a μ)
theorem e2 (o : Nat) (a : Int) (μ : am_M) : sp2 [.inr (.inr (1, o)), .inr (.inl a)] μ = fn2 o a μ := am_aR_c.trans (am_aJ_c.trans am_a0_c)
theorem sd2 : am_Sd 2 sp2 := by
  refine am_Sd_of (by decide) (fun vs μ μ' x h hv hM => ?_)
  obtain ⟨o, vs0, rfl, h0⟩ := am_aR_s h
  obtain ⟨a, vs1, rfl, h1⟩ := am_aJ_s h0
  obtain ⟨rfl, hz⟩ := am_a0_s h1
  refine ⟨Nat.le_of_ble_eq_true rfl, fun X C hG hr => ?_⟩
  have h := hz
  unfold fn2 at h
  exact (show am_W X C 2 _ 0 0 0 [(0, .inr (.inr (1, o))), (1, .inr (.inl a))] [] μ from (am_c_iconst hG (pc := 0) d2_0 (by decide) (x_istore_n (lv' := [(3, .inl 0), (0, .inr (.inr (1, o))), (1, .inr (.inl a))]) hG (pc := 1) d2_1 (ml2 _ (by decide)) rfl (am_c_bipush hG (pc := 2) d2_2 (by decide) (x_istore (lv' := [(4, .inl 56), (3, .inl 0), (0, .inr (.inr (1, o))), (1, .inr (.inl a))]) hG (pc := 4) d2_4 (ml2 _ (by decide)) rfl (x_lp h (fun r h1 h2 => (am_lvw (lv2 := [(0, .inr (.inr (1, o))), (1, .inr (.inl a)), (3, .inl 0), (4, .inl 56)]) [2, 3, 1, 0] rfl (w2_6 hG hr _ _ _ _ _ _ _ h1 (fun q1 e => am_q1 e h2 (fun h => am_q0 h)) (fun t1 e => am_q2 e h2 (fun h => (am_c_aload_n hG (pc := 44) d2_44 rfl (x_get_n (v := .inl (t1.2.2 o 2)) hG (pc := 45) d2_45 mo2 f1_17 rfl (am_c_iload_n hG (pc := 48) d2_48 rfl (am_c_iadd hG (pc := 49) d2_49 (am_c_aload_n hG (pc := 50) d2_50 rfl (x_get_n (v := .inr (.inr (18, am_ref o 0))) hG (pc := 51) d2_51 mo2 f1_7 rfl (am_c_len hG (pc := 54) d2_54 (by decide) (x_icmp_le (tgt := 60) hG (pc := 55) d2_55 rfl h (fun h => (am_c_bipush hG (pc := 60) d2_60 (by decide) (x_istore (lv' := [(4, .inl 56), (0, .inr (.inr (1, o))), (1, .inr (.inl a)), (3, .inl t1.1)]) hG (pc := 62) d2_62 (ml2 _ (by decide)) rfl (x_lp h (fun r h1 h2 => (am_lvw (lv2 := [(0, .inr (.inr (1, o))), (1, .inr (.inl a)), (4, .inl 56)]) [1, 2, 0] rfl (w2_64 hG hr _ _ _ _ _ _ h1 (fun q2 e => am_q1 e h2 (fun h => am_q0 h)) (fun t2 e => am_q2 e h2 (fun h => (am_c_iconst hG (pc := 122) d2_122 (by decide) (xq_zret1 hG (by decide) hr (pc := 123) d2_123 mr2 (am_q0 h)))))))))))) (fun h => (am_c_iconst hG (pc := 58) d2_58 (by decide) (xq_zret0 hG (by decide) hr (pc := 59) d2_59 mr2 (am_q0 h)))))))))))))))))))))))
/-! ChartPress.data(J)Z -/
theorem D3 (k : Nat) {pc : Nat} {i : Instr} (h : tbi3[k]? = some (pc, i)) (hs : am_isw i = false) {n : Nat} (hn : am_il i = n) : decode (am_mc 3) pc = .ok (i, n) := am_d2 (by decide) (by decide) rfl h hs hn
theorem d3_0 : decode (am_mc 3) 0 = .ok (.aload_n 0, 1) := D3 0 rfl rfl rfl
theorem d3_1 : decode (am_mc 3) 1 = .ok (.getfield 14, 3) := D3 1 rfl rfl rfl
theorem d3_4 : decode (am_mc 3) 4 = .ok (.lload_n 1, 1) := D3 2 rfl rfl rfl
theorem d3_5 : decode (am_mc 3) 5 = .ok (.invokevirtual 83, 3) := D3 3 rfl rfl rfl
theorem d3_8 : decode (am_mc 3) 8 = .ok (.ireturn, 1) := D3 4 rfl rfl rfl
theorem ml3 : ∀ n, n < 3 → n < am_ml 3 := fun _ h => h
theorem mo3 : am_mo 3 = 0 := by decide +kernel
theorem mr3 : am_mr 3 = some .boolean := by decide +kernel
theorem rg3 : am_rcg 3 = 1 := by decide +kernel
theorem f0_14 : tb_f 0 14 = some (0, 0, 5, 1) := by decide +kernel
theorem m0_83 : tb_m 0 83 = some (2, 2, 1, 0) := by decide +kernel
theorem dp3_2 : am_md 2 + 1 ≤ am_md 3 ∧ 8 + (am_ml 2 + 11) + am_lr 2 ≤ am_lr 3 := by decide +kernel
def fn3 (o : Nat) (a : Int) (μ : am_M) : Option (Int × am_M) := (am_op (fn2 (am_ref o 0) a μ) (fun z1 => (if z1.1 = 0 ∨ z1.1 = 1 then some (z1.1, z1.2) else none)))
def sp3 : am_F := fun vs μ => am_aR 0 vs fun o vs => am_aJ vs fun a vs => am_a0 vs (fn3 o a μ)
theorem e3 (o : Nat) (a : Int) (μ : am_M) : sp3 [.inr (.inr (0, o)), .inr (.inl a)] μ = fn3 o a μ := am_aR_c.trans (am_aJ_c.trans am_a0_c)
theorem sd3 : am_Sd 3 sp3 := by
  refine am_Sd_of (by decide) (fun vs μ μ' x h hv hM => ?_)
  obtain ⟨o, vs0, rfl, h0⟩ := am_aR_s h
  obtain ⟨a, vs1, rfl, h1⟩ := am_aJ_s h0
  obtain ⟨rfl, hz⟩ := am_a0_s h1
  refine ⟨Nat.le_of_ble_eq_true rfl, fun X C hG hr => ?_⟩
  have h := hz
  unfold fn3 at h
  exact (show am_W X C 3 _ 0 0 0 [(0, .inr (.inr (0, o))), (1, .inr (.inl a))] [] μ from (am_c_aload_n hG (pc := 0) d3_0 rfl (x_get_n (v := .inr (.inr (1, am_ref o 0))) hG (pc := 1) d3_1 mo3 f0_14 rfl (am_c_lload_n hG (pc := 4) d3_4 rfl (x_virtual_i (t := 1) (o := am_ref o 0) (as2 := [.inr (.inl a)]) (rest := []) hG (pc := 5) d3_5 mo3 m0_83 (by decide) dp3_2 rfl rfl (Nat.le_of_ble_eq_true rfl) (Nat.le_of_ble_eq_true rfl) rg2 sd2 (e2 _ _ _) h (fun z1 h => (xq_zret hG (by decide) hr (pc := 8) d3_8 mr3 h (fun h => (am_q0 h)))))))))
/-! ChartPress.text(J)Z -/
theorem D4 (k : Nat) {pc : Nat} {i : Instr} (h : tbi4[k]? = some (pc, i)) (hs : am_isw i = false) {n : Nat} (hn : am_il i = n) : decode (am_mc 4) pc = .ok (i, n) := am_d2 (by decide) (by decide) rfl h hs hn
theorem d4_0 : decode (am_mc 4) 0 = .ok (.aload_n 0, 1) := D4 0 rfl rfl rfl
theorem d4_1 : decode (am_mc 4) 1 = .ok (.getfield 18, 3) := D4 1 rfl rfl rfl
theorem d4_4 : decode (am_mc 4) 4 = .ok (.lload_n 1, 1) := D4 2 rfl rfl rfl
theorem d4_5 : decode (am_mc 4) 5 = .ok (.invokevirtual 83, 3) := D4 3 rfl rfl rfl
theorem d4_8 : decode (am_mc 4) 8 = .ok (.ireturn, 1) := D4 4 rfl rfl rfl
theorem ml4 : ∀ n, n < 3 → n < am_ml 4 := fun _ h => h
theorem mo4 : am_mo 4 = 0 := by decide +kernel
theorem mr4 : am_mr 4 = some .boolean := by decide +kernel
theorem rg4 : am_rcg 4 = 1 := by decide +kernel
theorem f0_18 : tb_f 0 18 = some (0, 1, 5, 1) := by decide +kernel
theorem dp4_2 : am_md 2 + 1 ≤ am_md 4 ∧ 8 + (am_ml 2 + 11) + am_lr 2 ≤ am_lr 4 := by decide +kernel
def fn4 (o : Nat) (a : Int) (μ : am_M) : Option (Int × am_M) := (am_op (fn2 (am_ref o 1) a μ) (fun z1 => (if z1.1 = 0 ∨ z1.1 = 1 then some (z1.1, z1.2) else none)))
def sp4 : am_F := fun vs μ => am_aR 0 vs fun o vs => am_aJ vs fun a vs => am_a0 vs (fn4 o a μ)
theorem e4 (o : Nat) (a : Int) (μ : am_M) : sp4 [.inr (.inr (0, o)), .inr (.inl a)] μ = fn4 o a μ := am_aR_c.trans (am_aJ_c.trans am_a0_c)
theorem sd4 : am_Sd 4 sp4 := by
  refine am_Sd_of (by decide) (fun vs μ μ' x h hv hM => ?_)
  obtain ⟨o, vs0, rfl, h0⟩ := am_aR_s h
  obtain ⟨a, vs1, rfl, h1⟩ := am_aJ_s h0
  obtain ⟨rfl, hz⟩ := am_a0_s h1
  refine ⟨Nat.le_of_ble_eq_true rfl, fun X C hG hr => ?_⟩
  have h := hz
  unfold fn4 at h
  exact (show am_W X C 4 _ 0 0 0 [(0, .inr (.inr (0, o))), (1, .inr (.inl a))] [] μ from (am_c_aload_n hG (pc := 0) d4_0 rfl (x_get_n (v := .inr (.inr (1, am_ref o 1))) hG (pc := 1) d4_1 mo4 f0_18 rfl (am_c_lload_n hG (pc := 4) d4_4 rfl (x_virtual_i (t := 1) (o := am_ref o 1) (as2 := [.inr (.inl a)]) (rest := []) hG (pc := 5) d4_5 mo4 m0_83 (by decide) dp4_2 rfl rfl (Nat.le_of_ble_eq_true rfl) (Nat.le_of_ble_eq_true rfl) rg2 sd2 (e2 _ _ _) h (fun z1 h => (xq_zret hG (by decide) hr (pc := 8) d4_8 mr4 h (fun h => (am_q0 h)))))))))
/-! ChartPress$Script.clear()V -/
theorem D5 (k : Nat) {pc : Nat} {i : Instr} (h : tbi5[k]? = some (pc, i)) (hs : am_isw i = false) {n : Nat} (hn : am_il i = n) : decode (am_mc 5) pc = .ok (i, n) := am_d2 (by decide) (by decide) rfl h hs hn
theorem d5_0 : decode (am_mc 5) 0 = .ok (.aload_n 0, 1) := D5 0 rfl rfl rfl
theorem d5_1 : decode (am_mc 5) 1 = .ok (.iconst 0, 1) := D5 1 rfl rfl rfl
theorem d5_2 : decode (am_mc 5) 2 = .ok (.putfield 17, 3) := D5 2 rfl rfl rfl
theorem d5_5 : decode (am_mc 5) 5 = .ok (.return_, 1) := D5 3 rfl rfl rfl
theorem ml5 : ∀ n, n < 1 → n < am_ml 5 := fun _ h => h
theorem mo5 : am_mo 5 = 1 := by decide +kernel
theorem rk5 : am_rk 5 = 0 := by decide +kernel
theorem rg5 : am_rcg 5 = 2 := by decide +kernel
def fn5 (o : Nat) (μ : am_M) : Option (Int × am_M) := some (0, am_up μ o 2 0)
def sp5 : am_F := fun vs μ => am_aR 1 vs fun o vs => am_a0 vs (fn5 o μ)
theorem e5 (o : Nat) (μ : am_M) : sp5 [.inr (.inr (1, o))] μ = fn5 o μ := am_aR_c.trans am_a0_c
theorem sd5 : am_Sd 5 sp5 := by
  refine am_Sd_of (by decide) (fun vs μ μ' x h hv hM => ?_)
  obtain ⟨o, vs0, rfl, h0⟩ := am_aR_s h
  obtain ⟨rfl, hz⟩ := am_a0_s h0
  refine ⟨Nat.le_of_ble_eq_true rfl, fun X C hG hr => ?_⟩
  have h := hz
  unfold fn5 at h
  exact (show am_W X C 5 _ 0 0 0 [(0, .inr (.inr (1, o)))] [] μ from (am_c_aload_n hG (pc := 0) d5_0 rfl (am_c_iconst hG (pc := 1) d5_1 (by decide) (x_put_i hG (pc := 2) d5_2 mo5 f1_17 (by decide) (xq_vret hG (by decide) hr (pc := 5) d5_5 rk5 (am_q0 h))))))
/-! ChartPress.wipe(Z)V -/
theorem D6 (k : Nat) {pc : Nat} {i : Instr} (h : tbi6[k]? = some (pc, i)) (hs : am_isw i = false) {n : Nat} (hn : am_il i = n) : decode (am_mc 6) pc = .ok (i, n) := am_d2 (by decide) (by decide) rfl h hs hn
theorem d6_0 : decode (am_mc 6) 0 = .ok (.iload_n 1, 1) := D6 0 rfl rfl rfl
theorem d6_1 : decode (am_mc 6) 1 = .ok (.ifCond .eq 13, 3) := D6 1 rfl rfl rfl
theorem d6_4 : decode (am_mc 6) 4 = .ok (.aload_n 0, 1) := D6 2 rfl rfl rfl
theorem d6_5 : decode (am_mc 6) 5 = .ok (.getfield 14, 3) := D6 3 rfl rfl rfl
theorem d6_8 : decode (am_mc 6) 8 = .ok (.invokevirtual 87, 3) := D6 4 rfl rfl rfl
theorem d6_11 : decode (am_mc 6) 11 = .ok (.goto 10, 3) := D6 5 rfl rfl rfl
theorem d6_14 : decode (am_mc 6) 14 = .ok (.aload_n 0, 1) := D6 6 rfl rfl rfl
theorem d6_15 : decode (am_mc 6) 15 = .ok (.getfield 18, 3) := D6 7 rfl rfl rfl
theorem d6_18 : decode (am_mc 6) 18 = .ok (.invokevirtual 87, 3) := D6 8 rfl rfl rfl
theorem d6_21 : decode (am_mc 6) 21 = .ok (.return_, 1) := D6 9 rfl rfl rfl
theorem ml6 : ∀ n, n < 2 → n < am_ml 6 := fun _ h => h
theorem mo6 : am_mo 6 = 0 := by decide +kernel
theorem rk6 : am_rk 6 = 0 := by decide +kernel
theorem rg6 : am_rcg 6 = 1 := by decide +kernel
theorem m0_87 : tb_m 0 87 = some (5, 1, 0, 0) := by decide +kernel
theorem dp6_5 : am_md 5 + 1 ≤ am_md 6 ∧ 8 + (am_ml 5 + 11) + am_lr 5 ≤ am_lr 6 := by decide +kernel
def fn6 (o : Nat) (a : Int) (μ : am_M) : Option (Int × am_M) := (if a = 0 then (am_op (fn5 (am_ref o 1) μ) (fun z1 => some (0, z1.2))) else (am_op (fn5 (am_ref o 0) μ) (fun z2 => some (0, z2.2))))
def sp6 : am_F := fun vs μ => am_aR 0 vs fun o vs => am_aI vs fun a vs => am_a0 vs (fn6 o a μ)
theorem e6 (o : Nat) (a : Int) (μ : am_M) : sp6 [.inr (.inr (0, o)), .inl a] μ = fn6 o a μ := am_aR_c.trans (am_aI_c.trans am_a0_c)
theorem sd6 : am_Sd 6 sp6 := by
  refine am_Sd_of (by decide) (fun vs μ μ' x h hv hM => ?_)
  obtain ⟨o, vs0, rfl, h0⟩ := am_aR_s h
  obtain ⟨a, vs1, rfl, h1⟩ := am_aI_s h0
  obtain ⟨rfl, hz⟩ := am_a0_s h1
  refine ⟨Nat.le_of_ble_eq_true rfl, fun X C hG hr => ?_⟩
  have h := hz
  unfold fn6 at h
  exact (show am_W X C 6 _ 0 0 0 [(0, .inr (.inr (0, o))), (1, .inl a)] [] μ from (am_c_iload_n hG (pc := 0) d6_0 rfl (x_if_eq (tgt := 14) hG (pc := 1) d6_1 rfl h (fun h => (am_c_aload_n hG (pc := 14) d6_14 rfl (x_get_n (v := .inr (.inr (1, am_ref o 1))) hG (pc := 15) d6_15 mo6 f0_18 rfl (x_virtual_v (t := 1) (o := am_ref o 1) (as2 := []) (rest := []) hG (pc := 18) d6_18 mo6 m0_87 (by decide) dp6_5 rfl rfl (Nat.le_of_ble_eq_true rfl) (Nat.le_of_ble_eq_true rfl) rg5 sd5 (e5 _ _) h (fun z1 h => (xq_vret hG (by decide) hr (pc := 21) d6_21 rk6 (am_q0 h))))))) (fun h => (am_c_aload_n hG (pc := 4) d6_4 rfl (x_get_n (v := .inr (.inr (1, am_ref o 0))) hG (pc := 5) d6_5 mo6 f0_14 rfl (x_virtual_v (t := 1) (o := am_ref o 0) (as2 := []) (rest := []) hG (pc := 8) d6_8 mo6 m0_87 (by decide) dp6_5 rfl rfl (Nat.le_of_ble_eq_true rfl) (Nat.le_of_ble_eq_true rfl) rg5 sd5 (e5 _ _) h (fun z2 h => (x_goto (tgt := 21) hG (pc := 11) d6_11 rfl (xq_vret hG (by decide) hr (pc := 21) d6_21 rk6 (am_q0 h)))))))))))
/-! ChartPress$Sheet.resize(II)Z -/
theorem D7 (k : Nat) {pc : Nat} {i : Instr} (h : tbi7[k]? = some (pc, i)) (hs : am_isw i = false) {n : Nat} (hn : am_il i = n) : decode (am_mc 7) pc = .ok (i, n) := am_d2 (by decide) (by decide) rfl h hs hn
theorem d7_0 : decode (am_mc 7) 0 = .ok (.iload_n 1, 1) := D7 0 rfl rfl rfl
theorem d7_1 : decode (am_mc 7) 1 = .ok (.bipush 20, 2) := D7 1 rfl rfl rfl
theorem d7_3 : decode (am_mc 7) 3 = .ok (.if_icmp .lt 21, 3) := D7 2 rfl rfl rfl
theorem d7_6 : decode (am_mc 7) 6 = .ok (.iload_n 1, 1) := D7 3 rfl rfl rfl
theorem d7_7 : decode (am_mc 7) 7 = .ok (.bipush 96, 2) := D7 4 rfl rfl rfl
theorem d7_9 : decode (am_mc 7) 9 = .ok (.if_icmp .gt 15, 3) := D7 5 rfl rfl rfl
theorem d7_12 : decode (am_mc 7) 12 = .ok (.iload_n 2, 1) := D7 6 rfl rfl rfl
theorem d7_13 : decode (am_mc 7) 13 = .ok (.bipush 18, 2) := D7 7 rfl rfl rfl
theorem d7_15 : decode (am_mc 7) 15 = .ok (.if_icmp .lt 9, 3) := D7 8 rfl rfl rfl
theorem d7_18 : decode (am_mc 7) 18 = .ok (.iload_n 2, 1) := D7 9 rfl rfl rfl
theorem d7_19 : decode (am_mc 7) 19 = .ok (.bipush 64, 2) := D7 10 rfl rfl rfl
theorem d7_21 : decode (am_mc 7) 21 = .ok (.if_icmp .le 5, 3) := D7 11 rfl rfl rfl
theorem d7_24 : decode (am_mc 7) 24 = .ok (.iconst 0, 1) := D7 12 rfl rfl rfl
theorem d7_25 : decode (am_mc 7) 25 = .ok (.ireturn, 1) := D7 13 rfl rfl rfl
theorem d7_26 : decode (am_mc 7) 26 = .ok (.aload_n 0, 1) := D7 14 rfl rfl rfl
theorem d7_27 : decode (am_mc 7) 27 = .ok (.iload_n 1, 1) := D7 15 rfl rfl rfl
theorem d7_28 : decode (am_mc 7) 28 = .ok (.putfield 15, 3) := D7 16 rfl rfl rfl
theorem d7_31 : decode (am_mc 7) 31 = .ok (.aload_n 0, 1) := D7 17 rfl rfl rfl
theorem d7_32 : decode (am_mc 7) 32 = .ok (.iload_n 2, 1) := D7 18 rfl rfl rfl
theorem d7_33 : decode (am_mc 7) 33 = .ok (.putfield 19, 3) := D7 19 rfl rfl rfl
theorem d7_36 : decode (am_mc 7) 36 = .ok (.iconst 1, 1) := D7 20 rfl rfl rfl
theorem d7_37 : decode (am_mc 7) 37 = .ok (.ireturn, 1) := D7 21 rfl rfl rfl
theorem ml7 : ∀ n, n < 3 → n < am_ml 7 := fun _ h => h
theorem mo7 : am_mo 7 = 10 := by decide +kernel
theorem mr7 : am_mr 7 = some .boolean := by decide +kernel
theorem rg7 : am_rcg 7 = 11 := by decide +kernel
theorem f10_15 : tb_f 10 15 = some (10, 1, 0, 0) := by decide +kernel
theorem f10_19 : tb_f 10 19 = some (10, 2, 0, 0) := by decide +kernel
def fn7 (o : Nat) (a : Int) (b : Int) (μ : am_M) : Option (Int × am_M) := (if a < 20 then some (0, μ) else (if 96 < a then some (0, μ) else (if b < 18 then some (0, μ) else (if 64 < b then some (0, μ) else some (1, am_up (am_up μ o 1 a) o 2 b)))))
def sp7 : am_F := fun vs μ => am_aR 10 vs fun o vs => am_aI vs fun a vs => am_aI vs fun b vs => am_a0 vs (fn7 o a b μ)
theorem e7 (o : Nat) (a : Int) (b : Int) (μ : am_M) : sp7 [.inr (.inr (10, o)), .inl a, .inl b] μ = fn7 o a b μ := am_aR_c.trans (am_aI_c.trans (am_aI_c.trans am_a0_c))
theorem sd7 : am_Sd 7 sp7 := by
  refine am_Sd_of (by decide) (fun vs μ μ' x h hv hM => ?_)
  obtain ⟨o, vs0, rfl, h0⟩ := am_aR_s h
  obtain ⟨a, vs1, rfl, h1⟩ := am_aI_s h0
  obtain ⟨b, vs2, rfl, h2⟩ := am_aI_s h1
  obtain ⟨rfl, hz⟩ := am_a0_s h2
  refine ⟨Nat.le_of_ble_eq_true rfl, fun X C hG hr => ?_⟩
  have h := hz
  unfold fn7 at h
  exact (show am_W X C 7 _ 0 0 0 [(0, .inr (.inr (10, o))), (1, .inl a), (2, .inl b)] [] μ from (am_c_iload_n hG (pc := 0) d7_0 rfl (am_c_bipush hG (pc := 1) d7_1 (by decide) (x_icmp_lt (tgt := 24) hG (pc := 3) d7_3 rfl h (fun h => (am_c_iconst hG (pc := 24) d7_24 (by decide) (xq_zret0 hG (by decide) hr (pc := 25) d7_25 mr7 (am_q0 h)))) (fun h => (am_c_iload_n hG (pc := 6) d7_6 rfl (am_c_bipush hG (pc := 7) d7_7 (by decide) (x_icmp_gt (tgt := 24) hG (pc := 9) d7_9 rfl h (fun h => (am_c_iconst hG (pc := 24) d7_24 (by decide) (xq_zret0 hG (by decide) hr (pc := 25) d7_25 mr7 (am_q0 h)))) (fun h => (am_c_iload_n hG (pc := 12) d7_12 rfl (am_c_bipush hG (pc := 13) d7_13 (by decide) (x_icmp_lt (tgt := 24) hG (pc := 15) d7_15 rfl h (fun h => (am_c_iconst hG (pc := 24) d7_24 (by decide) (xq_zret0 hG (by decide) hr (pc := 25) d7_25 mr7 (am_q0 h)))) (fun h => (am_c_iload_n hG (pc := 18) d7_18 rfl (am_c_bipush hG (pc := 19) d7_19 (by decide) (x_icmp_le (tgt := 26) hG (pc := 21) d7_21 rfl h (fun h => (am_c_aload_n hG (pc := 26) d7_26 rfl (am_c_iload_n hG (pc := 27) d7_27 rfl (x_put_i hG (pc := 28) d7_28 mo7 f10_15 (by decide) (am_c_aload_n hG (pc := 31) d7_31 rfl (am_c_iload_n hG (pc := 32) d7_32 rfl (x_put_i hG (pc := 33) d7_33 mo7 f10_19 (by decide) (am_c_iconst hG (pc := 36) d7_36 (by decide) (xq_zret1 hG (by decide) hr (pc := 37) d7_37 mr7 (am_q0 h)))))))))) (fun h => (am_c_iconst hG (pc := 24) d7_24 (by decide) (xq_zret0 hG (by decide) hr (pc := 25) d7_25 mr7 (am_q0 h))))))))))))))))))))
/-! ChartPress.canvas(II)Z -/
theorem D8 (k : Nat) {pc : Nat} {i : Instr} (h : tbi8[k]? = some (pc, i)) (hs : am_isw i = false) {n : Nat} (hn : am_il i = n) : decode (am_mc 8) pc = .ok (i, n) := am_d2 (by decide) (by decide) rfl h hs hn
theorem d8_0 : decode (am_mc 8) 0 = .ok (.aload_n 0, 1) := D8 0 rfl rfl rfl
theorem d8_1 : decode (am_mc 8) 1 = .ok (.getfield 59, 3) := D8 1 rfl rfl rfl
theorem d8_4 : decode (am_mc 8) 4 = .ok (.iload_n 1, 1) := D8 2 rfl rfl rfl
theorem d8_5 : decode (am_mc 8) 5 = .ok (.iload_n 2, 1) := D8 3 rfl rfl rfl
theorem d8_6 : decode (am_mc 8) 6 = .ok (.invokevirtual 90, 3) := D8 4 rfl rfl rfl
theorem d8_9 : decode (am_mc 8) 9 = .ok (.ifCond .ne 5, 3) := D8 5 rfl rfl rfl
theorem d8_12 : decode (am_mc 8) 12 = .ok (.iconst 0, 1) := D8 6 rfl rfl rfl
theorem d8_13 : decode (am_mc 8) 13 = .ok (.ireturn, 1) := D8 7 rfl rfl rfl
theorem d8_14 : decode (am_mc 8) 14 = .ok (.aload_n 0, 1) := D8 8 rfl rfl rfl
theorem d8_15 : decode (am_mc 8) 15 = .ok (.iconst 0, 1) := D8 9 rfl rfl rfl
theorem d8_16 : decode (am_mc 8) 16 = .ok (.putfield 79, 3) := D8 10 rfl rfl rfl
theorem d8_19 : decode (am_mc 8) 19 = .ok (.iconst 1, 1) := D8 11 rfl rfl rfl
theorem d8_20 : decode (am_mc 8) 20 = .ok (.ireturn, 1) := D8 12 rfl rfl rfl
theorem ml8 : ∀ n, n < 3 → n < am_ml 8 := fun _ h => h
theorem mo8 : am_mo 8 = 0 := by decide +kernel
theorem mr8 : am_mr 8 = some .boolean := by decide +kernel
theorem rg8 : am_rcg 8 = 1 := by decide +kernel
theorem f0_59 : tb_f 0 59 = some (0, 7, 5, 10) := by decide +kernel
theorem f0_79 : tb_f 0 79 = some (0, 11, 2, 0) := by decide +kernel
theorem m0_90 : tb_m 0 90 = some (7, 3, 1, 0) := by decide +kernel
theorem dp8_7 : am_md 7 + 1 ≤ am_md 8 ∧ 8 + (am_ml 7 + 11) + am_lr 7 ≤ am_lr 8 := by decide +kernel
def fn8 (o : Nat) (a : Int) (b : Int) (μ : am_M) : Option (Int × am_M) := (am_op (fn7 (am_ref o 7) a b μ) (fun z1 => (if z1.1 = 0 then some (0, z1.2) else some (1, am_up z1.2 o 11 0))))
def sp8 : am_F := fun vs μ => am_aR 0 vs fun o vs => am_aI vs fun a vs => am_aI vs fun b vs => am_a0 vs (fn8 o a b μ)
theorem e8 (o : Nat) (a : Int) (b : Int) (μ : am_M) : sp8 [.inr (.inr (0, o)), .inl a, .inl b] μ = fn8 o a b μ := am_aR_c.trans (am_aI_c.trans (am_aI_c.trans am_a0_c))
theorem sd8 : am_Sd 8 sp8 := by
  refine am_Sd_of (by decide) (fun vs μ μ' x h hv hM => ?_)
  obtain ⟨o, vs0, rfl, h0⟩ := am_aR_s h
  obtain ⟨a, vs1, rfl, h1⟩ := am_aI_s h0
  obtain ⟨b, vs2, rfl, h2⟩ := am_aI_s h1
  obtain ⟨rfl, hz⟩ := am_a0_s h2
  refine ⟨Nat.le_of_ble_eq_true rfl, fun X C hG hr => ?_⟩
  have h := hz
  unfold fn8 at h
  exact (show am_W X C 8 _ 0 0 0 [(0, .inr (.inr (0, o))), (1, .inl a), (2, .inl b)] [] μ from (am_c_aload_n hG (pc := 0) d8_0 rfl (x_get_n (v := .inr (.inr (10, am_ref o 7))) hG (pc := 1) d8_1 mo8 f0_59 rfl (am_c_iload_n hG (pc := 4) d8_4 rfl (am_c_iload_n hG (pc := 5) d8_5 rfl (x_virtual_i (t := 10) (o := am_ref o 7) (as2 := [.inl a, .inl b]) (rest := []) hG (pc := 6) d8_6 mo8 m0_90 (by decide) dp8_7 rfl rfl (Nat.le_of_ble_eq_true rfl) (Nat.le_of_ble_eq_true rfl) rg7 sd7 (e7 _ _ _ _) h (fun z1 h => (x_if_ne (tgt := 14) hG (pc := 9) d8_9 rfl h (fun h => (am_c_aload_n hG (pc := 14) d8_14 rfl (am_c_iconst hG (pc := 15) d8_15 (by decide) (x_put_0 hG (pc := 16) d8_16 mo8 f0_79 (by decide) (am_c_iconst hG (pc := 19) d8_19 (by decide) (xq_zret1 hG (by decide) hr (pc := 20) d8_20 mr8 (am_q0 h))))))) (fun h => (am_c_iconst hG (pc := 12) d8_12 (by decide) (xq_zret0 hG (by decide) hr (pc := 13) d8_13 mr8 (am_q0 h))))))))))))
/-! ChartPress$Sheet.has(II)Z -/
theorem D9 (k : Nat) {pc : Nat} {i : Instr} (h : tbi9[k]? = some (pc, i)) (hs : am_isw i = false) {n : Nat} (hn : am_il i = n) : decode (am_mc 9) pc = .ok (i, n) := am_d2 (by decide) (by decide) rfl h hs hn
theorem d9_0 : decode (am_mc 9) 0 = .ok (.iload_n 1, 1) := D9 0 rfl rfl rfl
theorem d9_1 : decode (am_mc 9) 1 = .ok (.ifCond .lt 27, 3) := D9 1 rfl rfl rfl
theorem d9_4 : decode (am_mc 9) 4 = .ok (.iload_n 1, 1) := D9 2 rfl rfl rfl
theorem d9_5 : decode (am_mc 9) 5 = .ok (.aload_n 0, 1) := D9 3 rfl rfl rfl
theorem d9_6 : decode (am_mc 9) 6 = .ok (.getfield 15, 3) := D9 4 rfl rfl rfl
theorem d9_9 : decode (am_mc 9) 9 = .ok (.if_icmp .ge 19, 3) := D9 5 rfl rfl rfl
theorem d9_12 : decode (am_mc 9) 12 = .ok (.iload_n 2, 1) := D9 6 rfl rfl rfl
theorem d9_13 : decode (am_mc 9) 13 = .ok (.ifCond .lt 15, 3) := D9 7 rfl rfl rfl
theorem d9_16 : decode (am_mc 9) 16 = .ok (.iload_n 2, 1) := D9 8 rfl rfl rfl
theorem d9_17 : decode (am_mc 9) 17 = .ok (.aload_n 0, 1) := D9 9 rfl rfl rfl
theorem d9_18 : decode (am_mc 9) 18 = .ok (.getfield 19, 3) := D9 10 rfl rfl rfl
theorem d9_21 : decode (am_mc 9) 21 = .ok (.if_icmp .ge 7, 3) := D9 11 rfl rfl rfl
theorem d9_24 : decode (am_mc 9) 24 = .ok (.iconst 1, 1) := D9 12 rfl rfl rfl
theorem d9_25 : decode (am_mc 9) 25 = .ok (.goto 4, 3) := D9 13 rfl rfl rfl
theorem d9_28 : decode (am_mc 9) 28 = .ok (.iconst 0, 1) := D9 14 rfl rfl rfl
theorem d9_29 : decode (am_mc 9) 29 = .ok (.ireturn, 1) := D9 15 rfl rfl rfl
theorem ml9 : ∀ n, n < 3 → n < am_ml 9 := fun _ h => h
theorem mo9 : am_mo 9 = 10 := by decide +kernel
theorem mr9 : am_mr 9 = some .boolean := by decide +kernel
theorem rg9 : am_rcg 9 = 11 := by decide +kernel
def fn9 (o : Nat) (a : Int) (b : Int) (μ : am_M) : Option (Int × am_M) := (if a < 0 then some (0, μ) else (if a < μ o 1 then (if b < 0 then some (0, μ) else (if b < μ o 2 then some (1, μ) else some (0, μ))) else some (0, μ)))
def sp9 : am_F := fun vs μ => am_aR 10 vs fun o vs => am_aI vs fun a vs => am_aI vs fun b vs => am_a0 vs (fn9 o a b μ)
theorem e9 (o : Nat) (a : Int) (b : Int) (μ : am_M) : sp9 [.inr (.inr (10, o)), .inl a, .inl b] μ = fn9 o a b μ := am_aR_c.trans (am_aI_c.trans (am_aI_c.trans am_a0_c))
theorem sd9 : am_Sd 9 sp9 := by
  refine am_Sd_of (by decide) (fun vs μ μ' x h hv hM => ?_)
  obtain ⟨o, vs0, rfl, h0⟩ := am_aR_s h
  obtain ⟨a, vs1, rfl, h1⟩ := am_aI_s h0
  obtain ⟨b, vs2, rfl, h2⟩ := am_aI_s h1
  obtain ⟨rfl, hz⟩ := am_a0_s h2
  refine ⟨Nat.le_of_ble_eq_true rfl, fun X C hG hr => ?_⟩
  have h := hz
  unfold fn9 at h
  exact (show am_W X C 9 _ 0 0 0 [(0, .inr (.inr (10, o))), (1, .inl a), (2, .inl b)] [] μ from (am_c_iload_n hG (pc := 0) d9_0 rfl (x_if_lt (tgt := 28) hG (pc := 1) d9_1 rfl h (fun h => (am_c_iconst hG (pc := 28) d9_28 (by decide) (xq_zret0 hG (by decide) hr (pc := 29) d9_29 mr9 (am_q0 h)))) (fun h => (am_c_iload_n hG (pc := 4) d9_4 rfl (am_c_aload_n hG (pc := 5) d9_5 rfl (x_get_n (v := .inl (μ o 1)) hG (pc := 6) d9_6 mo9 f10_15 rfl (x_icmp_ge (tgt := 28) hG (pc := 9) d9_9 rfl h (fun h => (am_c_iconst hG (pc := 28) d9_28 (by decide) (xq_zret0 hG (by decide) hr (pc := 29) d9_29 mr9 (am_q0 h)))) (fun h => (am_c_iload_n hG (pc := 12) d9_12 rfl (x_if_lt (tgt := 28) hG (pc := 13) d9_13 rfl h (fun h => (am_c_iconst hG (pc := 28) d9_28 (by decide) (xq_zret0 hG (by decide) hr (pc := 29) d9_29 mr9 (am_q0 h)))) (fun h => (am_c_iload_n hG (pc := 16) d9_16 rfl (am_c_aload_n hG (pc := 17) d9_17 rfl (x_get_n (v := .inl (μ o 2)) hG (pc := 18) d9_18 mo9 f10_19 rfl (x_icmp_ge (tgt := 28) hG (pc := 21) d9_21 rfl h (fun h => (am_c_iconst hG (pc := 28) d9_28 (by decide) (xq_zret0 hG (by decide) hr (pc := 29) d9_29 mr9 (am_q0 h)))) (fun h => (am_c_iconst hG (pc := 24) d9_24 (by decide) (x_goto (tgt := 29) hG (pc := 25) d9_25 rfl (xq_zret1 hG (by decide) hr (pc := 29) d9_29 mr9 (am_q0 h)))))))))))))))))))))
/-! ChartPress$Sheet.at(II)I -/
theorem D10 (k : Nat) {pc : Nat} {i : Instr} (h : tbi10[k]? = some (pc, i)) (hs : am_isw i = false) {n : Nat} (hn : am_il i = n) : decode (am_mc 10) pc = .ok (i, n) := am_d2 (by decide) (by decide) rfl h hs hn
theorem d10_0 : decode (am_mc 10) 0 = .ok (.aload_n 0, 1) := D10 0 rfl rfl rfl
theorem d10_1 : decode (am_mc 10) 1 = .ok (.iload_n 1, 1) := D10 1 rfl rfl rfl
theorem d10_2 : decode (am_mc 10) 2 = .ok (.iload_n 2, 1) := D10 2 rfl rfl rfl
theorem d10_3 : decode (am_mc 10) 3 = .ok (.invokevirtual 22, 3) := D10 3 rfl rfl rfl
theorem d10_6 : decode (am_mc 10) 6 = .ok (.ifCond .eq 17, 3) := D10 4 rfl rfl rfl
theorem d10_9 : decode (am_mc 10) 9 = .ok (.aload_n 0, 1) := D10 5 rfl rfl rfl
theorem d10_10 : decode (am_mc 10) 10 = .ok (.getfield 11, 3) := D10 6 rfl rfl rfl
theorem d10_13 : decode (am_mc 10) 13 = .ok (.iload_n 2, 1) := D10 7 rfl rfl rfl
theorem d10_14 : decode (am_mc 10) 14 = .ok (.bipush 96, 2) := D10 8 rfl rfl rfl
theorem d10_16 : decode (am_mc 10) 16 = .ok (.imul, 1) := D10 9 rfl rfl rfl
theorem d10_17 : decode (am_mc 10) 17 = .ok (.iload_n 1, 1) := D10 10 rfl rfl rfl
theorem d10_18 : decode (am_mc 10) 18 = .ok (.iadd, 1) := D10 11 rfl rfl rfl
theorem d10_19 : decode (am_mc 10) 19 = .ok (.baload, 1) := D10 12 rfl rfl rfl
theorem d10_20 : decode (am_mc 10) 20 = .ok (.goto 4, 3) := D10 13 rfl rfl rfl
theorem d10_23 : decode (am_mc 10) 23 = .ok (.iconst (-1), 1) := D10 14 rfl rfl rfl
theorem d10_24 : decode (am_mc 10) 24 = .ok (.ireturn, 1) := D10 15 rfl rfl rfl
theorem ml10 : ∀ n, n < 3 → n < am_ml 10 := fun _ h => h
theorem mo10 : am_mo 10 = 10 := by decide +kernel
theorem mr10 : am_mr 10 = some .int := by decide +kernel
theorem rg10 : am_rcg 10 = 11 := by decide +kernel
theorem f10_11 : tb_f 10 11 = some (10, 0, 5, 19) := by decide +kernel
theorem m10_22 : tb_m 10 22 = some (9, 3, 1, 0) := by decide +kernel
theorem dp10_9 : am_md 9 + 1 ≤ am_md 10 ∧ 8 + (am_ml 9 + 11) + am_lr 9 ≤ am_lr 10 := by decide +kernel
def fn10 (o : Nat) (a : Int) (b : Int) (μ : am_M) : Option (Int × am_M) := (am_op (fn9 o a b μ) (fun z1 => (if z1.1 = 0 then some ((-1), z1.2) else (if (0 : Int) ≤ w32 ((w32 (b * 96)) + a) ∧ w32 ((w32 (b * 96)) + a) < ((am_len (am_ref o 0) : Nat) : Int) then some (z1.2 (am_ref o 0) (w32 ((w32 (b * 96)) + a) : Int).toNat, z1.2) else none))))
def sp10 : am_F := fun vs μ => am_aR 10 vs fun o vs => am_aI vs fun a vs => am_aI vs fun b vs => am_a0 vs (fn10 o a b μ)
theorem e10 (o : Nat) (a : Int) (b : Int) (μ : am_M) : sp10 [.inr (.inr (10, o)), .inl a, .inl b] μ = fn10 o a b μ := am_aR_c.trans (am_aI_c.trans (am_aI_c.trans am_a0_c))
theorem sd10 : am_Sd 10 sp10 := by
  refine am_Sd_of (by decide) (fun vs μ μ' x h hv hM => ?_)
  obtain ⟨o, vs0, rfl, h0⟩ := am_aR_s h
  obtain ⟨a, vs1, rfl, h1⟩ := am_aI_s h0
  obtain ⟨b, vs2, rfl, h2⟩ := am_aI_s h1
  obtain ⟨rfl, hz⟩ := am_a0_s h2
  refine ⟨Nat.le_of_ble_eq_true rfl, fun X C hG hr => ?_⟩
  have h := hz
  unfold fn10 at h
  exact (show am_W X C 10 _ 0 0 0 [(0, .inr (.inr (10, o))), (1, .inl a), (2, .inl b)] [] μ from (am_c_aload_n hG (pc := 0) d10_0 rfl (am_c_iload_n hG (pc := 1) d10_1 rfl (am_c_iload_n hG (pc := 2) d10_2 rfl (x_virtual_i (t := 10) (o := o) (as2 := [.inl a, .inl b]) (rest := []) hG (pc := 3) d10_3 mo10 m10_22 (by decide) dp10_9 rfl rfl (Nat.le_of_ble_eq_true rfl) (Nat.le_of_ble_eq_true rfl) rg9 sd9 (e9 _ _ _ _) h (fun z1 h => (x_if_eq (tgt := 23) hG (pc := 6) d10_6 rfl h (fun h => (am_c_iconst hG (pc := 23) d10_23 (by decide) (xq_iret hG (by decide) hr (pc := 24) d10_24 mr10 (am_q0 h)))) (fun h => (am_c_aload_n hG (pc := 9) d10_9 rfl (x_get_n (v := .inr (.inr (19, am_ref o 0))) hG (pc := 10) d10_10 mo10 f10_11 rfl (am_c_iload_n hG (pc := 13) d10_13 rfl (am_c_bipush hG (pc := 14) d10_14 (by decide) (am_c_imul hG (pc := 16) d10_16 (am_c_iload_n hG (pc := 17) d10_17 rfl (am_c_iadd hG (pc := 18) d10_18 (x_baload hG (pc := 19) d10_19 h (fun h => (x_goto (tgt := 24) hG (pc := 20) d10_20 rfl (xq_iret hG (by decide) hr (pc := 24) d10_24 mr10 (am_q0 h))))))))))))))))))))
/-! ChartPress.pixel(II)I -/
theorem D11 (k : Nat) {pc : Nat} {i : Instr} (h : tbi11[k]? = some (pc, i)) (hs : am_isw i = false) {n : Nat} (hn : am_il i = n) : decode (am_mc 11) pc = .ok (i, n) := am_d2 (by decide) (by decide) rfl h hs hn
theorem d11_0 : decode (am_mc 11) 0 = .ok (.aload_n 0, 1) := D11 0 rfl rfl rfl
theorem d11_1 : decode (am_mc 11) 1 = .ok (.getfield 79, 3) := D11 1 rfl rfl rfl
theorem d11_4 : decode (am_mc 11) 4 = .ok (.ifCond .eq 27, 3) := D11 2 rfl rfl rfl
theorem d11_7 : decode (am_mc 11) 7 = .ok (.aload_n 0, 1) := D11 3 rfl rfl rfl
theorem d11_8 : decode (am_mc 11) 8 = .ok (.getfield 59, 3) := D11 4 rfl rfl rfl
theorem d11_11 : decode (am_mc 11) 11 = .ok (.iload_n 1, 1) := D11 5 rfl rfl rfl
theorem d11_12 : decode (am_mc 11) 12 = .ok (.iload_n 2, 1) := D11 6 rfl rfl rfl
theorem d11_13 : decode (am_mc 11) 13 = .ok (.invokevirtual 157, 3) := D11 7 rfl rfl rfl
theorem d11_16 : decode (am_mc 11) 16 = .ok (.ifCond .eq 15, 3) := D11 8 rfl rfl rfl
theorem d11_19 : decode (am_mc 11) 19 = .ok (.aload_n 0, 1) := D11 9 rfl rfl rfl
theorem d11_20 : decode (am_mc 11) 20 = .ok (.getfield 59, 3) := D11 10 rfl rfl rfl
theorem d11_23 : decode (am_mc 11) 23 = .ok (.iload_n 1, 1) := D11 11 rfl rfl rfl
theorem d11_24 : decode (am_mc 11) 24 = .ok (.iload_n 2, 1) := D11 12 rfl rfl rfl
theorem d11_25 : decode (am_mc 11) 25 = .ok (.invokevirtual 160, 3) := D11 13 rfl rfl rfl
theorem d11_28 : decode (am_mc 11) 28 = .ok (.goto 4, 3) := D11 14 rfl rfl rfl
theorem d11_31 : decode (am_mc 11) 31 = .ok (.iconst (-1), 1) := D11 15 rfl rfl rfl
theorem d11_32 : decode (am_mc 11) 32 = .ok (.ireturn, 1) := D11 16 rfl rfl rfl
theorem ml11 : ∀ n, n < 3 → n < am_ml 11 := fun _ h => h
theorem mo11 : am_mo 11 = 0 := by decide +kernel
theorem mr11 : am_mr 11 = some .int := by decide +kernel
theorem rg11 : am_rcg 11 = 1 := by decide +kernel
theorem m0_157 : tb_m 0 157 = some (9, 3, 1, 0) := by decide +kernel
theorem m0_160 : tb_m 0 160 = some (10, 3, 1, 0) := by decide +kernel
theorem dp11_9 : am_md 9 + 1 ≤ am_md 11 ∧ 8 + (am_ml 9 + 11) + am_lr 9 ≤ am_lr 11 := by decide +kernel
theorem dp11_10 : am_md 10 + 1 ≤ am_md 11 ∧ 8 + (am_ml 10 + 11) + am_lr 10 ≤ am_lr 11 := by decide +kernel
def fn11 (o : Nat) (a : Int) (b : Int) (μ : am_M) : Option (Int × am_M) := (if μ o 11 = 0 then some ((-1), μ) else (am_op (fn9 (am_ref o 7) a b μ) (fun z1 => (if z1.1 = 0 then some ((-1), z1.2) else (am_op (fn10 (am_ref o 7) a b z1.2) (fun z2 => some (z2.1, z2.2)))))))
def sp11 : am_F := fun vs μ => am_aR 0 vs fun o vs => am_aI vs fun a vs => am_aI vs fun b vs => am_a0 vs (fn11 o a b μ)
theorem e11 (o : Nat) (a : Int) (b : Int) (μ : am_M) : sp11 [.inr (.inr (0, o)), .inl a, .inl b] μ = fn11 o a b μ := am_aR_c.trans (am_aI_c.trans (am_aI_c.trans am_a0_c))
theorem sd11 : am_Sd 11 sp11 := by
  refine am_Sd_of (by decide) (fun vs μ μ' x h hv hM => ?_)
  obtain ⟨o, vs0, rfl, h0⟩ := am_aR_s h
  obtain ⟨a, vs1, rfl, h1⟩ := am_aI_s h0
  obtain ⟨b, vs2, rfl, h2⟩ := am_aI_s h1
  obtain ⟨rfl, hz⟩ := am_a0_s h2
  refine ⟨Nat.le_of_ble_eq_true rfl, fun X C hG hr => ?_⟩
  have h := hz
  unfold fn11 at h
  exact (show am_W X C 11 _ 0 0 0 [(0, .inr (.inr (0, o))), (1, .inl a), (2, .inl b)] [] μ from (am_c_aload_n hG (pc := 0) d11_0 rfl (x_get_n (v := .inl (μ o 11)) hG (pc := 1) d11_1 mo11 f0_79 rfl (x_if_eq (tgt := 31) hG (pc := 4) d11_4 rfl h (fun h => (am_c_iconst hG (pc := 31) d11_31 (by decide) (xq_iret hG (by decide) hr (pc := 32) d11_32 mr11 (am_q0 h)))) (fun h => (am_c_aload_n hG (pc := 7) d11_7 rfl (x_get_n (v := .inr (.inr (10, am_ref o 7))) hG (pc := 8) d11_8 mo11 f0_59 rfl (am_c_iload_n hG (pc := 11) d11_11 rfl (am_c_iload_n hG (pc := 12) d11_12 rfl (x_virtual_i (t := 10) (o := am_ref o 7) (as2 := [.inl a, .inl b]) (rest := []) hG (pc := 13) d11_13 mo11 m0_157 (by decide) dp11_9 rfl rfl (Nat.le_of_ble_eq_true rfl) (Nat.le_of_ble_eq_true rfl) rg9 sd9 (e9 _ _ _ _) h (fun z1 h => (x_if_eq (tgt := 31) hG (pc := 16) d11_16 rfl h (fun h => (am_c_iconst hG (pc := 31) d11_31 (by decide) (xq_iret hG (by decide) hr (pc := 32) d11_32 mr11 (am_q0 h)))) (fun h => (am_c_aload_n hG (pc := 19) d11_19 rfl (x_get_n (v := .inr (.inr (10, am_ref o 7))) hG (pc := 20) d11_20 mo11 f0_59 rfl (am_c_iload_n hG (pc := 23) d11_23 rfl (am_c_iload_n hG (pc := 24) d11_24 rfl (x_virtual_i (t := 10) (o := am_ref o 7) (as2 := [.inl a, .inl b]) (rest := []) hG (pc := 25) d11_25 mo11 m0_160 (by decide) dp11_10 rfl rfl (Nat.le_of_ble_eq_true rfl) (Nat.le_of_ble_eq_true rfl) rg10 sd10 (e10 _ _ _ _) h (fun z2 h => (x_goto (tgt := 32) hG (pc := 28) d11_28 rfl (xq_iret hG (by decide) hr (pc := 32) d11_32 mr11 (am_q0 h))))))))))))))))))))))
/-! ChartPress.figure(I)J -/
theorem D12 (k : Nat) {pc : Nat} {i : Instr} (h : tbi12[k]? = some (pc, i)) (hs : am_isw i = false) {n : Nat} (hn : am_il i = n) : decode (am_mc 12) pc = .ok (i, n) := am_d2 (by decide) (by decide) rfl h hs hn
theorem d12_0 : decode (am_mc 12) 0 = .ok (.aload_n 0, 1) := D12 0 rfl rfl rfl
theorem d12_1 : decode (am_mc 12) 1 = .ok (.getfield 79, 3) := D12 1 rfl rfl rfl
theorem d12_4 : decode (am_mc 12) 4 = .ok (.ifCond .eq 25, 3) := D12 2 rfl rfl rfl
theorem d12_7 : decode (am_mc 12) 7 = .ok (.iload_n 1, 1) := D12 3 rfl rfl rfl
theorem d12_8 : decode (am_mc 12) 8 = .ok (.ifCond .lt 21, 3) := D12 4 rfl rfl rfl
theorem d12_11 : decode (am_mc 12) 11 = .ok (.iload_n 1, 1) := D12 5 rfl rfl rfl
theorem d12_12 : decode (am_mc 12) 12 = .ok (.aload_n 0, 1) := D12 6 rfl rfl rfl
theorem d12_13 : decode (am_mc 12) 13 = .ok (.getfield 72, 3) := D12 7 rfl rfl rfl
theorem d12_16 : decode (am_mc 12) 16 = .ok (.arraylength, 1) := D12 8 rfl rfl rfl
theorem d12_17 : decode (am_mc 12) 17 = .ok (.if_icmp .ge 12, 3) := D12 9 rfl rfl rfl
theorem d12_20 : decode (am_mc 12) 20 = .ok (.aload_n 0, 1) := D12 10 rfl rfl rfl
theorem d12_21 : decode (am_mc 12) 21 = .ok (.getfield 72, 3) := D12 11 rfl rfl rfl
theorem d12_24 : decode (am_mc 12) 24 = .ok (.iload_n 1, 1) := D12 12 rfl rfl rfl
theorem d12_25 : decode (am_mc 12) 25 = .ok (.laload, 1) := D12 13 rfl rfl rfl
theorem d12_26 : decode (am_mc 12) 26 = .ok (.goto 6, 3) := D12 14 rfl rfl rfl
theorem d12_29 : decode (am_mc 12) 29 = .ok (.ldc2_w 164, 3) := D12 15 rfl rfl rfl
theorem d12_32 : decode (am_mc 12) 32 = .ok (.lreturn, 1) := D12 16 rfl rfl rfl
theorem ml12 : ∀ n, n < 2 → n < am_ml 12 := fun _ h => h
theorem mo12 : am_mo 12 = 0 := by decide +kernel
theorem rk12 : am_rk 12 = 2 := by decide +kernel
theorem rg12 : am_rcg 12 = 1 := by decide +kernel
theorem f0_72 : tb_f 0 72 = some (0, 9, 5, 17) := by decide +kernel
def fn12 (o : Nat) (a : Int) (μ : am_M) : Option (Int × am_M) := (if μ o 11 = 0 then some ((-1), μ) else (if a < 0 then some ((-1), μ) else (if a < ((am_len (am_ref o 9) : Nat) : Int) then (if (0 : Int) ≤ a ∧ a < ((am_len (am_ref o 9) : Nat) : Int) then some (μ (am_ref o 9) (a : Int).toNat, μ) else none) else some ((-1), μ))))
def sp12 : am_F := fun vs μ => am_aR 0 vs fun o vs => am_aI vs fun a vs => am_a0 vs (fn12 o a μ)
theorem e12 (o : Nat) (a : Int) (μ : am_M) : sp12 [.inr (.inr (0, o)), .inl a] μ = fn12 o a μ := am_aR_c.trans (am_aI_c.trans am_a0_c)
theorem sd12 : am_Sd 12 sp12 := by
  refine am_Sd_of (by decide) (fun vs μ μ' x h hv hM => ?_)
  obtain ⟨o, vs0, rfl, h0⟩ := am_aR_s h
  obtain ⟨a, vs1, rfl, h1⟩ := am_aI_s h0
  obtain ⟨rfl, hz⟩ := am_a0_s h1
  refine ⟨Nat.le_of_ble_eq_true rfl, fun X C hG hr => ?_⟩
  have h := hz
  unfold fn12 at h
  exact (show am_W X C 12 _ 0 0 0 [(0, .inr (.inr (0, o))), (1, .inl a)] [] μ from (am_c_aload_n hG (pc := 0) d12_0 rfl (x_get_n (v := .inl (μ o 11)) hG (pc := 1) d12_1 mo12 f0_79 rfl (x_if_eq (tgt := 29) hG (pc := 4) d12_4 rfl h (fun h => (am_c_ldc2 hG (pc := 29) d12_29 (v := (-1)) (by decide +kernel) (xq_lret hG (by decide) hr (pc := 32) d12_32 rk12 (am_q0 h)))) (fun h => (am_c_iload_n hG (pc := 7) d12_7 rfl (x_if_lt (tgt := 29) hG (pc := 8) d12_8 rfl h (fun h => (am_c_ldc2 hG (pc := 29) d12_29 (v := (-1)) (by decide +kernel) (xq_lret hG (by decide) hr (pc := 32) d12_32 rk12 (am_q0 h)))) (fun h => (am_c_iload_n hG (pc := 11) d12_11 rfl (am_c_aload_n hG (pc := 12) d12_12 rfl (x_get_n (v := .inr (.inr (17, am_ref o 9))) hG (pc := 13) d12_13 mo12 f0_72 rfl (am_c_len hG (pc := 16) d12_16 (by decide) (x_icmp_ge (tgt := 29) hG (pc := 17) d12_17 rfl h (fun h => (am_c_ldc2 hG (pc := 29) d12_29 (v := (-1)) (by decide +kernel) (xq_lret hG (by decide) hr (pc := 32) d12_32 rk12 (am_q0 h)))) (fun h => (am_c_aload_n hG (pc := 20) d12_20 rfl (x_get_n (v := .inr (.inr (17, am_ref o 9))) hG (pc := 21) d12_21 mo12 f0_72 rfl (am_c_iload_n hG (pc := 24) d12_24 rfl (x_laload hG (pc := 25) d12_25 h (fun h => (x_goto (tgt := 32) hG (pc := 26) d12_26 rfl (xq_lret hG (by decide) hr (pc := 32) d12_32 rk12 (am_q0 h))))))))))))))))))))))
/-! ChartPress$Table.forget()V -/
theorem D13 (k : Nat) {pc : Nat} {i : Instr} (h : tbi13[k]? = some (pc, i)) (hs : am_isw i = false) {n : Nat} (hn : am_il i = n) : decode (am_mc 13) pc = .ok (i, n) := am_d2 (by decide) (by decide) rfl h hs hn
theorem d13_0 : decode (am_mc 13) 0 = .ok (.aload_n 0, 1) := D13 0 rfl rfl rfl
theorem d13_1 : decode (am_mc 13) 1 = .ok (.iconst 0, 1) := D13 1 rfl rfl rfl
theorem d13_2 : decode (am_mc 13) 2 = .ok (.putfield 66, 3) := D13 2 rfl rfl rfl
theorem d13_5 : decode (am_mc 13) 5 = .ok (.aload_n 0, 1) := D13 3 rfl rfl rfl
theorem d13_6 : decode (am_mc 13) 6 = .ok (.iconst 0, 1) := D13 4 rfl rfl rfl
theorem d13_7 : decode (am_mc 13) 7 = .ok (.putfield 52, 3) := D13 5 rfl rfl rfl
theorem d13_10 : decode (am_mc 13) 10 = .ok (.aload_n 0, 1) := D13 6 rfl rfl rfl
theorem d13_11 : decode (am_mc 13) 11 = .ok (.iconst 0, 1) := D13 7 rfl rfl rfl
theorem d13_12 : decode (am_mc 13) 12 = .ok (.putfield 56, 3) := D13 8 rfl rfl rfl
theorem d13_15 : decode (am_mc 13) 15 = .ok (.aload_n 0, 1) := D13 9 rfl rfl rfl
theorem d13_16 : decode (am_mc 13) 16 = .ok (.iconst 0, 1) := D13 10 rfl rfl rfl
theorem d13_17 : decode (am_mc 13) 17 = .ok (.putfield 69, 3) := D13 11 rfl rfl rfl
theorem d13_20 : decode (am_mc 13) 20 = .ok (.aload_n 0, 1) := D13 12 rfl rfl rfl
theorem d13_21 : decode (am_mc 13) 21 = .ok (.iconst 0, 1) := D13 13 rfl rfl rfl
theorem d13_22 : decode (am_mc 13) 22 = .ok (.putfield 72, 3) := D13 14 rfl rfl rfl
theorem d13_25 : decode (am_mc 13) 25 = .ok (.aload_n 0, 1) := D13 15 rfl rfl rfl
theorem d13_26 : decode (am_mc 13) 26 = .ok (.iconst 0, 1) := D13 16 rfl rfl rfl
theorem d13_27 : decode (am_mc 13) 27 = .ok (.putfield 35, 3) := D13 17 rfl rfl rfl
theorem d13_30 : decode (am_mc 13) 30 = .ok (.aload_n 0, 1) := D13 18 rfl rfl rfl
theorem d13_31 : decode (am_mc 13) 31 = .ok (.iconst 1, 1) := D13 19 rfl rfl rfl
theorem d13_32 : decode (am_mc 13) 32 = .ok (.putfield 46, 3) := D13 20 rfl rfl rfl
theorem d13_35 : decode (am_mc 13) 35 = .ok (.aload_n 0, 1) := D13 21 rfl rfl rfl
theorem d13_36 : decode (am_mc 13) 36 = .ok (.iconst 1, 1) := D13 22 rfl rfl rfl
theorem d13_37 : decode (am_mc 13) 37 = .ok (.putfield 49, 3) := D13 23 rfl rfl rfl
theorem d13_40 : decode (am_mc 13) 40 = .ok (.return_, 1) := D13 24 rfl rfl rfl
theorem ml13 : ∀ n, n < 1 → n < am_ml 13 := fun _ h => h
theorem mo13 : am_mo 13 = 2 := by decide +kernel
theorem rk13 : am_rk 13 = 0 := by decide +kernel
theorem rg13 : am_rcg 13 = 3 := by decide +kernel
theorem f2_35 : tb_f 2 35 = some (2, 9, 2, 0) := by decide +kernel
theorem f2_46 : tb_f 2 46 = some (2, 10, 2, 0) := by decide +kernel
theorem f2_49 : tb_f 2 49 = some (2, 11, 2, 0) := by decide +kernel
theorem f2_52 : tb_f 2 52 = some (2, 5, 0, 0) := by decide +kernel
theorem f2_56 : tb_f 2 56 = some (2, 6, 0, 0) := by decide +kernel
theorem f2_66 : tb_f 2 66 = some (2, 4, 0, 0) := by decide +kernel
theorem f2_69 : tb_f 2 69 = some (2, 7, 0, 0) := by decide +kernel
theorem f2_72 : tb_f 2 72 = some (2, 8, 0, 0) := by decide +kernel
def fn13 (o : Nat) (μ : am_M) : Option (Int × am_M) := some (0, am_up (am_up (am_up (am_up (am_up (am_up (am_up (am_up μ o 4 0) o 5 0) o 6 0) o 7 0) o 8 0) o 9 0) o 10 1) o 11 1)
def sp13 : am_F := fun vs μ => am_aR 2 vs fun o vs => am_a0 vs (fn13 o μ)
theorem e13 (o : Nat) (μ : am_M) : sp13 [.inr (.inr (2, o))] μ = fn13 o μ := am_aR_c.trans am_a0_c
theorem sd13 : am_Sd 13 sp13 := by
  refine am_Sd_of (by decide) (fun vs μ μ' x h hv hM => ?_)
  obtain ⟨o, vs0, rfl, h0⟩ := am_aR_s h
  obtain ⟨rfl, hz⟩ := am_a0_s h0
  refine ⟨Nat.le_of_ble_eq_true rfl, fun X C hG hr => ?_⟩
  have h := hz
  unfold fn13 at h
  exact (show am_W X C 13 _ 0 0 0 [(0, .inr (.inr (2, o)))] [] μ from (am_c_aload_n hG (pc := 0) d13_0 rfl (am_c_iconst hG (pc := 1) d13_1 (by decide) (x_put_i hG (pc := 2) d13_2 mo13 f2_66 (by decide) (am_c_aload_n hG (pc := 5) d13_5 rfl (am_c_iconst hG (pc := 6) d13_6 (by decide) (x_put_i hG (pc := 7) d13_7 mo13 f2_52 (by decide) (am_c_aload_n hG (pc := 10) d13_10 rfl (am_c_iconst hG (pc := 11) d13_11 (by decide) (x_put_i hG (pc := 12) d13_12 mo13 f2_56 (by decide) (am_c_aload_n hG (pc := 15) d13_15 rfl (am_c_iconst hG (pc := 16) d13_16 (by decide) (x_put_i hG (pc := 17) d13_17 mo13 f2_69 (by decide) (am_c_aload_n hG (pc := 20) d13_20 rfl (am_c_iconst hG (pc := 21) d13_21 (by decide) (x_put_i hG (pc := 22) d13_22 mo13 f2_72 (by decide) (am_c_aload_n hG (pc := 25) d13_25 rfl (am_c_iconst hG (pc := 26) d13_26 (by decide) (x_put_0 hG (pc := 27) d13_27 mo13 f2_35 (by decide) (am_c_aload_n hG (pc := 30) d13_30 rfl (am_c_iconst hG (pc := 31) d13_31 (by decide) (x_put_1 hG (pc := 32) d13_32 mo13 f2_46 (by decide) (am_c_aload_n hG (pc := 35) d13_35 rfl (am_c_iconst hG (pc := 36) d13_36 (by decide) (x_put_1 hG (pc := 37) d13_37 mo13 f2_49 (by decide) (xq_vret hG (by decide) hr (pc := 40) d13_40 rk13 (am_q0 h)))))))))))))))))))))))))))
/-! ChartPress$Letters.clear()V -/
theorem D14 (k : Nat) {pc : Nat} {i : Instr} (h : tbi14[k]? = some (pc, i)) (hs : am_isw i = false) {n : Nat} (hn : am_il i = n) : decode (am_mc 14) pc = .ok (i, n) := am_d2 (by decide) (by decide) rfl h hs hn
theorem d14_0 : decode (am_mc 14) 0 = .ok (.aload_n 0, 1) := D14 0 rfl rfl rfl
theorem d14_1 : decode (am_mc 14) 1 = .ok (.iconst 0, 1) := D14 1 rfl rfl rfl
theorem d14_2 : decode (am_mc 14) 2 = .ok (.putfield 13, 3) := D14 2 rfl rfl rfl
theorem d14_5 : decode (am_mc 14) 5 = .ok (.return_, 1) := D14 3 rfl rfl rfl
theorem ml14 : ∀ n, n < 1 → n < am_ml 14 := fun _ h => h
theorem mo14 : am_mo 14 = 3 := by decide +kernel
theorem rk14 : am_rk 14 = 0 := by decide +kernel
theorem rg14 : am_rcg 14 = 4 := by decide +kernel
theorem f3_13 : tb_f 3 13 = some (3, 1, 0, 0) := by decide +kernel
def fn14 (o : Nat) (μ : am_M) : Option (Int × am_M) := some (0, am_up μ o 1 0)
def sp14 : am_F := fun vs μ => am_aR 3 vs fun o vs => am_a0 vs (fn14 o μ)
theorem e14 (o : Nat) (μ : am_M) : sp14 [.inr (.inr (3, o))] μ = fn14 o μ := am_aR_c.trans am_a0_c
theorem sd14 : am_Sd 14 sp14 := by
  refine am_Sd_of (by decide) (fun vs μ μ' x h hv hM => ?_)
  obtain ⟨o, vs0, rfl, h0⟩ := am_aR_s h
  obtain ⟨rfl, hz⟩ := am_a0_s h0
  refine ⟨Nat.le_of_ble_eq_true rfl, fun X C hG hr => ?_⟩
  have h := hz
  unfold fn14 at h
  exact (show am_W X C 14 _ 0 0 0 [(0, .inr (.inr (3, o)))] [] μ from (am_c_aload_n hG (pc := 0) d14_0 rfl (am_c_iconst hG (pc := 1) d14_1 (by decide) (x_put_i hG (pc := 2) d14_2 mo14 f3_13 (by decide) (xq_vret hG (by decide) hr (pc := 5) d14_5 rk14 (am_q0 h))))))
/-! ChartPress$Script.at(I)C -/
theorem D15 (k : Nat) {pc : Nat} {i : Instr} (h : tbi15[k]? = some (pc, i)) (hs : am_isw i = false) {n : Nat} (hn : am_il i = n) : decode (am_mc 15) pc = .ok (i, n) := am_d2 (by decide) (by decide) rfl h hs hn
theorem d15_0 : decode (am_mc 15) 0 = .ok (.iload_n 1, 1) := D15 0 rfl rfl rfl
theorem d15_1 : decode (am_mc 15) 1 = .ok (.ifCond .lt 20, 3) := D15 1 rfl rfl rfl
theorem d15_4 : decode (am_mc 15) 4 = .ok (.iload_n 1, 1) := D15 2 rfl rfl rfl
theorem d15_5 : decode (am_mc 15) 5 = .ok (.aload_n 0, 1) := D15 3 rfl rfl rfl
theorem d15_6 : decode (am_mc 15) 6 = .ok (.getfield 17, 3) := D15 4 rfl rfl rfl
theorem d15_9 : decode (am_mc 15) 9 = .ok (.if_icmp .ge 12, 3) := D15 5 rfl rfl rfl
theorem d15_12 : decode (am_mc 15) 12 = .ok (.aload_n 0, 1) := D15 6 rfl rfl rfl
theorem d15_13 : decode (am_mc 15) 13 = .ok (.getfield 7, 3) := D15 7 rfl rfl rfl
theorem d15_16 : decode (am_mc 15) 16 = .ok (.iload_n 1, 1) := D15 8 rfl rfl rfl
theorem d15_17 : decode (am_mc 15) 17 = .ok (.caload, 1) := D15 9 rfl rfl rfl
theorem d15_18 : decode (am_mc 15) 18 = .ok (.goto 4, 3) := D15 10 rfl rfl rfl
theorem d15_21 : decode (am_mc 15) 21 = .ok (.iconst 0, 1) := D15 11 rfl rfl rfl
theorem d15_22 : decode (am_mc 15) 22 = .ok (.ireturn, 1) := D15 12 rfl rfl rfl
theorem ml15 : ∀ n, n < 2 → n < am_ml 15 := fun _ h => h
theorem mo15 : am_mo 15 = 1 := by decide +kernel
theorem mr15 : am_mr 15 = some .char := by decide +kernel
theorem rg15 : am_rcg 15 = 2 := by decide +kernel
def fn15 (o : Nat) (a : Int) (μ : am_M) : Option (Int × am_M) := (if a < 0 then some (0, μ) else (if a < μ o 2 then (if (0 : Int) ≤ a ∧ a < ((am_len (am_ref o 0) : Nat) : Int) then (if (0 : Int) ≤ μ (am_ref o 0) (a : Int).toNat ∧ μ (am_ref o 0) (a : Int).toNat ≤ 65535 then some (μ (am_ref o 0) (a : Int).toNat, μ) else none) else none) else some (0, μ)))
def sp15 : am_F := fun vs μ => am_aR 1 vs fun o vs => am_aI vs fun a vs => am_a0 vs (fn15 o a μ)
theorem e15 (o : Nat) (a : Int) (μ : am_M) : sp15 [.inr (.inr (1, o)), .inl a] μ = fn15 o a μ := am_aR_c.trans (am_aI_c.trans am_a0_c)
theorem sd15 : am_Sd 15 sp15 := by
  refine am_Sd_of (by decide) (fun vs μ μ' x h hv hM => ?_)
  obtain ⟨o, vs0, rfl, h0⟩ := am_aR_s h
  obtain ⟨a, vs1, rfl, h1⟩ := am_aI_s h0
  obtain ⟨rfl, hz⟩ := am_a0_s h1
  refine ⟨Nat.le_of_ble_eq_true rfl, fun X C hG hr => ?_⟩
  have h := hz
  unfold fn15 at h
  exact (show am_W X C 15 _ 0 0 0 [(0, .inr (.inr (1, o))), (1, .inl a)] [] μ from (am_c_iload_n hG (pc := 0) d15_0 rfl (x_if_lt (tgt := 21) hG (pc := 1) d15_1 rfl h (fun h => (am_c_iconst hG (pc := 21) d15_21 (by decide) (xq_cret0 hG (by decide) hr (pc := 22) d15_22 mr15 (am_q0 h)))) (fun h => (am_c_iload_n hG (pc := 4) d15_4 rfl (am_c_aload_n hG (pc := 5) d15_5 rfl (x_get_n (v := .inl (μ o 2)) hG (pc := 6) d15_6 mo15 f1_17 rfl (x_icmp_ge (tgt := 21) hG (pc := 9) d15_9 rfl h (fun h => (am_c_iconst hG (pc := 21) d15_21 (by decide) (xq_cret0 hG (by decide) hr (pc := 22) d15_22 mr15 (am_q0 h)))) (fun h => (am_c_aload_n hG (pc := 12) d15_12 rfl (x_get_n (v := .inr (.inr (18, am_ref o 0))) hG (pc := 13) d15_13 mo15 f1_7 rfl (am_c_iload_n hG (pc := 16) d15_16 rfl (x_caload hG (pc := 17) d15_17 h (fun h => (x_goto (tgt := 22) hG (pc := 18) d15_18 rfl (xq_cret hG (by decide) hr (pc := 22) d15_22 mr15 h (fun h => (am_q0 h))))))))))))))))))
/-! ChartPress$Script.length()I -/
theorem D16 (k : Nat) {pc : Nat} {i : Instr} (h : tbi16[k]? = some (pc, i)) (hs : am_isw i = false) {n : Nat} (hn : am_il i = n) : decode (am_mc 16) pc = .ok (i, n) := am_d2 (by decide) (by decide) rfl h hs hn
theorem d16_0 : decode (am_mc 16) 0 = .ok (.aload_n 0, 1) := D16 0 rfl rfl rfl
theorem d16_1 : decode (am_mc 16) 1 = .ok (.getfield 17, 3) := D16 1 rfl rfl rfl
theorem d16_4 : decode (am_mc 16) 4 = .ok (.ireturn, 1) := D16 2 rfl rfl rfl
theorem ml16 : ∀ n, n < 1 → n < am_ml 16 := fun _ h => h
theorem mo16 : am_mo 16 = 1 := by decide +kernel
theorem mr16 : am_mr 16 = some .int := by decide +kernel
theorem rg16 : am_rcg 16 = 2 := by decide +kernel
def fn16 (o : Nat) (μ : am_M) : Option (Int × am_M) := some (μ o 2, μ)
def sp16 : am_F := fun vs μ => am_aR 1 vs fun o vs => am_a0 vs (fn16 o μ)
theorem e16 (o : Nat) (μ : am_M) : sp16 [.inr (.inr (1, o))] μ = fn16 o μ := am_aR_c.trans am_a0_c
theorem sd16 : am_Sd 16 sp16 := by
  refine am_Sd_of (by decide) (fun vs μ μ' x h hv hM => ?_)
  obtain ⟨o, vs0, rfl, h0⟩ := am_aR_s h
  obtain ⟨rfl, hz⟩ := am_a0_s h0
  refine ⟨Nat.le_of_ble_eq_true rfl, fun X C hG hr => ?_⟩
  have h := hz
  unfold fn16 at h
  exact (show am_W X C 16 _ 0 0 0 [(0, .inr (.inr (1, o)))] [] μ from (am_c_aload_n hG (pc := 0) d16_0 rfl (x_get_n (v := .inl (μ o 2)) hG (pc := 1) d16_1 mo16 f1_17 rfl (xq_iret hG (by decide) hr (pc := 4) d16_4 mr16 (am_q0 h)))))
/-! ChartPress$Letters.add(C)V -/
theorem D17 (k : Nat) {pc : Nat} {i : Instr} (h : tbi17[k]? = some (pc, i)) (hs : am_isw i = false) {n : Nat} (hn : am_il i = n) : decode (am_mc 17) pc = .ok (i, n) := am_d2 (by decide) (by decide) rfl h hs hn
theorem d17_0 : decode (am_mc 17) 0 = .ok (.aload_n 0, 1) := D17 0 rfl rfl rfl
theorem d17_1 : decode (am_mc 17) 1 = .ok (.getfield 13, 3) := D17 1 rfl rfl rfl
theorem d17_4 : decode (am_mc 17) 4 = .ok (.aload_n 0, 1) := D17 2 rfl rfl rfl
theorem d17_5 : decode (am_mc 17) 5 = .ok (.getfield 7, 3) := D17 3 rfl rfl rfl
theorem d17_8 : decode (am_mc 17) 8 = .ok (.arraylength, 1) := D17 4 rfl rfl rfl
theorem d17_9 : decode (am_mc 17) 9 = .ok (.if_icmp .ge 13, 3) := D17 5 rfl rfl rfl
theorem d17_12 : decode (am_mc 17) 12 = .ok (.aload_n 0, 1) := D17 6 rfl rfl rfl
theorem d17_13 : decode (am_mc 17) 13 = .ok (.getfield 7, 3) := D17 7 rfl rfl rfl
theorem d17_16 : decode (am_mc 17) 16 = .ok (.aload_n 0, 1) := D17 8 rfl rfl rfl
theorem d17_17 : decode (am_mc 17) 17 = .ok (.getfield 13, 3) := D17 9 rfl rfl rfl
theorem d17_20 : decode (am_mc 17) 20 = .ok (.iload_n 1, 1) := D17 10 rfl rfl rfl
theorem d17_21 : decode (am_mc 17) 21 = .ok (.castore, 1) := D17 11 rfl rfl rfl
theorem d17_22 : decode (am_mc 17) 22 = .ok (.aload_n 0, 1) := D17 12 rfl rfl rfl
theorem d17_23 : decode (am_mc 17) 23 = .ok (.dup, 1) := D17 13 rfl rfl rfl
theorem d17_24 : decode (am_mc 17) 24 = .ok (.getfield 13, 3) := D17 14 rfl rfl rfl
theorem d17_27 : decode (am_mc 17) 27 = .ok (.iconst 1, 1) := D17 15 rfl rfl rfl
theorem d17_28 : decode (am_mc 17) 28 = .ok (.iadd, 1) := D17 16 rfl rfl rfl
theorem d17_29 : decode (am_mc 17) 29 = .ok (.putfield 13, 3) := D17 17 rfl rfl rfl
theorem d17_32 : decode (am_mc 17) 32 = .ok (.return_, 1) := D17 18 rfl rfl rfl
theorem ml17 : ∀ n, n < 2 → n < am_ml 17 := fun _ h => h
theorem mo17 : am_mo 17 = 3 := by decide +kernel
theorem rk17 : am_rk 17 = 0 := by decide +kernel
theorem rg17 : am_rcg 17 = 4 := by decide +kernel
theorem f3_7 : tb_f 3 7 = some (3, 0, 5, 18) := by decide +kernel
def fn17 (o : Nat) (a : Int) (μ : am_M) : Option (Int × am_M) := (if μ o 1 < ((am_len (am_ref o 0) : Nat) : Int) then (if (0 : Int) ≤ μ o 1 ∧ μ o 1 < ((am_len (am_ref o 0) : Nat) : Int) then some (0, am_up (am_up μ (am_ref o 0) (μ o 1 : Int).toNat (o_nar .char a)) o 1 (w32 (((am_up μ (am_ref o 0) (μ o 1 : Int).toNat (o_nar .char a)) o 1) + 1))) else none) else some (0, am_up μ o 1 (w32 ((μ o 1) + 1))))
def sp17 : am_F := fun vs μ => am_aR 3 vs fun o vs => am_aI vs fun a vs => am_a0 vs (fn17 o a μ)
theorem e17 (o : Nat) (a : Int) (μ : am_M) : sp17 [.inr (.inr (3, o)), .inl a] μ = fn17 o a μ := am_aR_c.trans (am_aI_c.trans am_a0_c)
theorem sd17 : am_Sd 17 sp17 := by
  refine am_Sd_of (by decide) (fun vs μ μ' x h hv hM => ?_)
  obtain ⟨o, vs0, rfl, h0⟩ := am_aR_s h
  obtain ⟨a, vs1, rfl, h1⟩ := am_aI_s h0
  obtain ⟨rfl, hz⟩ := am_a0_s h1
  refine ⟨Nat.le_of_ble_eq_true rfl, fun X C hG hr => ?_⟩
  have h := hz
  unfold fn17 at h
  exact (show am_W X C 17 _ 0 0 0 [(0, .inr (.inr (3, o))), (1, .inl a)] [] μ from (am_c_aload_n hG (pc := 0) d17_0 rfl (x_get_n (v := .inl (μ o 1)) hG (pc := 1) d17_1 mo17 f3_13 rfl (am_c_aload_n hG (pc := 4) d17_4 rfl (x_get_n (v := .inr (.inr (18, am_ref o 0))) hG (pc := 5) d17_5 mo17 f3_7 rfl (am_c_len hG (pc := 8) d17_8 (by decide) (x_icmp_ge (tgt := 22) hG (pc := 9) d17_9 rfl h (fun h => (am_c_aload_n hG (pc := 22) d17_22 rfl (am_c_dup hG (pc := 23) d17_23 rfl (x_get_n (v := .inl (μ o 1)) hG (pc := 24) d17_24 mo17 f3_13 rfl (am_c_iconst hG (pc := 27) d17_27 (by decide) (am_c_iadd hG (pc := 28) d17_28 (x_put_i hG (pc := 29) d17_29 mo17 f3_13 (by decide) (xq_vret hG (by decide) hr (pc := 32) d17_32 rk17 (am_q0 h))))))))) (fun h => (am_c_aload_n hG (pc := 12) d17_12 rfl (x_get_n (v := .inr (.inr (18, am_ref o 0))) hG (pc := 13) d17_13 mo17 f3_7 rfl (am_c_aload_n hG (pc := 16) d17_16 rfl (x_get_n (v := .inl (μ o 1)) hG (pc := 17) d17_17 mo17 f3_13 rfl (am_c_iload_n hG (pc := 20) d17_20 rfl (x_castore hG (pc := 21) d17_21 h (fun h => (am_c_aload_n hG (pc := 22) d17_22 rfl (am_c_dup hG (pc := 23) d17_23 rfl (x_get_n (v := .inl ((am_up μ (am_ref o 0) (μ o 1 : Int).toNat (o_nar .char a)) o 1)) hG (pc := 24) d17_24 mo17 f3_13 rfl (am_c_iconst hG (pc := 27) d17_27 (by decide) (am_c_iadd hG (pc := 28) d17_28 (x_put_i hG (pc := 29) d17_29 mo17 f3_13 (by decide) (xq_vret hG (by decide) hr (pc := 32) d17_32 rk17 (am_q0 h)))))))))))))))))))))))
/-! ChartPress$Table.readQuoted(LChartPress$Script;LChartPress$Letters;)V -/
theorem D18 (k : Nat) {pc : Nat} {i : Instr} (h : tbi18[k]? = some (pc, i)) (hs : am_isw i = false) {n : Nat} (hn : am_il i = n) : decode (am_mc 18) pc = .ok (i, n) := am_d2 (by decide) (by decide) rfl h hs hn
theorem d18_0 : decode (am_mc 18) 0 = .ok (.iconst 1, 1) := D18 0 rfl rfl rfl
theorem d18_1 : decode (am_mc 18) 1 = .ok (.istore_n 3, 1) := D18 1 rfl rfl rfl
theorem d18_2 : decode (am_mc 18) 2 = .ok (.aload_n 0, 1) := D18 2 rfl rfl rfl
theorem d18_3 : decode (am_mc 18) 3 = .ok (.dup, 1) := D18 3 rfl rfl rfl
theorem d18_4 : decode (am_mc 18) 4 = .ok (.getfield 72, 3) := D18 4 rfl rfl rfl
theorem d18_7 : decode (am_mc 18) 7 = .ok (.iconst 1, 1) := D18 5 rfl rfl rfl
theorem d18_8 : decode (am_mc 18) 8 = .ok (.iadd, 1) := D18 6 rfl rfl rfl
theorem d18_9 : decode (am_mc 18) 9 = .ok (.putfield 72, 3) := D18 7 rfl rfl rfl
theorem d18_12 : decode (am_mc 18) 12 = .ok (.iload_n 3, 1) := D18 8 rfl rfl rfl
theorem d18_13 : decode (am_mc 18) 13 = .ok (.ifCond .eq 87, 3) := D18 9 rfl rfl rfl
theorem d18_16 : decode (am_mc 18) 16 = .ok (.aload_n 0, 1) := D18 10 rfl rfl rfl
theorem d18_17 : decode (am_mc 18) 17 = .ok (.getfield 72, 3) := D18 11 rfl rfl rfl
theorem d18_20 : decode (am_mc 18) 20 = .ok (.aload_n 1, 1) := D18 12 rfl rfl rfl
theorem d18_21 : decode (am_mc 18) 21 = .ok (.invokevirtual 95, 3) := D18 13 rfl rfl rfl
theorem d18_24 : decode (am_mc 18) 24 = .ok (.if_icmp .ge 76, 3) := D18 14 rfl rfl rfl
theorem d18_27 : decode (am_mc 18) 27 = .ok (.aload_n 1, 1) := D18 15 rfl rfl rfl
theorem d18_28 : decode (am_mc 18) 28 = .ok (.aload_n 0, 1) := D18 16 rfl rfl rfl
theorem d18_29 : decode (am_mc 18) 29 = .ok (.getfield 72, 3) := D18 17 rfl rfl rfl
theorem d18_32 : decode (am_mc 18) 32 = .ok (.invokevirtual 78, 3) := D18 18 rfl rfl rfl
theorem d18_35 : decode (am_mc 18) 35 = .ok (.istore 4, 2) := D18 19 rfl rfl rfl
theorem d18_37 : decode (am_mc 18) 37 = .ok (.aload_n 0, 1) := D18 20 rfl rfl rfl
theorem d18_38 : decode (am_mc 18) 38 = .ok (.dup, 1) := D18 21 rfl rfl rfl
theorem d18_39 : decode (am_mc 18) 39 = .ok (.getfield 72, 3) := D18 22 rfl rfl rfl
theorem d18_42 : decode (am_mc 18) 42 = .ok (.iconst 1, 1) := D18 23 rfl rfl rfl
theorem d18_43 : decode (am_mc 18) 43 = .ok (.iadd, 1) := D18 24 rfl rfl rfl
theorem d18_44 : decode (am_mc 18) 44 = .ok (.putfield 72, 3) := D18 25 rfl rfl rfl
theorem d18_47 : decode (am_mc 18) 47 = .ok (.iload 4, 2) := D18 26 rfl rfl rfl
theorem d18_49 : decode (am_mc 18) 49 = .ok (.bipush 34, 2) := D18 27 rfl rfl rfl
theorem d18_51 : decode (am_mc 18) 51 = .ok (.if_icmp .eq 12, 3) := D18 28 rfl rfl rfl
theorem d18_54 : decode (am_mc 18) 54 = .ok (.aload_n 2, 1) := D18 29 rfl rfl rfl
theorem d18_55 : decode (am_mc 18) 55 = .ok (.iload 4, 2) := D18 30 rfl rfl rfl
theorem d18_57 : decode (am_mc 18) 57 = .ok (.invokevirtual 102, 3) := D18 31 rfl rfl rfl
theorem d18_60 : decode (am_mc 18) 60 = .ok (.goto 37, 3) := D18 32 rfl rfl rfl
theorem d18_63 : decode (am_mc 18) 63 = .ok (.aload_n 1, 1) := D18 33 rfl rfl rfl
theorem d18_64 : decode (am_mc 18) 64 = .ok (.aload_n 0, 1) := D18 34 rfl rfl rfl
theorem d18_65 : decode (am_mc 18) 65 = .ok (.getfield 72, 3) := D18 35 rfl rfl rfl
theorem d18_68 : decode (am_mc 18) 68 = .ok (.invokevirtual 78, 3) := D18 36 rfl rfl rfl
theorem d18_71 : decode (am_mc 18) 71 = .ok (.bipush 34, 2) := D18 37 rfl rfl rfl
theorem d18_73 : decode (am_mc 18) 73 = .ok (.if_icmp .ne 22, 3) := D18 38 rfl rfl rfl
theorem d18_76 : decode (am_mc 18) 76 = .ok (.aload_n 2, 1) := D18 39 rfl rfl rfl
theorem d18_77 : decode (am_mc 18) 77 = .ok (.iload 4, 2) := D18 40 rfl rfl rfl
theorem d18_79 : decode (am_mc 18) 79 = .ok (.invokevirtual 102, 3) := D18 41 rfl rfl rfl
theorem d18_82 : decode (am_mc 18) 82 = .ok (.aload_n 0, 1) := D18 42 rfl rfl rfl
theorem d18_83 : decode (am_mc 18) 83 = .ok (.dup, 1) := D18 43 rfl rfl rfl
theorem d18_84 : decode (am_mc 18) 84 = .ok (.getfield 72, 3) := D18 44 rfl rfl rfl
theorem d18_87 : decode (am_mc 18) 87 = .ok (.iconst 1, 1) := D18 45 rfl rfl rfl
theorem d18_88 : decode (am_mc 18) 88 = .ok (.iadd, 1) := D18 46 rfl rfl rfl
theorem d18_89 : decode (am_mc 18) 89 = .ok (.putfield 72, 3) := D18 47 rfl rfl rfl
theorem d18_92 : decode (am_mc 18) 92 = .ok (.goto 5, 3) := D18 48 rfl rfl rfl
theorem d18_95 : decode (am_mc 18) 95 = .ok (.iconst 0, 1) := D18 49 rfl rfl rfl
theorem d18_96 : decode (am_mc 18) 96 = .ok (.istore_n 3, 1) := D18 50 rfl rfl rfl
theorem d18_97 : decode (am_mc 18) 97 = .ok (.goto (-85), 3) := D18 51 rfl rfl rfl
theorem d18_100 : decode (am_mc 18) 100 = .ok (.aload_n 0, 1) := D18 52 rfl rfl rfl
theorem d18_101 : decode (am_mc 18) 101 = .ok (.aload_n 0, 1) := D18 53 rfl rfl rfl
theorem d18_102 : decode (am_mc 18) 102 = .ok (.getfield 46, 3) := D18 54 rfl rfl rfl
theorem d18_105 : decode (am_mc 18) 105 = .ok (.ifCond .eq 11, 3) := D18 55 rfl rfl rfl
theorem d18_108 : decode (am_mc 18) 108 = .ok (.iload_n 3, 1) := D18 56 rfl rfl rfl
theorem d18_109 : decode (am_mc 18) 109 = .ok (.ifCond .ne 7, 3) := D18 57 rfl rfl rfl
theorem d18_112 : decode (am_mc 18) 112 = .ok (.iconst 1, 1) := D18 58 rfl rfl rfl
theorem d18_113 : decode (am_mc 18) 113 = .ok (.goto 4, 3) := D18 59 rfl rfl rfl
theorem d18_116 : decode (am_mc 18) 116 = .ok (.iconst 0, 1) := D18 60 rfl rfl rfl
theorem d18_117 : decode (am_mc 18) 117 = .ok (.putfield 46, 3) := D18 61 rfl rfl rfl
theorem d18_120 : decode (am_mc 18) 120 = .ok (.return_, 1) := D18 62 rfl rfl rfl
theorem ml18 : ∀ n, n < 5 → n < am_ml 18 := fun _ h => h
theorem mo18 : am_mo 18 = 2 := by decide +kernel
theorem rk18 : am_rk 18 = 0 := by decide +kernel
theorem rg18 : am_rcg 18 = 3 := by decide +kernel
theorem m2_78 : tb_m 2 78 = some (15, 2, 1, 0) := by decide +kernel
theorem m2_95 : tb_m 2 95 = some (16, 1, 1, 0) := by decide +kernel
theorem m2_102 : tb_m 2 102 = some (17, 2, 0, 0) := by decide +kernel
theorem dp18_15 : am_md 15 + 1 ≤ am_md 18 ∧ 8 + (am_ml 15 + 11) + am_lr 15 ≤ am_lr 18 := by decide +kernel
theorem dp18_16 : am_md 16 + 1 ≤ am_md 18 ∧ 8 + (am_ml 16 + 11) + am_lr 16 ≤ am_lr 18 := by decide +kernel
theorem dp18_17 : am_md 17 + 1 ≤ am_md 18 ∧ 8 + (am_ml 17 + 11) + am_lr 17 ≤ am_lr 18 := by decide +kernel
def L18_12 (l0 : Nat) (l1 : Nat) (l2 : Nat) : Nat → Int → am_M → Option ((Int × am_M) ⊕ (Int × am_M))
  | 0, _, _ => none
  | n + 1, l3, μ => (if l3 = 0 then (some (.inr (l3, μ))) else (am_op (fn16 l1 μ) (fun z1 => (if μ l0 8 < z1.1 then (am_op (fn15 l1 (z1.2 l0 8) z1.2) (fun z2 => (if z2.1 = 34 then (am_op (fn15 l1 ((am_up z2.2 l0 8 (w32 ((z2.2 l0 8) + 1))) l0 8) (am_up z2.2 l0 8 (w32 ((z2.2 l0 8) + 1)))) (fun z3 => (if z3.1 = 34 then (am_op (fn17 l2 z2.1 z3.2) (fun z4 => (L18_12 l0 l1 l2 n l3 (am_up z4.2 l0 8 (w32 ((z4.2 l0 8) + 1)))))) else (L18_12 l0 l1 l2 n 0 z3.2)))) else (am_op (fn17 l2 z2.1 (am_up z2.2 l0 8 (w32 ((z2.2 l0 8) + 1)))) (fun z5 => (L18_12 l0 l1 l2 n l3 z5.2)))))) else (some (.inr (l3, z1.2)))))))
theorem w18_12 {X : am_K} {C : am_C} {Q : State → Prop} (hG : am_G X C 18 0 0 (0, fun _ => 0)) (hr : match X with | (_, _, _, _, _, _, _, _, meth, _) => meth.sig.returnType = am_mr 18 ∧ meth.locks = false) (l0 : Nat) (l1 : Nat) (l2 : Nat) : ∀ (n : Nat) (l3 : Int) (μ : am_M) (r : (Int × am_M) ⊕ (Int × am_M)), L18_12 l0 l1 l2 n l3 μ = some r → (∀ q, r = .inl q → Q = am_E X C 18 q.1 q.2) → (∀ t, r = .inr t → am_W X C 18 Q 0 0 100 [(0, .inr (.inr (2, l0))), (3, .inl t.1)] [] t.2) → am_W X C 18 Q 0 0 12 [(0, .inr (.inr (2, l0))), (1, .inr (.inr (1, l1))), (2, .inr (.inr (3, l2))), (3, .inl l3)] [] μ := by
  intro n
  induction n with
  | zero => intro l3 μ r h; cases h
  | succ n ih =>
    intro l3 μ r h hI hX
    unfold L18_12 at h
    exact (am_c_iload_n hG (pc := 12) d18_12 rfl (x_if_eq (tgt := 100) hG (pc := 13) d18_13 rfl h (fun h => (am_lvw (lv2 := [(0, .inr (.inr (2, l0))), (3, .inl l3)]) [0, 3] rfl (hX (l3, μ) (Option.some.inj h).symm))) (fun h => (am_c_aload_n hG (pc := 16) d18_16 rfl (x_get_n (v := .inl (μ l0 8)) hG (pc := 17) d18_17 mo18 f2_72 rfl (am_c_aload_n hG (pc := 20) d18_20 rfl (x_virtual_i (t := 1) (o := l1) (as2 := []) (rest := [.inl (μ l0 8)]) hG (pc := 21) d18_21 mo18 m2_95 (by decide) dp18_16 rfl rfl (Nat.le_of_ble_eq_true rfl) (Nat.le_of_ble_eq_true rfl) rg16 sd16 (e16 _ _) h (fun z1 h => (x_icmp_ge (tgt := 100) hG (pc := 24) d18_24 rfl h (fun h => (am_lvw (lv2 := [(0, .inr (.inr (2, l0))), (3, .inl l3)]) [0, 3] rfl (hX (l3, z1.2) (Option.some.inj h).symm))) (fun h => (am_c_aload_n hG (pc := 27) d18_27 rfl (am_c_aload_n hG (pc := 28) d18_28 rfl (x_get_n (v := .inl (z1.2 l0 8)) hG (pc := 29) d18_29 mo18 f2_72 rfl (x_virtual_i (t := 1) (o := l1) (as2 := [.inl (z1.2 l0 8)]) (rest := []) hG (pc := 32) d18_32 mo18 m2_78 (by decide) dp18_15 rfl rfl (Nat.le_of_ble_eq_true rfl) (Nat.le_of_ble_eq_true rfl) rg15 sd15 (e15 _ _ _) h (fun z2 h => (x_istore (lv' := [(4, .inl z2.1), (0, .inr (.inr (2, l0))), (1, .inr (.inr (1, l1))), (2, .inr (.inr (3, l2))), (3, .inl l3)]) hG (pc := 35) d18_35 (ml18 _ (by decide)) rfl (am_c_aload_n hG (pc := 37) d18_37 rfl (am_c_dup hG (pc := 38) d18_38 rfl (x_get_n (v := .inl (z2.2 l0 8)) hG (pc := 39) d18_39 mo18 f2_72 rfl (am_c_iconst hG (pc := 42) d18_42 (by decide) (am_c_iadd hG (pc := 43) d18_43 (x_put_i hG (pc := 44) d18_44 mo18 f2_72 (by decide) (am_c_iload hG (pc := 47) d18_47 rfl (am_c_bipush hG (pc := 49) d18_49 (by decide) (x_icmp_eq (tgt := 63) hG (pc := 51) d18_51 rfl h (fun h => (am_c_aload_n hG (pc := 63) d18_63 rfl (am_c_aload_n hG (pc := 64) d18_64 rfl (x_get_n (v := .inl ((am_up z2.2 l0 8 (w32 ((z2.2 l0 8) + 1))) l0 8)) hG (pc := 65) d18_65 mo18 f2_72 rfl (x_virtual_i (t := 1) (o := l1) (as2 := [.inl ((am_up z2.2 l0 8 (w32 ((z2.2 l0 8) + 1))) l0 8)]) (rest := []) hG (pc := 68) d18_68 mo18 m2_78 (by decide) dp18_15 rfl rfl (Nat.le_of_ble_eq_true rfl) (Nat.le_of_ble_eq_true rfl) rg15 sd15 (e15 _ _ _) h (fun z3 h => (am_c_bipush hG (pc := 71) d18_71 (by decide) (x_icmp_ne (tgt := 95) hG (pc := 73) d18_73 rfl h (fun h => (am_c_iconst hG (pc := 95) d18_95 (by decide) (x_istore_n (lv' := [(3, .inl 0), (4, .inl z2.1), (0, .inr (.inr (2, l0))), (1, .inr (.inr (1, l1))), (2, .inr (.inr (3, l2)))]) hG (pc := 96) d18_96 (ml18 _ (by decide)) rfl (x_goto (tgt := 12) hG (pc := 97) d18_97 rfl (am_lvw (lv2 := [(0, .inr (.inr (2, l0))), (1, .inr (.inr (1, l1))), (2, .inr (.inr (3, l2))), (3, .inl 0)]) [2, 3, 4, 0] rfl (ih _ _ _ h hI hX)))))) (fun h => (am_c_aload_n hG (pc := 76) d18_76 rfl (am_c_iload hG (pc := 77) d18_77 rfl (x_virtual_v (t := 3) (o := l2) (as2 := [.inl z2.1]) (rest := []) hG (pc := 79) d18_79 mo18 m2_102 (by decide) dp18_17 rfl rfl (Nat.le_of_ble_eq_true rfl) (Nat.le_of_ble_eq_true rfl) rg17 sd17 (e17 _ _ _) h (fun z4 h => (am_c_aload_n hG (pc := 82) d18_82 rfl (am_c_dup hG (pc := 83) d18_83 rfl (x_get_n (v := .inl (z4.2 l0 8)) hG (pc := 84) d18_84 mo18 f2_72 rfl (am_c_iconst hG (pc := 87) d18_87 (by decide) (am_c_iadd hG (pc := 88) d18_88 (x_put_i hG (pc := 89) d18_89 mo18 f2_72 (by decide) (x_goto (tgt := 97) hG (pc := 92) d18_92 rfl (x_goto (tgt := 12) hG (pc := 97) d18_97 rfl (am_lvw (lv2 := [(0, .inr (.inr (2, l0))), (1, .inr (.inr (1, l1))), (2, .inr (.inr (3, l2))), (3, .inl l3)]) [1, 2, 3, 4] rfl (ih _ _ _ h hI hX))))))))))))))))))))))) (fun h => (am_c_aload_n hG (pc := 54) d18_54 rfl (am_c_iload hG (pc := 55) d18_55 rfl (x_virtual_v (t := 3) (o := l2) (as2 := [.inl z2.1]) (rest := []) hG (pc := 57) d18_57 mo18 m2_102 (by decide) dp18_17 rfl rfl (Nat.le_of_ble_eq_true rfl) (Nat.le_of_ble_eq_true rfl) rg17 sd17 (e17 _ _ _) h (fun z5 h => (x_goto (tgt := 97) hG (pc := 60) d18_60 rfl (x_goto (tgt := 12) hG (pc := 97) d18_97 rfl (am_lvw (lv2 := [(0, .inr (.inr (2, l0))), (1, .inr (.inr (1, l1))), (2, .inr (.inr (3, l2))), (3, .inl l3)]) [1, 2, 3, 4] rfl (ih _ _ _ h hI hX))))))))))))))))))))))))))))))))))
def fn18 (o : Nat) (a : Nat) (b : Nat) (μ : am_M) : Option (Int × am_M) := (am_op (L18_12 o a b am_fuel 1 (am_up μ o 8 (w32 ((μ o 8) + 1)))) (fun s => am_lp s (fun q1 => some q1) (fun t1 => (if t1.2 o 10 = 0 then some (0, am_up t1.2 o 10 0) else (if t1.1 = 0 then some (0, am_up t1.2 o 10 1) else some (0, am_up t1.2 o 10 0))))))
def sp18 : am_F := fun vs μ => am_aR 2 vs fun o vs => am_aR 1 vs fun a vs => am_aR 3 vs fun b vs => am_a0 vs (fn18 o a b μ)
theorem e18 (o : Nat) (a : Nat) (b : Nat) (μ : am_M) : sp18 [.inr (.inr (2, o)), .inr (.inr (1, a)), .inr (.inr (3, b))] μ = fn18 o a b μ := am_aR_c.trans (am_aR_c.trans (am_aR_c.trans am_a0_c))
theorem sd18 : am_Sd 18 sp18 := by
  refine am_Sd_of (by decide) (fun vs μ μ' x h hv hM => ?_)
  obtain ⟨o, vs0, rfl, h0⟩ := am_aR_s h
  obtain ⟨a, vs1, rfl, h1⟩ := am_aR_s h0
  obtain ⟨b, vs2, rfl, h2⟩ := am_aR_s h1
  obtain ⟨rfl, hz⟩ := am_a0_s h2
  refine ⟨Nat.le_of_ble_eq_true rfl, fun X C hG hr => ?_⟩
  have h := hz
  unfold fn18 at h
  exact (show am_W X C 18 _ 0 0 0 [(0, .inr (.inr (2, o))), (1, .inr (.inr (1, a))), (2, .inr (.inr (3, b)))] [] μ from (am_c_iconst hG (pc := 0) d18_0 (by decide) (x_istore_n (lv' := [(3, .inl 1), (0, .inr (.inr (2, o))), (1, .inr (.inr (1, a))), (2, .inr (.inr (3, b)))]) hG (pc := 1) d18_1 (ml18 _ (by decide)) rfl (am_c_aload_n hG (pc := 2) d18_2 rfl (am_c_dup hG (pc := 3) d18_3 rfl (x_get_n (v := .inl (μ o 8)) hG (pc := 4) d18_4 mo18 f2_72 rfl (am_c_iconst hG (pc := 7) d18_7 (by decide) (am_c_iadd hG (pc := 8) d18_8 (x_put_i hG (pc := 9) d18_9 mo18 f2_72 (by decide) (x_lp h (fun r h1 h2 => (am_lvw (lv2 := [(0, .inr (.inr (2, o))), (1, .inr (.inr (1, a))), (2, .inr (.inr (3, b))), (3, .inl 1)]) [1, 2, 3, 0] rfl (w18_12 hG hr _ _ _ _ _ _ _ h1 (fun q1 e => am_q1 e h2 (fun h => am_q0 h)) (fun t1 e => am_q2 e h2 (fun h => (am_c_aload_n hG (pc := 100) d18_100 rfl (am_c_aload_n hG (pc := 101) d18_101 rfl (x_get_n (v := .inl (t1.2 o 10)) hG (pc := 102) d18_102 mo18 f2_46 rfl (x_if_eq (tgt := 116) hG (pc := 105) d18_105 rfl h (fun h => (am_c_iconst hG (pc := 116) d18_116 (by decide) (x_put_0 hG (pc := 117) d18_117 mo18 f2_46 (by decide) (xq_vret hG (by decide) hr (pc := 120) d18_120 rk18 (am_q0 h))))) (fun h => (am_c_iload_n hG (pc := 108) d18_108 rfl (x_if_ne (tgt := 116) hG (pc := 109) d18_109 rfl h (fun h => (am_c_iconst hG (pc := 116) d18_116 (by decide) (x_put_0 hG (pc := 117) d18_117 mo18 f2_46 (by decide) (xq_vret hG (by decide) hr (pc := 120) d18_120 rk18 (am_q0 h))))) (fun h => (am_c_iconst hG (pc := 112) d18_112 (by decide) (x_goto (tgt := 117) hG (pc := 113) d18_113 rfl (x_put_1 hG (pc := 117) d18_117 mo18 f2_46 (by decide) (xq_vret hG (by decide) hr (pc := 120) d18_120 rk18 (am_q0 h))))))))))))))))))))))))))))
/-! ChartPress$Table.endsPlain(C)Z -/
theorem D19 (k : Nat) {pc : Nat} {i : Instr} (h : tbi19[k]? = some (pc, i)) (hs : am_isw i = false) {n : Nat} (hn : am_il i = n) : decode (am_mc 19) pc = .ok (i, n) := am_d2 (by decide) (by decide) rfl h hs hn
theorem d19_0 : decode (am_mc 19) 0 = .ok (.iload_n 0, 1) := D19 0 rfl rfl rfl
theorem d19_1 : decode (am_mc 19) 1 = .ok (.bipush 44, 2) := D19 1 rfl rfl rfl
theorem d19_3 : decode (am_mc 19) 3 = .ok (.if_icmp .eq 21, 3) := D19 2 rfl rfl rfl
theorem d19_6 : decode (am_mc 19) 6 = .ok (.iload_n 0, 1) := D19 3 rfl rfl rfl
theorem d19_7 : decode (am_mc 19) 7 = .ok (.bipush 34, 2) := D19 4 rfl rfl rfl
theorem d19_9 : decode (am_mc 19) 9 = .ok (.if_icmp .eq 15, 3) := D19 5 rfl rfl rfl
theorem d19_12 : decode (am_mc 19) 12 = .ok (.iload_n 0, 1) := D19 6 rfl rfl rfl
theorem d19_13 : decode (am_mc 19) 13 = .ok (.bipush 13, 2) := D19 7 rfl rfl rfl
theorem d19_15 : decode (am_mc 19) 15 = .ok (.if_icmp .eq 9, 3) := D19 8 rfl rfl rfl
theorem d19_18 : decode (am_mc 19) 18 = .ok (.iload_n 0, 1) := D19 9 rfl rfl rfl
theorem d19_19 : decode (am_mc 19) 19 = .ok (.bipush 10, 2) := D19 10 rfl rfl rfl
theorem d19_21 : decode (am_mc 19) 21 = .ok (.if_icmp .ne 7, 3) := D19 11 rfl rfl rfl
theorem d19_24 : decode (am_mc 19) 24 = .ok (.iconst 1, 1) := D19 12 rfl rfl rfl
theorem d19_25 : decode (am_mc 19) 25 = .ok (.goto 4, 3) := D19 13 rfl rfl rfl
theorem d19_28 : decode (am_mc 19) 28 = .ok (.iconst 0, 1) := D19 14 rfl rfl rfl
theorem d19_29 : decode (am_mc 19) 29 = .ok (.ireturn, 1) := D19 15 rfl rfl rfl
theorem ml19 : ∀ n, n < 1 → n < am_ml 19 := fun _ h => h
theorem mo19 : am_mo 19 = 2 := by decide +kernel
theorem mr19 : am_mr 19 = some .boolean := by decide +kernel
theorem rg19 : am_rcg 19 = 0 := by decide +kernel
def fn19 (a : Int) (μ : am_M) : Option (Int × am_M) := (if a = 44 then some (1, μ) else (if a = 34 then some (1, μ) else (if a = 13 then some (1, μ) else (if a = 10 then some (1, μ) else some (0, μ)))))
def sp19 : am_F := fun vs μ => am_aI vs fun a vs => am_a0 vs (fn19 a μ)
theorem e19 (a : Int) (μ : am_M) : sp19 [.inl a] μ = fn19 a μ := am_aI_c.trans am_a0_c
theorem sd19 : am_Sd 19 sp19 := by
  refine am_Sd_of (by decide) (fun vs μ μ' x h hv hM => ?_)
  obtain ⟨a, vs0, rfl, h0⟩ := am_aI_s h
  obtain ⟨rfl, hz⟩ := am_a0_s h0
  refine ⟨Nat.le_of_ble_eq_true rfl, fun X C hG hr => ?_⟩
  have h := hz
  unfold fn19 at h
  exact (show am_W X C 19 _ 0 0 0 [(0, .inl a)] [] μ from (am_c_iload_n hG (pc := 0) d19_0 rfl (am_c_bipush hG (pc := 1) d19_1 (by decide) (x_icmp_eq (tgt := 24) hG (pc := 3) d19_3 rfl h (fun h => (am_c_iconst hG (pc := 24) d19_24 (by decide) (x_goto (tgt := 29) hG (pc := 25) d19_25 rfl (xq_zret1 hG (by decide) hr (pc := 29) d19_29 mr19 (am_q0 h))))) (fun h => (am_c_iload_n hG (pc := 6) d19_6 rfl (am_c_bipush hG (pc := 7) d19_7 (by decide) (x_icmp_eq (tgt := 24) hG (pc := 9) d19_9 rfl h (fun h => (am_c_iconst hG (pc := 24) d19_24 (by decide) (x_goto (tgt := 29) hG (pc := 25) d19_25 rfl (xq_zret1 hG (by decide) hr (pc := 29) d19_29 mr19 (am_q0 h))))) (fun h => (am_c_iload_n hG (pc := 12) d19_12 rfl (am_c_bipush hG (pc := 13) d19_13 (by decide) (x_icmp_eq (tgt := 24) hG (pc := 15) d19_15 rfl h (fun h => (am_c_iconst hG (pc := 24) d19_24 (by decide) (x_goto (tgt := 29) hG (pc := 25) d19_25 rfl (xq_zret1 hG (by decide) hr (pc := 29) d19_29 mr19 (am_q0 h))))) (fun h => (am_c_iload_n hG (pc := 18) d19_18 rfl (am_c_bipush hG (pc := 19) d19_19 (by decide) (x_icmp_ne (tgt := 28) hG (pc := 21) d19_21 rfl h (fun h => (am_c_iconst hG (pc := 28) d19_28 (by decide) (xq_zret0 hG (by decide) hr (pc := 29) d19_29 mr19 (am_q0 h)))) (fun h => (am_c_iconst hG (pc := 24) d19_24 (by decide) (x_goto (tgt := 29) hG (pc := 25) d19_25 rfl (xq_zret1 hG (by decide) hr (pc := 29) d19_29 mr19 (am_q0 h)))))))))))))))))))))
/-! ChartPress$Table.readPlain(LChartPress$Script;LChartPress$Letters;)V -/
theorem D20 (k : Nat) {pc : Nat} {i : Instr} (h : tbi20[k]? = some (pc, i)) (hs : am_isw i = false) {n : Nat} (hn : am_il i = n) : decode (am_mc 20) pc = .ok (i, n) := am_d2 (by decide) (by decide) rfl h hs hn
theorem d20_0 : decode (am_mc 20) 0 = .ok (.aload_n 0, 1) := D20 0 rfl rfl rfl
theorem d20_1 : decode (am_mc 20) 1 = .ok (.getfield 72, 3) := D20 1 rfl rfl rfl
theorem d20_4 : decode (am_mc 20) 4 = .ok (.aload_n 1, 1) := D20 2 rfl rfl rfl
theorem d20_5 : decode (am_mc 20) 5 = .ok (.invokevirtual 95, 3) := D20 3 rfl rfl rfl
theorem d20_8 : decode (am_mc 20) 8 = .ok (.if_icmp .ge 42, 3) := D20 4 rfl rfl rfl
theorem d20_11 : decode (am_mc 20) 11 = .ok (.aload_n 1, 1) := D20 5 rfl rfl rfl
theorem d20_12 : decode (am_mc 20) 12 = .ok (.aload_n 0, 1) := D20 6 rfl rfl rfl
theorem d20_13 : decode (am_mc 20) 13 = .ok (.getfield 72, 3) := D20 7 rfl rfl rfl
theorem d20_16 : decode (am_mc 20) 16 = .ok (.invokevirtual 78, 3) := D20 8 rfl rfl rfl
theorem d20_19 : decode (am_mc 20) 19 = .ok (.invokestatic 98, 3) := D20 9 rfl rfl rfl
theorem d20_22 : decode (am_mc 20) 22 = .ok (.ifCond .ne 28, 3) := D20 10 rfl rfl rfl
theorem d20_25 : decode (am_mc 20) 25 = .ok (.aload_n 2, 1) := D20 11 rfl rfl rfl
theorem d20_26 : decode (am_mc 20) 26 = .ok (.aload_n 1, 1) := D20 12 rfl rfl rfl
theorem d20_27 : decode (am_mc 20) 27 = .ok (.aload_n 0, 1) := D20 13 rfl rfl rfl
theorem d20_28 : decode (am_mc 20) 28 = .ok (.getfield 72, 3) := D20 14 rfl rfl rfl
theorem d20_31 : decode (am_mc 20) 31 = .ok (.invokevirtual 78, 3) := D20 15 rfl rfl rfl
theorem d20_34 : decode (am_mc 20) 34 = .ok (.invokevirtual 102, 3) := D20 16 rfl rfl rfl
theorem d20_37 : decode (am_mc 20) 37 = .ok (.aload_n 0, 1) := D20 17 rfl rfl rfl
theorem d20_38 : decode (am_mc 20) 38 = .ok (.dup, 1) := D20 18 rfl rfl rfl
theorem d20_39 : decode (am_mc 20) 39 = .ok (.getfield 72, 3) := D20 19 rfl rfl rfl
theorem d20_42 : decode (am_mc 20) 42 = .ok (.iconst 1, 1) := D20 20 rfl rfl rfl
theorem d20_43 : decode (am_mc 20) 43 = .ok (.iadd, 1) := D20 21 rfl rfl rfl
theorem d20_44 : decode (am_mc 20) 44 = .ok (.putfield 72, 3) := D20 22 rfl rfl rfl
theorem d20_47 : decode (am_mc 20) 47 = .ok (.goto (-47), 3) := D20 23 rfl rfl rfl
theorem d20_50 : decode (am_mc 20) 50 = .ok (.return_, 1) := D20 24 rfl rfl rfl
theorem ml20 : ∀ n, n < 3 → n < am_ml 20 := fun _ h => h
theorem mo20 : am_mo 20 = 2 := by decide +kernel
theorem rk20 : am_rk 20 = 0 := by decide +kernel
theorem rg20 : am_rcg 20 = 3 := by decide +kernel
theorem m2_98 : tb_m 2 98 = some (19, 1, 1, 0) := by decide +kernel
theorem dp20_15 : am_md 15 + 1 ≤ am_md 20 ∧ 8 + (am_ml 15 + 11) + am_lr 15 ≤ am_lr 20 := by decide +kernel
theorem dp20_16 : am_md 16 + 1 ≤ am_md 20 ∧ 8 + (am_ml 16 + 11) + am_lr 16 ≤ am_lr 20 := by decide +kernel
theorem dp20_17 : am_md 17 + 1 ≤ am_md 20 ∧ 8 + (am_ml 17 + 11) + am_lr 17 ≤ am_lr 20 := by decide +kernel
theorem dp20_19 : am_md 19 + 1 ≤ am_md 20 ∧ 8 + (am_ml 19 + 11) + am_lr 19 ≤ am_lr 20 := by decide +kernel
def L20_0 (l0 : Nat) (l1 : Nat) (l2 : Nat) : Nat → am_M → Option ((Int × am_M) ⊕ (am_M))
  | 0, _ => none
  | n + 1, μ => (am_op (fn16 l1 μ) (fun z1 => (if μ l0 8 < z1.1 then (am_op (fn15 l1 (z1.2 l0 8) z1.2) (fun z2 => (am_op (fn19 z2.1 z2.2) (fun z3 => (if z3.1 = 0 then (am_op (fn15 l1 (z3.2 l0 8) z3.2) (fun z4 => (am_op (fn17 l2 z4.1 z4.2) (fun z5 => (L20_0 l0 l1 l2 n  (am_up z5.2 l0 8 (w32 ((z5.2 l0 8) + 1)))))))) else (some (.inr (z3.2)))))))) else (some (.inr (z1.2))))))
theorem w20_0 {X : am_K} {C : am_C} {Q : State → Prop} (hG : am_G X C 20 0 0 (0, fun _ => 0)) (hr : match X with | (_, _, _, _, _, _, _, _, meth, _) => meth.sig.returnType = am_mr 20 ∧ meth.locks = false) (l0 : Nat) (l1 : Nat) (l2 : Nat) : ∀ (n : Nat)  (μ : am_M) (r : (Int × am_M) ⊕ (am_M)), L20_0 l0 l1 l2 n  μ = some r → (∀ q, r = .inl q → Q = am_E X C 20 q.1 q.2) → (∀ t, r = .inr t → am_W X C 20 Q 0 0 50 [] [] t) → am_W X C 20 Q 0 0 0 [(0, .inr (.inr (2, l0))), (1, .inr (.inr (1, l1))), (2, .inr (.inr (3, l2)))] [] μ := by
  intro n
  induction n with
  | zero => intro  μ r h; cases h
  | succ n ih =>
    intro  μ r h hI hX
    unfold L20_0 at h
    exact (am_c_aload_n hG (pc := 0) d20_0 rfl (x_get_n (v := .inl (μ l0 8)) hG (pc := 1) d20_1 mo20 f2_72 rfl (am_c_aload_n hG (pc := 4) d20_4 rfl (x_virtual_i (t := 1) (o := l1) (as2 := []) (rest := [.inl (μ l0 8)]) hG (pc := 5) d20_5 mo20 m2_95 (by decide) dp20_16 rfl rfl (Nat.le_of_ble_eq_true rfl) (Nat.le_of_ble_eq_true rfl) rg16 sd16 (e16 _ _) h (fun z1 h => (x_icmp_ge (tgt := 50) hG (pc := 8) d20_8 rfl h (fun h => (am_lvw (lv2 := []) [] rfl (hX (z1.2) (Option.some.inj h).symm))) (fun h => (am_c_aload_n hG (pc := 11) d20_11 rfl (am_c_aload_n hG (pc := 12) d20_12 rfl (x_get_n (v := .inl (z1.2 l0 8)) hG (pc := 13) d20_13 mo20 f2_72 rfl (x_virtual_i (t := 1) (o := l1) (as2 := [.inl (z1.2 l0 8)]) (rest := []) hG (pc := 16) d20_16 mo20 m2_78 (by decide) dp20_15 rfl rfl (Nat.le_of_ble_eq_true rfl) (Nat.le_of_ble_eq_true rfl) rg15 sd15 (e15 _ _ _) h (fun z2 h => (x_static_i (as := [.inl z2.1]) (rest := []) hG (pc := 19) d20_19 mo20 m2_98 (by decide) dp20_19 rfl rfl (Nat.le_of_ble_eq_true rfl) (Nat.le_of_ble_eq_true rfl) rg19 sd19 (e19 _ _) h (fun z3 h => (x_if_ne (tgt := 50) hG (pc := 22) d20_22 rfl h (fun h => (am_lvw (lv2 := []) [] rfl (hX (z3.2) (Option.some.inj h).symm))) (fun h => (am_c_aload_n hG (pc := 25) d20_25 rfl (am_c_aload_n hG (pc := 26) d20_26 rfl (am_c_aload_n hG (pc := 27) d20_27 rfl (x_get_n (v := .inl (z3.2 l0 8)) hG (pc := 28) d20_28 mo20 f2_72 rfl (x_virtual_i (t := 1) (o := l1) (as2 := [.inl (z3.2 l0 8)]) (rest := [.inr (.inr (3, l2))]) hG (pc := 31) d20_31 mo20 m2_78 (by decide) dp20_15 rfl rfl (Nat.le_of_ble_eq_true rfl) (Nat.le_of_ble_eq_true rfl) rg15 sd15 (e15 _ _ _) h (fun z4 h => (x_virtual_v (t := 3) (o := l2) (as2 := [.inl z4.1]) (rest := []) hG (pc := 34) d20_34 mo20 m2_102 (by decide) dp20_17 rfl rfl (Nat.le_of_ble_eq_true rfl) (Nat.le_of_ble_eq_true rfl) rg17 sd17 (e17 _ _ _) h (fun z5 h => (am_c_aload_n hG (pc := 37) d20_37 rfl (am_c_dup hG (pc := 38) d20_38 rfl (x_get_n (v := .inl (z5.2 l0 8)) hG (pc := 39) d20_39 mo20 f2_72 rfl (am_c_iconst hG (pc := 42) d20_42 (by decide) (am_c_iadd hG (pc := 43) d20_43 (x_put_i hG (pc := 44) d20_44 mo20 f2_72 (by decide) (x_goto (tgt := 0) hG (pc := 47) d20_47 rfl (am_lvw (lv2 := [(0, .inr (.inr (2, l0))), (1, .inr (.inr (1, l1))), (2, .inr (.inr (3, l2)))]) [0, 1, 2] rfl (ih  _ _ h hI hX)))))))))))))))))))))))))))))))))
def fn20 (o : Nat) (a : Nat) (b : Nat) (μ : am_M) : Option (Int × am_M) := (am_op (L20_0 o a b am_fuel  μ) (fun s => am_lp s (fun q1 => some q1) (fun t1 => some (0, t1))))
def sp20 : am_F := fun vs μ => am_aR 2 vs fun o vs => am_aR 1 vs fun a vs => am_aR 3 vs fun b vs => am_a0 vs (fn20 o a b μ)
theorem e20 (o : Nat) (a : Nat) (b : Nat) (μ : am_M) : sp20 [.inr (.inr (2, o)), .inr (.inr (1, a)), .inr (.inr (3, b))] μ = fn20 o a b μ := am_aR_c.trans (am_aR_c.trans (am_aR_c.trans am_a0_c))
theorem sd20 : am_Sd 20 sp20 := by
  refine am_Sd_of (by decide) (fun vs μ μ' x h hv hM => ?_)
  obtain ⟨o, vs0, rfl, h0⟩ := am_aR_s h
  obtain ⟨a, vs1, rfl, h1⟩ := am_aR_s h0
  obtain ⟨b, vs2, rfl, h2⟩ := am_aR_s h1
  obtain ⟨rfl, hz⟩ := am_a0_s h2
  refine ⟨Nat.le_of_ble_eq_true rfl, fun X C hG hr => ?_⟩
  have h := hz
  unfold fn20 at h
  exact (show am_W X C 20 _ 0 0 0 [(0, .inr (.inr (2, o))), (1, .inr (.inr (1, a))), (2, .inr (.inr (3, b)))] [] μ from (x_lp h (fun r h1 h2 => (am_lvw (lv2 := [(0, .inr (.inr (2, o))), (1, .inr (.inr (1, a))), (2, .inr (.inr (3, b)))]) [0, 1, 2] rfl (w20_0 hG hr _ _ _ _  _ _ h1 (fun q1 e => am_q1 e h2 (fun h => am_q0 h)) (fun t1 e => am_q2 e h2 (fun h => (xq_vret hG (by decide) hr (pc := 50) d20_50 rk20 (am_q0 h)))))))))
/-! ChartPress$Letters.size()I -/
theorem D21 (k : Nat) {pc : Nat} {i : Instr} (h : tbi21[k]? = some (pc, i)) (hs : am_isw i = false) {n : Nat} (hn : am_il i = n) : decode (am_mc 21) pc = .ok (i, n) := am_d2 (by decide) (by decide) rfl h hs hn
theorem d21_0 : decode (am_mc 21) 0 = .ok (.aload_n 0, 1) := D21 0 rfl rfl rfl
theorem d21_1 : decode (am_mc 21) 1 = .ok (.getfield 13, 3) := D21 1 rfl rfl rfl
theorem d21_4 : decode (am_mc 21) 4 = .ok (.ireturn, 1) := D21 2 rfl rfl rfl
theorem ml21 : ∀ n, n < 1 → n < am_ml 21 := fun _ h => h
theorem mo21 : am_mo 21 = 3 := by decide +kernel
theorem mr21 : am_mr 21 = some .int := by decide +kernel
theorem rg21 : am_rcg 21 = 4 := by decide +kernel
def fn21 (o : Nat) (μ : am_M) : Option (Int × am_M) := some (μ o 1, μ)
def sp21 : am_F := fun vs μ => am_aR 3 vs fun o vs => am_a0 vs (fn21 o μ)
theorem e21 (o : Nat) (μ : am_M) : sp21 [.inr (.inr (3, o))] μ = fn21 o μ := am_aR_c.trans am_a0_c
theorem sd21 : am_Sd 21 sp21 := by
  refine am_Sd_of (by decide) (fun vs μ μ' x h hv hM => ?_)
  obtain ⟨o, vs0, rfl, h0⟩ := am_aR_s h
  obtain ⟨rfl, hz⟩ := am_a0_s h0
  refine ⟨Nat.le_of_ble_eq_true rfl, fun X C hG hr => ?_⟩
  have h := hz
  unfold fn21 at h
  exact (show am_W X C 21 _ 0 0 0 [(0, .inr (.inr (3, o)))] [] μ from (am_c_aload_n hG (pc := 0) d21_0 rfl (x_get_n (v := .inl (μ o 1)) hG (pc := 1) d21_1 mo21 f3_13 rfl (xq_iret hG (by decide) hr (pc := 4) d21_4 mr21 (am_q0 h)))))
/-! ChartPress$Table.readField(LChartPress$Script;)V -/
theorem D22 (k : Nat) {pc : Nat} {i : Instr} (h : tbi22[k]? = some (pc, i)) (hs : am_isw i = false) {n : Nat} (hn : am_il i = n) : decode (am_mc 22) pc = .ok (i, n) := am_d2 (by decide) (by decide) rfl h hs hn
theorem d22_0 : decode (am_mc 22) 0 = .ok (.aload_n 0, 1) := D22 0 rfl rfl rfl
theorem d22_1 : decode (am_mc 22) 1 = .ok (.getfield 66, 3) := D22 1 rfl rfl rfl
theorem d22_4 : decode (am_mc 22) 4 = .ok (.aload_n 0, 1) := D22 2 rfl rfl rfl
theorem d22_5 : decode (am_mc 22) 5 = .ok (.getfield 11, 3) := D22 3 rfl rfl rfl
theorem d22_8 : decode (am_mc 22) 8 = .ok (.arraylength, 1) := D22 4 rfl rfl rfl
theorem d22_9 : decode (am_mc 22) 9 = .ok (.if_icmp .ge 15, 3) := D22 5 rfl rfl rfl
theorem d22_12 : decode (am_mc 22) 12 = .ok (.aload_n 0, 1) := D22 6 rfl rfl rfl
theorem d22_13 : decode (am_mc 22) 13 = .ok (.getfield 11, 3) := D22 7 rfl rfl rfl
theorem d22_16 : decode (am_mc 22) 16 = .ok (.aload_n 0, 1) := D22 8 rfl rfl rfl
theorem d22_17 : decode (am_mc 22) 17 = .ok (.getfield 66, 3) := D22 9 rfl rfl rfl
theorem d22_20 : decode (am_mc 22) 20 = .ok (.aaload, 1) := D22 10 rfl rfl rfl
theorem d22_21 : decode (am_mc 22) 21 = .ok (.goto 7, 3) := D22 11 rfl rfl rfl
theorem d22_24 : decode (am_mc 22) 24 = .ok (.aload_n 0, 1) := D22 12 rfl rfl rfl
theorem d22_25 : decode (am_mc 22) 25 = .ok (.getfield 20, 3) := D22 13 rfl rfl rfl
theorem d22_28 : decode (am_mc 22) 28 = .ok (.astore_n 2, 1) := D22 14 rfl rfl rfl
theorem d22_29 : decode (am_mc 22) 29 = .ok (.aload_n 2, 1) := D22 15 rfl rfl rfl
theorem d22_30 : decode (am_mc 22) 30 = .ok (.invokevirtual 75, 3) := D22 16 rfl rfl rfl
theorem d22_33 : decode (am_mc 22) 33 = .ok (.aload_n 1, 1) := D22 17 rfl rfl rfl
theorem d22_34 : decode (am_mc 22) 34 = .ok (.aload_n 0, 1) := D22 18 rfl rfl rfl
theorem d22_35 : decode (am_mc 22) 35 = .ok (.getfield 72, 3) := D22 19 rfl rfl rfl
theorem d22_38 : decode (am_mc 22) 38 = .ok (.invokevirtual 78, 3) := D22 20 rfl rfl rfl
theorem d22_41 : decode (am_mc 22) 41 = .ok (.bipush 34, 2) := D22 21 rfl rfl rfl
theorem d22_43 : decode (am_mc 22) 43 = .ok (.if_icmp .ne 12, 3) := D22 22 rfl rfl rfl
theorem d22_46 : decode (am_mc 22) 46 = .ok (.aload_n 0, 1) := D22 23 rfl rfl rfl
theorem d22_47 : decode (am_mc 22) 47 = .ok (.aload_n 1, 1) := D22 24 rfl rfl rfl
theorem d22_48 : decode (am_mc 22) 48 = .ok (.aload_n 2, 1) := D22 25 rfl rfl rfl
theorem d22_49 : decode (am_mc 22) 49 = .ok (.invokevirtual 84, 3) := D22 26 rfl rfl rfl
theorem d22_52 : decode (am_mc 22) 52 = .ok (.goto 9, 3) := D22 27 rfl rfl rfl
theorem d22_55 : decode (am_mc 22) 55 = .ok (.aload_n 0, 1) := D22 28 rfl rfl rfl
theorem d22_56 : decode (am_mc 22) 56 = .ok (.aload_n 1, 1) := D22 29 rfl rfl rfl
theorem d22_57 : decode (am_mc 22) 57 = .ok (.aload_n 2, 1) := D22 30 rfl rfl rfl
theorem d22_58 : decode (am_mc 22) 58 = .ok (.invokevirtual 88, 3) := D22 31 rfl rfl rfl
theorem d22_61 : decode (am_mc 22) 61 = .ok (.aload_n 0, 1) := D22 32 rfl rfl rfl
theorem d22_62 : decode (am_mc 22) 62 = .ok (.aload_n 0, 1) := D22 33 rfl rfl rfl
theorem d22_63 : decode (am_mc 22) 63 = .ok (.getfield 49, 3) := D22 34 rfl rfl rfl
theorem d22_66 : decode (am_mc 22) 66 = .ok (.ifCond .eq 16, 3) := D22 35 rfl rfl rfl
theorem d22_69 : decode (am_mc 22) 69 = .ok (.aload_n 2, 1) := D22 36 rfl rfl rfl
theorem d22_70 : decode (am_mc 22) 70 = .ok (.invokevirtual 91, 3) := D22 37 rfl rfl rfl
theorem d22_73 : decode (am_mc 22) 73 = .ok (.bipush 12, 2) := D22 38 rfl rfl rfl
theorem d22_75 : decode (am_mc 22) 75 = .ok (.if_icmp .gt 7, 3) := D22 39 rfl rfl rfl
theorem d22_78 : decode (am_mc 22) 78 = .ok (.iconst 1, 1) := D22 40 rfl rfl rfl
theorem d22_79 : decode (am_mc 22) 79 = .ok (.goto 4, 3) := D22 41 rfl rfl rfl
theorem d22_82 : decode (am_mc 22) 82 = .ok (.iconst 0, 1) := D22 42 rfl rfl rfl
theorem d22_83 : decode (am_mc 22) 83 = .ok (.putfield 49, 3) := D22 43 rfl rfl rfl
theorem d22_86 : decode (am_mc 22) 86 = .ok (.aload_n 0, 1) := D22 44 rfl rfl rfl
theorem d22_87 : decode (am_mc 22) 87 = .ok (.dup, 1) := D22 45 rfl rfl rfl
theorem d22_88 : decode (am_mc 22) 88 = .ok (.getfield 66, 3) := D22 46 rfl rfl rfl
theorem d22_91 : decode (am_mc 22) 91 = .ok (.iconst 1, 1) := D22 47 rfl rfl rfl
theorem d22_92 : decode (am_mc 22) 92 = .ok (.iadd, 1) := D22 48 rfl rfl rfl
theorem d22_93 : decode (am_mc 22) 93 = .ok (.putfield 66, 3) := D22 49 rfl rfl rfl
theorem d22_96 : decode (am_mc 22) 96 = .ok (.aload_n 0, 1) := D22 50 rfl rfl rfl
theorem d22_97 : decode (am_mc 22) 97 = .ok (.dup, 1) := D22 51 rfl rfl rfl
theorem d22_98 : decode (am_mc 22) 98 = .ok (.getfield 69, 3) := D22 52 rfl rfl rfl
theorem d22_101 : decode (am_mc 22) 101 = .ok (.iconst 1, 1) := D22 53 rfl rfl rfl
theorem d22_102 : decode (am_mc 22) 102 = .ok (.iadd, 1) := D22 54 rfl rfl rfl
theorem d22_103 : decode (am_mc 22) 103 = .ok (.putfield 69, 3) := D22 55 rfl rfl rfl
theorem d22_106 : decode (am_mc 22) 106 = .ok (.return_, 1) := D22 56 rfl rfl rfl
theorem ml22 : ∀ n, n < 3 → n < am_ml 22 := fun _ h => h
theorem mo22 : am_mo 22 = 2 := by decide +kernel
theorem rk22 : am_rk 22 = 0 := by decide +kernel
theorem rg22 : am_rcg 22 = 3 := by decide +kernel
theorem f2_11 : tb_f 2 11 = some (2, 0, 5, 21) := by decide +kernel
theorem f2_20 : tb_f 2 20 = some (2, 1, 5, 3) := by decide +kernel
theorem m2_75 : tb_m 2 75 = some (14, 1, 0, 0) := by decide +kernel
theorem m2_84 : tb_m 2 84 = some (18, 3, 0, 0) := by decide +kernel
theorem m2_88 : tb_m 2 88 = some (20, 3, 0, 0) := by decide +kernel
theorem m2_91 : tb_m 2 91 = some (21, 1, 1, 0) := by decide +kernel
theorem dp22_14 : am_md 14 + 1 ≤ am_md 22 ∧ 8 + (am_ml 14 + 11) + am_lr 14 ≤ am_lr 22 := by decide +kernel
theorem dp22_15 : am_md 15 + 1 ≤ am_md 22 ∧ 8 + (am_ml 15 + 11) + am_lr 15 ≤ am_lr 22 := by decide +kernel
theorem dp22_18 : am_md 18 + 1 ≤ am_md 22 ∧ 8 + (am_ml 18 + 11) + am_lr 18 ≤ am_lr 22 := by decide +kernel
theorem dp22_20 : am_md 20 + 1 ≤ am_md 22 ∧ 8 + (am_ml 20 + 11) + am_lr 20 ≤ am_lr 22 := by decide +kernel
theorem dp22_21 : am_md 21 + 1 ≤ am_md 22 ∧ 8 + (am_ml 21 + 11) + am_lr 21 ≤ am_lr 22 := by decide +kernel
def fn22 (o : Nat) (a : Nat) (μ : am_M) : Option (Int × am_M) := (if μ o 4 < ((am_len (am_ref o 0) : Nat) : Int) then (if (0 : Int) ≤ μ o 4 ∧ μ o 4 < ((am_len (am_ref o 0) : Nat) : Int) then (am_op (fn14 (am_ref (am_ref o 0) (μ o 4 : Int).toNat) μ) (fun z7 => (am_op (fn15 a (z7.2 o 8) z7.2) (fun z8 => (if z8.1 = 34 then (am_op (fn18 o a (am_ref (am_ref o 0) (μ o 4 : Int).toNat) z8.2) (fun z11 => (if z11.2 o 11 = 0 then some (0, am_up (am_up (am_up z11.2 o 11 0) o 4 (w32 (((am_up z11.2 o 11 0) o 4) + 1))) o 7 (w32 (((am_up (am_up z11.2 o 11 0) o 4 (w32 (((am_up z11.2 o 11 0) o 4) + 1))) o 7) + 1))) else (am_op (fn21 (am_ref (am_ref o 0) (μ o 4 : Int).toNat) z11.2) (fun z12 => (if 12 < z12.1 then some (0, am_up (am_up (am_up z12.2 o 11 0) o 4 (w32 (((am_up z12.2 o 11 0) o 4) + 1))) o 7 (w32 (((am_up (am_up z12.2 o 11 0) o 4 (w32 (((am_up z12.2 o 11 0) o 4) + 1))) o 7) + 1))) else some (0, am_up (am_up (am_up z12.2 o 11 1) o 4 (w32 (((am_up z12.2 o 11 1) o 4) + 1))) o 7 (w32 (((am_up (am_up z12.2 o 11 1) o 4 (w32 (((am_up z12.2 o 11 1) o 4) + 1))) o 7) + 1))))))))) else (am_op (fn20 o a (am_ref (am_ref o 0) (μ o 4 : Int).toNat) z8.2) (fun z9 => (if z9.2 o 11 = 0 then some (0, am_up (am_up (am_up z9.2 o 11 0) o 4 (w32 (((am_up z9.2 o 11 0) o 4) + 1))) o 7 (w32 (((am_up (am_up z9.2 o 11 0) o 4 (w32 (((am_up z9.2 o 11 0) o 4) + 1))) o 7) + 1))) else (am_op (fn21 (am_ref (am_ref o 0) (μ o 4 : Int).toNat) z9.2) (fun z10 => (if 12 < z10.1 then some (0, am_up (am_up (am_up z10.2 o 11 0) o 4 (w32 (((am_up z10.2 o 11 0) o 4) + 1))) o 7 (w32 (((am_up (am_up z10.2 o 11 0) o 4 (w32 (((am_up z10.2 o 11 0) o 4) + 1))) o 7) + 1))) else some (0, am_up (am_up (am_up z10.2 o 11 1) o 4 (w32 (((am_up z10.2 o 11 1) o 4) + 1))) o 7 (w32 (((am_up (am_up z10.2 o 11 1) o 4 (w32 (((am_up z10.2 o 11 1) o 4) + 1))) o 7) + 1)))))))))))))) else none) else (am_op (fn14 (am_ref o 1) μ) (fun z1 => (am_op (fn15 a (z1.2 o 8) z1.2) (fun z2 => (if z2.1 = 34 then (am_op (fn18 o a (am_ref o 1) z2.2) (fun z5 => (if z5.2 o 11 = 0 then some (0, am_up (am_up (am_up z5.2 o 11 0) o 4 (w32 (((am_up z5.2 o 11 0) o 4) + 1))) o 7 (w32 (((am_up (am_up z5.2 o 11 0) o 4 (w32 (((am_up z5.2 o 11 0) o 4) + 1))) o 7) + 1))) else (am_op (fn21 (am_ref o 1) z5.2) (fun z6 => (if 12 < z6.1 then some (0, am_up (am_up (am_up z6.2 o 11 0) o 4 (w32 (((am_up z6.2 o 11 0) o 4) + 1))) o 7 (w32 (((am_up (am_up z6.2 o 11 0) o 4 (w32 (((am_up z6.2 o 11 0) o 4) + 1))) o 7) + 1))) else some (0, am_up (am_up (am_up z6.2 o 11 1) o 4 (w32 (((am_up z6.2 o 11 1) o 4) + 1))) o 7 (w32 (((am_up (am_up z6.2 o 11 1) o 4 (w32 (((am_up z6.2 o 11 1) o 4) + 1))) o 7) + 1))))))))) else (am_op (fn20 o a (am_ref o 1) z2.2) (fun z3 => (if z3.2 o 11 = 0 then some (0, am_up (am_up (am_up z3.2 o 11 0) o 4 (w32 (((am_up z3.2 o 11 0) o 4) + 1))) o 7 (w32 (((am_up (am_up z3.2 o 11 0) o 4 (w32 (((am_up z3.2 o 11 0) o 4) + 1))) o 7) + 1))) else (am_op (fn21 (am_ref o 1) z3.2) (fun z4 => (if 12 < z4.1 then some (0, am_up (am_up (am_up z4.2 o 11 0) o 4 (w32 (((am_up z4.2 o 11 0) o 4) + 1))) o 7 (w32 (((am_up (am_up z4.2 o 11 0) o 4 (w32 (((am_up z4.2 o 11 0) o 4) + 1))) o 7) + 1))) else some (0, am_up (am_up (am_up z4.2 o 11 1) o 4 (w32 (((am_up z4.2 o 11 1) o 4) + 1))) o 7 (w32 (((am_up (am_up z4.2 o 11 1) o 4 (w32 (((am_up z4.2 o 11 1) o 4) + 1))) o 7) + 1)))))))))))))))
def sp22 : am_F := fun vs μ => am_aR 2 vs fun o vs => am_aR 1 vs fun a vs => am_a0 vs (fn22 o a μ)
theorem e22 (o : Nat) (a : Nat) (μ : am_M) : sp22 [.inr (.inr (2, o)), .inr (.inr (1, a))] μ = fn22 o a μ := am_aR_c.trans (am_aR_c.trans am_a0_c)
theorem sd22 : am_Sd 22 sp22 := by
  refine am_Sd_of (by decide) (fun vs μ μ' x h hv hM => ?_)
  obtain ⟨o, vs0, rfl, h0⟩ := am_aR_s h
  obtain ⟨a, vs1, rfl, h1⟩ := am_aR_s h0
  obtain ⟨rfl, hz⟩ := am_a0_s h1
  refine ⟨Nat.le_of_ble_eq_true rfl, fun X C hG hr => ?_⟩
  have h := hz
  unfold fn22 at h
  exact (show am_W X C 22 _ 0 0 0 [(0, .inr (.inr (2, o))), (1, .inr (.inr (1, a)))] [] μ from (am_c_aload_n hG (pc := 0) d22_0 rfl (x_get_n (v := .inl (μ o 4)) hG (pc := 1) d22_1 mo22 f2_66 rfl (am_c_aload_n hG (pc := 4) d22_4 rfl (x_get_n (v := .inr (.inr (21, am_ref o 0))) hG (pc := 5) d22_5 mo22 f2_11 rfl (am_c_len hG (pc := 8) d22_8 (by decide) (x_icmp_ge (tgt := 24) hG (pc := 9) d22_9 rfl h (fun h => (am_c_aload_n hG (pc := 24) d22_24 rfl (x_get_n (v := .inr (.inr (3, am_ref o 1))) hG (pc := 25) d22_25 mo22 f2_20 rfl (x_astore_n (lv' := [(2, .inr (.inr (3, am_ref o 1))), (0, .inr (.inr (2, o))), (1, .inr (.inr (1, a)))]) hG (pc := 28) d22_28 (ml22 _ (by decide)) rfl (am_c_aload_n hG (pc := 29) d22_29 rfl (x_virtual_v (t := 3) (o := am_ref o 1) (as2 := []) (rest := []) hG (pc := 30) d22_30 mo22 m2_75 (by decide) dp22_14 rfl rfl (Nat.le_of_ble_eq_true rfl) (Nat.le_of_ble_eq_true rfl) rg14 sd14 (e14 _ _) h (fun z1 h => (am_c_aload_n hG (pc := 33) d22_33 rfl (am_c_aload_n hG (pc := 34) d22_34 rfl (x_get_n (v := .inl (z1.2 o 8)) hG (pc := 35) d22_35 mo22 f2_72 rfl (x_virtual_i (t := 1) (o := a) (as2 := [.inl (z1.2 o 8)]) (rest := []) hG (pc := 38) d22_38 mo22 m2_78 (by decide) dp22_15 rfl rfl (Nat.le_of_ble_eq_true rfl) (Nat.le_of_ble_eq_true rfl) rg15 sd15 (e15 _ _ _) h (fun z2 h => (am_c_bipush hG (pc := 41) d22_41 (by decide) (x_icmp_ne (tgt := 55) hG (pc := 43) d22_43 rfl h (fun h => (am_c_aload_n hG (pc := 55) d22_55 rfl (am_c_aload_n hG (pc := 56) d22_56 rfl (am_c_aload_n hG (pc := 57) d22_57 rfl (x_virtual_v (t := 2) (o := o) (as2 := [.inr (.inr (1, a)), .inr (.inr (3, am_ref o 1))]) (rest := []) hG (pc := 58) d22_58 mo22 m2_88 (by decide) dp22_20 rfl rfl (Nat.le_of_ble_eq_true rfl) (Nat.le_of_ble_eq_true rfl) rg20 sd20 (e20 _ _ _ _) h (fun z3 h => (am_c_aload_n hG (pc := 61) d22_61 rfl (am_c_aload_n hG (pc := 62) d22_62 rfl (x_get_n (v := .inl (z3.2 o 11)) hG (pc := 63) d22_63 mo22 f2_49 rfl (x_if_eq (tgt := 82) hG (pc := 66) d22_66 rfl h (fun h => (am_c_iconst hG (pc := 82) d22_82 (by decide) (x_put_0 hG (pc := 83) d22_83 mo22 f2_49 (by decide) (am_c_aload_n hG (pc := 86) d22_86 rfl (am_c_dup hG (pc := 87) d22_87 rfl (x_get_n (v := .inl ((am_up z3.2 o 11 0) o 4)) hG (pc := 88) d22_88 mo22 f2_66 rfl (am_c_iconst hG (pc := 91) d22_91 (by decide) (am_c_iadd hG (pc := 92) d22_92 (x_put_i hG (pc := 93) d22_93 mo22 f2_66 (by decide) (am_c_aload_n hG (pc := 96) d22_96 rfl (am_c_dup hG (pc := 97) d22_97 rfl (x_get_n (v := .inl ((am_up (am_up z3.2 o 11 0) o 4 (w32 (((am_up z3.2 o 11 0) o 4) + 1))) o 7)) hG (pc := 98) d22_98 mo22 f2_69 rfl (am_c_iconst hG (pc := 101) d22_101 (by decide) (am_c_iadd hG (pc := 102) d22_102 (x_put_i hG (pc := 103) d22_103 mo22 f2_69 (by decide) (xq_vret hG (by decide) hr (pc := 106) d22_106 rk22 (am_q0 h))))))))))))))))) (fun h => (am_c_aload_n hG (pc := 69) d22_69 rfl (x_virtual_i (t := 3) (o := am_ref o 1) (as2 := []) (rest := [.inr (.inr (2, o))]) hG (pc := 70) d22_70 mo22 m2_91 (by decide) dp22_21 rfl rfl (Nat.le_of_ble_eq_true rfl) (Nat.le_of_ble_eq_true rfl) rg21 sd21 (e21 _ _) h (fun z4 h => (am_c_bipush hG (pc := 73) d22_73 (by decide) (x_icmp_gt (tgt := 82) hG (pc := 75) d22_75 rfl h (fun h => (am_c_iconst hG (pc := 82) d22_82 (by decide) (x_put_0 hG (pc := 83) d22_83 mo22 f2_49 (by decide) (am_c_aload_n hG (pc := 86) d22_86 rfl (am_c_dup hG (pc := 87) d22_87 rfl (x_get_n (v := .inl ((am_up z4.2 o 11 0) o 4)) hG (pc := 88) d22_88 mo22 f2_66 rfl (am_c_iconst hG (pc := 91) d22_91 (by decide) (am_c_iadd hG (pc := 92) d22_92 (x_put_i hG (pc := 93) d22_93 mo22 f2_66 (by decide) (am_c_aload_n hG (pc := 96) d22_96 rfl (am_c_dup hG (pc := 97) d22_97 rfl (x_get_n (v := .inl ((am_up (am_up z4.2 o 11 0) o 4 (w32 (((am_up z4.2 o 11 0) o 4) + 1))) o 7)) hG (pc := 98) d22_98 mo22 f2_69 rfl (am_c_iconst hG (pc := 101) d22_101 (by decide) (am_c_iadd hG (pc := 102) d22_102 (x_put_i hG (pc := 103) d22_103 mo22 f2_69 (by decide) (xq_vret hG (by decide) hr (pc := 106) d22_106 rk22 (am_q0 h))))))))))))))))) (fun h => (am_c_iconst hG (pc := 78) d22_78 (by decide) (x_goto (tgt := 83) hG (pc := 79) d22_79 rfl (x_put_1 hG (pc := 83) d22_83 mo22 f2_49 (by decide) (am_c_aload_n hG (pc := 86) d22_86 rfl (am_c_dup hG (pc := 87) d22_87 rfl (x_get_n (v := .inl ((am_up z4.2 o 11 1) o 4)) hG (pc := 88) d22_88 mo22 f2_66 rfl (am_c_iconst hG (pc := 91) d22_91 (by decide) (am_c_iadd hG (pc := 92) d22_92 (x_put_i hG (pc := 93) d22_93 mo22 f2_66 (by decide) (am_c_aload_n hG (pc := 96) d22_96 rfl (am_c_dup hG (pc := 97) d22_97 rfl (x_get_n (v := .inl ((am_up (am_up z4.2 o 11 1) o 4 (w32 (((am_up z4.2 o 11 1) o 4) + 1))) o 7)) hG (pc := 98) d22_98 mo22 f2_69 rfl (am_c_iconst hG (pc := 101) d22_101 (by decide) (am_c_iadd hG (pc := 102) d22_102 (x_put_i hG (pc := 103) d22_103 mo22 f2_69 (by decide) (xq_vret hG (by decide) hr (pc := 106) d22_106 rk22 (am_q0 h)))))))))))))))))))))))))))))))))) (fun h => (am_c_aload_n hG (pc := 46) d22_46 rfl (am_c_aload_n hG (pc := 47) d22_47 rfl (am_c_aload_n hG (pc := 48) d22_48 rfl (x_virtual_v (t := 2) (o := o) (as2 := [.inr (.inr (1, a)), .inr (.inr (3, am_ref o 1))]) (rest := []) hG (pc := 49) d22_49 mo22 m2_84 (by decide) dp22_18 rfl rfl (Nat.le_of_ble_eq_true rfl) (Nat.le_of_ble_eq_true rfl) rg18 sd18 (e18 _ _ _ _) h (fun z5 h => (x_goto (tgt := 61) hG (pc := 52) d22_52 rfl (am_c_aload_n hG (pc := 61) d22_61 rfl (am_c_aload_n hG (pc := 62) d22_62 rfl (x_get_n (v := .inl (z5.2 o 11)) hG (pc := 63) d22_63 mo22 f2_49 rfl (x_if_eq (tgt := 82) hG (pc := 66) d22_66 rfl h (fun h => (am_c_iconst hG (pc := 82) d22_82 (by decide) (x_put_0 hG (pc := 83) d22_83 mo22 f2_49 (by decide) (am_c_aload_n hG (pc := 86) d22_86 rfl (am_c_dup hG (pc := 87) d22_87 rfl (x_get_n (v := .inl ((am_up z5.2 o 11 0) o 4)) hG (pc := 88) d22_88 mo22 f2_66 rfl (am_c_iconst hG (pc := 91) d22_91 (by decide) (am_c_iadd hG (pc := 92) d22_92 (x_put_i hG (pc := 93) d22_93 mo22 f2_66 (by decide) (am_c_aload_n hG (pc := 96) d22_96 rfl (am_c_dup hG (pc := 97) d22_97 rfl (x_get_n (v := .inl ((am_up (am_up z5.2 o 11 0) o 4 (w32 (((am_up z5.2 o 11 0) o 4) + 1))) o 7)) hG (pc := 98) d22_98 mo22 f2_69 rfl (am_c_iconst hG (pc := 101) d22_101 (by decide) (am_c_iadd hG (pc := 102) d22_102 (x_put_i hG (pc := 103) d22_103 mo22 f2_69 (by decide) (xq_vret hG (by decide) hr (pc := 106) d22_106 rk22 (am_q0 h))))))))))))))))) (fun h => (am_c_aload_n hG (pc := 69) d22_69 rfl (x_virtual_i (t := 3) (o := am_ref o 1) (as2 := []) (rest := [.inr (.inr (2, o))]) hG (pc := 70) d22_70 mo22 m2_91 (by decide) dp22_21 rfl rfl (Nat.le_of_ble_eq_true rfl) (Nat.le_of_ble_eq_true rfl) rg21 sd21 (e21 _ _) h (fun z6 h => (am_c_bipush hG (pc := 73) d22_73 (by decide) (x_icmp_gt (tgt := 82) hG (pc := 75) d22_75 rfl h (fun h => (am_c_iconst hG (pc := 82) d22_82 (by decide) (x_put_0 hG (pc := 83) d22_83 mo22 f2_49 (by decide) (am_c_aload_n hG (pc := 86) d22_86 rfl (am_c_dup hG (pc := 87) d22_87 rfl (x_get_n (v := .inl ((am_up z6.2 o 11 0) o 4)) hG (pc := 88) d22_88 mo22 f2_66 rfl (am_c_iconst hG (pc := 91) d22_91 (by decide) (am_c_iadd hG (pc := 92) d22_92 (x_put_i hG (pc := 93) d22_93 mo22 f2_66 (by decide) (am_c_aload_n hG (pc := 96) d22_96 rfl (am_c_dup hG (pc := 97) d22_97 rfl (x_get_n (v := .inl ((am_up (am_up z6.2 o 11 0) o 4 (w32 (((am_up z6.2 o 11 0) o 4) + 1))) o 7)) hG (pc := 98) d22_98 mo22 f2_69 rfl (am_c_iconst hG (pc := 101) d22_101 (by decide) (am_c_iadd hG (pc := 102) d22_102 (x_put_i hG (pc := 103) d22_103 mo22 f2_69 (by decide) (xq_vret hG (by decide) hr (pc := 106) d22_106 rk22 (am_q0 h))))))))))))))))) (fun h => (am_c_iconst hG (pc := 78) d22_78 (by decide) (x_goto (tgt := 83) hG (pc := 79) d22_79 rfl (x_put_1 hG (pc := 83) d22_83 mo22 f2_49 (by decide) (am_c_aload_n hG (pc := 86) d22_86 rfl (am_c_dup hG (pc := 87) d22_87 rfl (x_get_n (v := .inl ((am_up z6.2 o 11 1) o 4)) hG (pc := 88) d22_88 mo22 f2_66 rfl (am_c_iconst hG (pc := 91) d22_91 (by decide) (am_c_iadd hG (pc := 92) d22_92 (x_put_i hG (pc := 93) d22_93 mo22 f2_66 (by decide) (am_c_aload_n hG (pc := 96) d22_96 rfl (am_c_dup hG (pc := 97) d22_97 rfl (x_get_n (v := .inl ((am_up (am_up z6.2 o 11 1) o 4 (w32 (((am_up z6.2 o 11 1) o 4) + 1))) o 7)) hG (pc := 98) d22_98 mo22 f2_69 rfl (am_c_iconst hG (pc := 101) d22_101 (by decide) (am_c_iadd hG (pc := 102) d22_102 (x_put_i hG (pc := 103) d22_103 mo22 f2_69 (by decide) (xq_vret hG (by decide) hr (pc := 106) d22_106 rk22 (am_q0 h))))))))))))))))))))))))))))))))))))))))))))))))) (fun h => (am_c_aload_n hG (pc := 12) d22_12 rfl (x_get_n (v := .inr (.inr (21, am_ref o 0))) hG (pc := 13) d22_13 mo22 f2_11 rfl (am_c_aload_n hG (pc := 16) d22_16 rfl (x_get_n (v := .inl (μ o 4)) hG (pc := 17) d22_17 mo22 f2_66 rfl (x_aaload_L hG (pc := 20) d22_20 h (fun h => (x_goto (tgt := 28) hG (pc := 21) d22_21 rfl (x_astore_n (lv' := [(2, .inr (.inr (3, am_ref (am_ref o 0) (μ o 4 : Int).toNat))), (0, .inr (.inr (2, o))), (1, .inr (.inr (1, a)))]) hG (pc := 28) d22_28 (ml22 _ (by decide)) rfl (am_c_aload_n hG (pc := 29) d22_29 rfl (x_virtual_v (t := 3) (o := am_ref (am_ref o 0) (μ o 4 : Int).toNat) (as2 := []) (rest := []) hG (pc := 30) d22_30 mo22 m2_75 (by decide) dp22_14 rfl rfl (Nat.le_of_ble_eq_true rfl) (Nat.le_of_ble_eq_true rfl) rg14 sd14 (e14 _ _) h (fun z7 h => (am_c_aload_n hG (pc := 33) d22_33 rfl (am_c_aload_n hG (pc := 34) d22_34 rfl (x_get_n (v := .inl (z7.2 o 8)) hG (pc := 35) d22_35 mo22 f2_72 rfl (x_virtual_i (t := 1) (o := a) (as2 := [.inl (z7.2 o 8)]) (rest := []) hG (pc := 38) d22_38 mo22 m2_78 (by decide) dp22_15 rfl rfl (Nat.le_of_ble_eq_true rfl) (Nat.le_of_ble_eq_true rfl) rg15 sd15 (e15 _ _ _) h (fun z8 h => (am_c_bipush hG (pc := 41) d22_41 (by decide) (x_icmp_ne (tgt := 55) hG (pc := 43) d22_43 rfl h (fun h => (am_c_aload_n hG (pc := 55) d22_55 rfl (am_c_aload_n hG (pc := 56) d22_56 rfl (am_c_aload_n hG (pc := 57) d22_57 rfl (x_virtual_v (t := 2) (o := o) (as2 := [.inr (.inr (1, a)), .inr (.inr (3, am_ref (am_ref o 0) (μ o 4 : Int).toNat))]) (rest := []) hG (pc := 58) d22_58 mo22 m2_88 (by decide) dp22_20 rfl rfl (Nat.le_of_ble_eq_true rfl) (Nat.le_of_ble_eq_true rfl) rg20 sd20 (e20 _ _ _ _) h (fun z9 h => (am_c_aload_n hG (pc := 61) d22_61 rfl (am_c_aload_n hG (pc := 62) d22_62 rfl (x_get_n (v := .inl (z9.2 o 11)) hG (pc := 63) d22_63 mo22 f2_49 rfl (x_if_eq (tgt := 82) hG (pc := 66) d22_66 rfl h (fun h => (am_c_iconst hG (pc := 82) d22_82 (by decide) (x_put_0 hG (pc := 83) d22_83 mo22 f2_49 (by decide) (am_c_aload_n hG (pc := 86) d22_86 rfl (am_c_dup hG (pc := 87) d22_87 rfl (x_get_n (v := .inl ((am_up z9.2 o 11 0) o 4)) hG (pc := 88) d22_88 mo22 f2_66 rfl (am_c_iconst hG (pc := 91) d22_91 (by decide) (am_c_iadd hG (pc := 92) d22_92 (x_put_i hG (pc := 93) d22_93 mo22 f2_66 (by decide) (am_c_aload_n hG (pc := 96) d22_96 rfl (am_c_dup hG (pc := 97) d22_97 rfl (x_get_n (v := .inl ((am_up (am_up z9.2 o 11 0) o 4 (w32 (((am_up z9.2 o 11 0) o 4) + 1))) o 7)) hG (pc := 98) d22_98 mo22 f2_69 rfl (am_c_iconst hG (pc := 101) d22_101 (by decide) (am_c_iadd hG (pc := 102) d22_102 (x_put_i hG (pc := 103) d22_103 mo22 f2_69 (by decide) (xq_vret hG (by decide) hr (pc := 106) d22_106 rk22 (am_q0 h))))))))))))))))) (fun h => (am_c_aload_n hG (pc := 69) d22_69 rfl (x_virtual_i (t := 3) (o := am_ref (am_ref o 0) (μ o 4 : Int).toNat) (as2 := []) (rest := [.inr (.inr (2, o))]) hG (pc := 70) d22_70 mo22 m2_91 (by decide) dp22_21 rfl rfl (Nat.le_of_ble_eq_true rfl) (Nat.le_of_ble_eq_true rfl) rg21 sd21 (e21 _ _) h (fun z10 h => (am_c_bipush hG (pc := 73) d22_73 (by decide) (x_icmp_gt (tgt := 82) hG (pc := 75) d22_75 rfl h (fun h => (am_c_iconst hG (pc := 82) d22_82 (by decide) (x_put_0 hG (pc := 83) d22_83 mo22 f2_49 (by decide) (am_c_aload_n hG (pc := 86) d22_86 rfl (am_c_dup hG (pc := 87) d22_87 rfl (x_get_n (v := .inl ((am_up z10.2 o 11 0) o 4)) hG (pc := 88) d22_88 mo22 f2_66 rfl (am_c_iconst hG (pc := 91) d22_91 (by decide) (am_c_iadd hG (pc := 92) d22_92 (x_put_i hG (pc := 93) d22_93 mo22 f2_66 (by decide) (am_c_aload_n hG (pc := 96) d22_96 rfl (am_c_dup hG (pc := 97) d22_97 rfl (x_get_n (v := .inl ((am_up (am_up z10.2 o 11 0) o 4 (w32 (((am_up z10.2 o 11 0) o 4) + 1))) o 7)) hG (pc := 98) d22_98 mo22 f2_69 rfl (am_c_iconst hG (pc := 101) d22_101 (by decide) (am_c_iadd hG (pc := 102) d22_102 (x_put_i hG (pc := 103) d22_103 mo22 f2_69 (by decide) (xq_vret hG (by decide) hr (pc := 106) d22_106 rk22 (am_q0 h))))))))))))))))) (fun h => (am_c_iconst hG (pc := 78) d22_78 (by decide) (x_goto (tgt := 83) hG (pc := 79) d22_79 rfl (x_put_1 hG (pc := 83) d22_83 mo22 f2_49 (by decide) (am_c_aload_n hG (pc := 86) d22_86 rfl (am_c_dup hG (pc := 87) d22_87 rfl (x_get_n (v := .inl ((am_up z10.2 o 11 1) o 4)) hG (pc := 88) d22_88 mo22 f2_66 rfl (am_c_iconst hG (pc := 91) d22_91 (by decide) (am_c_iadd hG (pc := 92) d22_92 (x_put_i hG (pc := 93) d22_93 mo22 f2_66 (by decide) (am_c_aload_n hG (pc := 96) d22_96 rfl (am_c_dup hG (pc := 97) d22_97 rfl (x_get_n (v := .inl ((am_up (am_up z10.2 o 11 1) o 4 (w32 (((am_up z10.2 o 11 1) o 4) + 1))) o 7)) hG (pc := 98) d22_98 mo22 f2_69 rfl (am_c_iconst hG (pc := 101) d22_101 (by decide) (am_c_iadd hG (pc := 102) d22_102 (x_put_i hG (pc := 103) d22_103 mo22 f2_69 (by decide) (xq_vret hG (by decide) hr (pc := 106) d22_106 rk22 (am_q0 h)))))))))))))))))))))))))))))))))) (fun h => (am_c_aload_n hG (pc := 46) d22_46 rfl (am_c_aload_n hG (pc := 47) d22_47 rfl (am_c_aload_n hG (pc := 48) d22_48 rfl (x_virtual_v (t := 2) (o := o) (as2 := [.inr (.inr (1, a)), .inr (.inr (3, am_ref (am_ref o 0) (μ o 4 : Int).toNat))]) (rest := []) hG (pc := 49) d22_49 mo22 m2_84 (by decide) dp22_18 rfl rfl (Nat.le_of_ble_eq_true rfl) (Nat.le_of_ble_eq_true rfl) rg18 sd18 (e18 _ _ _ _) h (fun z11 h => (x_goto (tgt := 61) hG (pc := 52) d22_52 rfl (am_c_aload_n hG (pc := 61) d22_61 rfl (am_c_aload_n hG (pc := 62) d22_62 rfl (x_get_n (v := .inl (z11.2 o 11)) hG (pc := 63) d22_63 mo22 f2_49 rfl (x_if_eq (tgt := 82) hG (pc := 66) d22_66 rfl h (fun h => (am_c_iconst hG (pc := 82) d22_82 (by decide) (x_put_0 hG (pc := 83) d22_83 mo22 f2_49 (by decide) (am_c_aload_n hG (pc := 86) d22_86 rfl (am_c_dup hG (pc := 87) d22_87 rfl (x_get_n (v := .inl ((am_up z11.2 o 11 0) o 4)) hG (pc := 88) d22_88 mo22 f2_66 rfl (am_c_iconst hG (pc := 91) d22_91 (by decide) (am_c_iadd hG (pc := 92) d22_92 (x_put_i hG (pc := 93) d22_93 mo22 f2_66 (by decide) (am_c_aload_n hG (pc := 96) d22_96 rfl (am_c_dup hG (pc := 97) d22_97 rfl (x_get_n (v := .inl ((am_up (am_up z11.2 o 11 0) o 4 (w32 (((am_up z11.2 o 11 0) o 4) + 1))) o 7)) hG (pc := 98) d22_98 mo22 f2_69 rfl (am_c_iconst hG (pc := 101) d22_101 (by decide) (am_c_iadd hG (pc := 102) d22_102 (x_put_i hG (pc := 103) d22_103 mo22 f2_69 (by decide) (xq_vret hG (by decide) hr (pc := 106) d22_106 rk22 (am_q0 h))))))))))))))))) (fun h => (am_c_aload_n hG (pc := 69) d22_69 rfl (x_virtual_i (t := 3) (o := am_ref (am_ref o 0) (μ o 4 : Int).toNat) (as2 := []) (rest := [.inr (.inr (2, o))]) hG (pc := 70) d22_70 mo22 m2_91 (by decide) dp22_21 rfl rfl (Nat.le_of_ble_eq_true rfl) (Nat.le_of_ble_eq_true rfl) rg21 sd21 (e21 _ _) h (fun z12 h => (am_c_bipush hG (pc := 73) d22_73 (by decide) (x_icmp_gt (tgt := 82) hG (pc := 75) d22_75 rfl h (fun h => (am_c_iconst hG (pc := 82) d22_82 (by decide) (x_put_0 hG (pc := 83) d22_83 mo22 f2_49 (by decide) (am_c_aload_n hG (pc := 86) d22_86 rfl (am_c_dup hG (pc := 87) d22_87 rfl (x_get_n (v := .inl ((am_up z12.2 o 11 0) o 4)) hG (pc := 88) d22_88 mo22 f2_66 rfl (am_c_iconst hG (pc := 91) d22_91 (by decide) (am_c_iadd hG (pc := 92) d22_92 (x_put_i hG (pc := 93) d22_93 mo22 f2_66 (by decide) (am_c_aload_n hG (pc := 96) d22_96 rfl (am_c_dup hG (pc := 97) d22_97 rfl (x_get_n (v := .inl ((am_up (am_up z12.2 o 11 0) o 4 (w32 (((am_up z12.2 o 11 0) o 4) + 1))) o 7)) hG (pc := 98) d22_98 mo22 f2_69 rfl (am_c_iconst hG (pc := 101) d22_101 (by decide) (am_c_iadd hG (pc := 102) d22_102 (x_put_i hG (pc := 103) d22_103 mo22 f2_69 (by decide) (xq_vret hG (by decide) hr (pc := 106) d22_106 rk22 (am_q0 h))))))))))))))))) (fun h => (am_c_iconst hG (pc := 78) d22_78 (by decide) (x_goto (tgt := 83) hG (pc := 79) d22_79 rfl (x_put_1 hG (pc := 83) d22_83 mo22 f2_49 (by decide) (am_c_aload_n hG (pc := 86) d22_86 rfl (am_c_dup hG (pc := 87) d22_87 rfl (x_get_n (v := .inl ((am_up z12.2 o 11 1) o 4)) hG (pc := 88) d22_88 mo22 f2_66 rfl (am_c_iconst hG (pc := 91) d22_91 (by decide) (am_c_iadd hG (pc := 92) d22_92 (x_put_i hG (pc := 93) d22_93 mo22 f2_66 (by decide) (am_c_aload_n hG (pc := 96) d22_96 rfl (am_c_dup hG (pc := 97) d22_97 rfl (x_get_n (v := .inl ((am_up (am_up z12.2 o 11 1) o 4 (w32 (((am_up z12.2 o 11 1) o 4) + 1))) o 7)) hG (pc := 98) d22_98 mo22 f2_69 rfl (am_c_iconst hG (pc := 101) d22_101 (by decide) (am_c_iadd hG (pc := 102) d22_102 (x_put_i hG (pc := 103) d22_103 mo22 f2_69 (by decide) (xq_vret hG (by decide) hr (pc := 106) d22_106 rk22 (am_q0 h)))))))))))))))))))))))))))))))))))))))))))))))))))))))))))))
/-! ChartPress$Table.lineBreakSize(LChartPress$Script;)I -/
theorem D23 (k : Nat) {pc : Nat} {i : Instr} (h : tbi23[k]? = some (pc, i)) (hs : am_isw i = false) {n : Nat} (hn : am_il i = n) : decode (am_mc 23) pc = .ok (i, n) := am_d2 (by decide) (by decide) rfl h hs hn
theorem d23_0 : decode (am_mc 23) 0 = .ok (.aload_n 1, 1) := D23 0 rfl rfl rfl
theorem d23_1 : decode (am_mc 23) 1 = .ok (.aload_n 0, 1) := D23 1 rfl rfl rfl
theorem d23_2 : decode (am_mc 23) 2 = .ok (.getfield 72, 3) := D23 2 rfl rfl rfl
theorem d23_5 : decode (am_mc 23) 5 = .ok (.invokevirtual 78, 3) := D23 3 rfl rfl rfl
theorem d23_8 : decode (am_mc 23) 8 = .ok (.bipush 10, 2) := D23 4 rfl rfl rfl
theorem d23_10 : decode (am_mc 23) 10 = .ok (.if_icmp .ne 5, 3) := D23 5 rfl rfl rfl
theorem d23_13 : decode (am_mc 23) 13 = .ok (.iconst 1, 1) := D23 6 rfl rfl rfl
theorem d23_14 : decode (am_mc 23) 14 = .ok (.ireturn, 1) := D23 7 rfl rfl rfl
theorem d23_15 : decode (am_mc 23) 15 = .ok (.aload_n 1, 1) := D23 8 rfl rfl rfl
theorem d23_16 : decode (am_mc 23) 16 = .ok (.aload_n 0, 1) := D23 9 rfl rfl rfl
theorem d23_17 : decode (am_mc 23) 17 = .ok (.getfield 72, 3) := D23 10 rfl rfl rfl
theorem d23_20 : decode (am_mc 23) 20 = .ok (.invokevirtual 78, 3) := D23 11 rfl rfl rfl
theorem d23_23 : decode (am_mc 23) 23 = .ok (.bipush 13, 2) := D23 12 rfl rfl rfl
theorem d23_25 : decode (am_mc 23) 25 = .ok (.if_icmp .ne 22, 3) := D23 13 rfl rfl rfl
theorem d23_28 : decode (am_mc 23) 28 = .ok (.aload_n 1, 1) := D23 14 rfl rfl rfl
theorem d23_29 : decode (am_mc 23) 29 = .ok (.aload_n 0, 1) := D23 15 rfl rfl rfl
theorem d23_30 : decode (am_mc 23) 30 = .ok (.getfield 72, 3) := D23 16 rfl rfl rfl
theorem d23_33 : decode (am_mc 23) 33 = .ok (.iconst 1, 1) := D23 17 rfl rfl rfl
theorem d23_34 : decode (am_mc 23) 34 = .ok (.iadd, 1) := D23 18 rfl rfl rfl
theorem d23_35 : decode (am_mc 23) 35 = .ok (.invokevirtual 78, 3) := D23 19 rfl rfl rfl
theorem d23_38 : decode (am_mc 23) 38 = .ok (.bipush 10, 2) := D23 20 rfl rfl rfl
theorem d23_40 : decode (am_mc 23) 40 = .ok (.if_icmp .ne 7, 3) := D23 21 rfl rfl rfl
theorem d23_43 : decode (am_mc 23) 43 = .ok (.iconst 2, 1) := D23 22 rfl rfl rfl
theorem d23_44 : decode (am_mc 23) 44 = .ok (.goto 4, 3) := D23 23 rfl rfl rfl
theorem d23_47 : decode (am_mc 23) 47 = .ok (.iconst 0, 1) := D23 24 rfl rfl rfl
theorem d23_48 : decode (am_mc 23) 48 = .ok (.ireturn, 1) := D23 25 rfl rfl rfl
theorem ml23 : ∀ n, n < 2 → n < am_ml 23 := fun _ h => h
theorem mo23 : am_mo 23 = 2 := by decide +kernel
theorem mr23 : am_mr 23 = some .int := by decide +kernel
theorem rg23 : am_rcg 23 = 3 := by decide +kernel
theorem dp23_15 : am_md 15 + 1 ≤ am_md 23 ∧ 8 + (am_ml 15 + 11) + am_lr 15 ≤ am_lr 23 := by decide +kernel
def fn23 (o : Nat) (a : Nat) (μ : am_M) : Option (Int × am_M) := (am_op (fn15 a (μ o 8) μ) (fun z1 => (if z1.1 = 10 then some (1, z1.2) else (am_op (fn15 a (z1.2 o 8) z1.2) (fun z2 => (if z2.1 = 13 then (am_op (fn15 a (w32 ((z2.2 o 8) + 1)) z2.2) (fun z3 => (if z3.1 = 10 then some (2, z3.2) else some (0, z3.2)))) else some (0, z2.2)))))))
def sp23 : am_F := fun vs μ => am_aR 2 vs fun o vs => am_aR 1 vs fun a vs => am_a0 vs (fn23 o a μ)
theorem e23 (o : Nat) (a : Nat) (μ : am_M) : sp23 [.inr (.inr (2, o)), .inr (.inr (1, a))] μ = fn23 o a μ := am_aR_c.trans (am_aR_c.trans am_a0_c)
theorem sd23 : am_Sd 23 sp23 := by
  refine am_Sd_of (by decide) (fun vs μ μ' x h hv hM => ?_)
  obtain ⟨o, vs0, rfl, h0⟩ := am_aR_s h
  obtain ⟨a, vs1, rfl, h1⟩ := am_aR_s h0
  obtain ⟨rfl, hz⟩ := am_a0_s h1
  refine ⟨Nat.le_of_ble_eq_true rfl, fun X C hG hr => ?_⟩
  have h := hz
  unfold fn23 at h
  exact (show am_W X C 23 _ 0 0 0 [(0, .inr (.inr (2, o))), (1, .inr (.inr (1, a)))] [] μ from (am_c_aload_n hG (pc := 0) d23_0 rfl (am_c_aload_n hG (pc := 1) d23_1 rfl (x_get_n (v := .inl (μ o 8)) hG (pc := 2) d23_2 mo23 f2_72 rfl (x_virtual_i (t := 1) (o := a) (as2 := [.inl (μ o 8)]) (rest := []) hG (pc := 5) d23_5 mo23 m2_78 (by decide) dp23_15 rfl rfl (Nat.le_of_ble_eq_true rfl) (Nat.le_of_ble_eq_true rfl) rg15 sd15 (e15 _ _ _) h (fun z1 h => (am_c_bipush hG (pc := 8) d23_8 (by decide) (x_icmp_ne (tgt := 15) hG (pc := 10) d23_10 rfl h (fun h => (am_c_aload_n hG (pc := 15) d23_15 rfl (am_c_aload_n hG (pc := 16) d23_16 rfl (x_get_n (v := .inl (z1.2 o 8)) hG (pc := 17) d23_17 mo23 f2_72 rfl (x_virtual_i (t := 1) (o := a) (as2 := [.inl (z1.2 o 8)]) (rest := []) hG (pc := 20) d23_20 mo23 m2_78 (by decide) dp23_15 rfl rfl (Nat.le_of_ble_eq_true rfl) (Nat.le_of_ble_eq_true rfl) rg15 sd15 (e15 _ _ _) h (fun z2 h => (am_c_bipush hG (pc := 23) d23_23 (by decide) (x_icmp_ne (tgt := 47) hG (pc := 25) d23_25 rfl h (fun h => (am_c_iconst hG (pc := 47) d23_47 (by decide) (xq_iret hG (by decide) hr (pc := 48) d23_48 mr23 (am_q0 h)))) (fun h => (am_c_aload_n hG (pc := 28) d23_28 rfl (am_c_aload_n hG (pc := 29) d23_29 rfl (x_get_n (v := .inl (z2.2 o 8)) hG (pc := 30) d23_30 mo23 f2_72 rfl (am_c_iconst hG (pc := 33) d23_33 (by decide) (am_c_iadd hG (pc := 34) d23_34 (x_virtual_i (t := 1) (o := a) (as2 := [.inl (w32 ((z2.2 o 8) + 1))]) (rest := []) hG (pc := 35) d23_35 mo23 m2_78 (by decide) dp23_15 rfl rfl (Nat.le_of_ble_eq_true rfl) (Nat.le_of_ble_eq_true rfl) rg15 sd15 (e15 _ _ _) h (fun z3 h => (am_c_bipush hG (pc := 38) d23_38 (by decide) (x_icmp_ne (tgt := 47) hG (pc := 40) d23_40 rfl h (fun h => (am_c_iconst hG (pc := 47) d23_47 (by decide) (xq_iret hG (by decide) hr (pc := 48) d23_48 mr23 (am_q0 h)))) (fun h => (am_c_iconst hG (pc := 43) d23_43 (by decide) (x_goto (tgt := 48) hG (pc := 44) d23_44 rfl (xq_iret hG (by decide) hr (pc := 48) d23_48 mr23 (am_q0 h))))))))))))))))))))))) (fun h => (am_c_iconst hG (pc := 13) d23_13 (by decide) (xq_iret hG (by decide) hr (pc := 14) d23_14 mr23 (am_q0 h))))))))))))
/-! ChartPress$Table.endRecord()V -/
theorem D24 (k : Nat) {pc : Nat} {i : Instr} (h : tbi24[k]? = some (pc, i)) (hs : am_isw i = false) {n : Nat} (hn : am_il i = n) : decode (am_mc 24) pc = .ok (i, n) := am_d2 (by decide) (by decide) rfl h hs hn
theorem d24_0 : decode (am_mc 24) 0 = .ok (.aload_n 0, 1) := D24 0 rfl rfl rfl
theorem d24_1 : decode (am_mc 24) 1 = .ok (.getfield 56, 3) := D24 1 rfl rfl rfl
theorem d24_4 : decode (am_mc 24) 4 = .ok (.ifCond .ne 11, 3) := D24 2 rfl rfl rfl
theorem d24_7 : decode (am_mc 24) 7 = .ok (.aload_n 0, 1) := D24 3 rfl rfl rfl
theorem d24_8 : decode (am_mc 24) 8 = .ok (.aload_n 0, 1) := D24 4 rfl rfl rfl
theorem d24_9 : decode (am_mc 24) 9 = .ok (.getfield 69, 3) := D24 5 rfl rfl rfl
theorem d24_12 : decode (am_mc 24) 12 = .ok (.putfield 52, 3) := D24 6 rfl rfl rfl
theorem d24_15 : decode (am_mc 24) 15 = .ok (.aload_n 0, 1) := D24 7 rfl rfl rfl
theorem d24_16 : decode (am_mc 24) 16 = .ok (.aload_n 0, 1) := D24 8 rfl rfl rfl
theorem d24_17 : decode (am_mc 24) 17 = .ok (.getfield 46, 3) := D24 9 rfl rfl rfl
theorem d24_20 : decode (am_mc 24) 20 = .ok (.ifCond .eq 18, 3) := D24 10 rfl rfl rfl
theorem d24_23 : decode (am_mc 24) 23 = .ok (.aload_n 0, 1) := D24 11 rfl rfl rfl
theorem d24_24 : decode (am_mc 24) 24 = .ok (.getfield 69, 3) := D24 12 rfl rfl rfl
theorem d24_27 : decode (am_mc 24) 27 = .ok (.aload_n 0, 1) := D24 13 rfl rfl rfl
theorem d24_28 : decode (am_mc 24) 28 = .ok (.getfield 52, 3) := D24 14 rfl rfl rfl
theorem d24_31 : decode (am_mc 24) 31 = .ok (.if_icmp .ne 7, 3) := D24 15 rfl rfl rfl
theorem d24_34 : decode (am_mc 24) 34 = .ok (.iconst 1, 1) := D24 16 rfl rfl rfl
theorem d24_35 : decode (am_mc 24) 35 = .ok (.goto 4, 3) := D24 17 rfl rfl rfl
theorem d24_38 : decode (am_mc 24) 38 = .ok (.iconst 0, 1) := D24 18 rfl rfl rfl
theorem d24_39 : decode (am_mc 24) 39 = .ok (.putfield 46, 3) := D24 19 rfl rfl rfl
theorem d24_42 : decode (am_mc 24) 42 = .ok (.aload_n 0, 1) := D24 20 rfl rfl rfl
theorem d24_43 : decode (am_mc 24) 43 = .ok (.dup, 1) := D24 21 rfl rfl rfl
theorem d24_44 : decode (am_mc 24) 44 = .ok (.getfield 56, 3) := D24 22 rfl rfl rfl
theorem d24_47 : decode (am_mc 24) 47 = .ok (.iconst 1, 1) := D24 23 rfl rfl rfl
theorem d24_48 : decode (am_mc 24) 48 = .ok (.iadd, 1) := D24 24 rfl rfl rfl
theorem d24_49 : decode (am_mc 24) 49 = .ok (.putfield 56, 3) := D24 25 rfl rfl rfl
theorem d24_52 : decode (am_mc 24) 52 = .ok (.aload_n 0, 1) := D24 26 rfl rfl rfl
theorem d24_53 : decode (am_mc 24) 53 = .ok (.iconst 0, 1) := D24 27 rfl rfl rfl
theorem d24_54 : decode (am_mc 24) 54 = .ok (.putfield 69, 3) := D24 28 rfl rfl rfl
theorem d24_57 : decode (am_mc 24) 57 = .ok (.return_, 1) := D24 29 rfl rfl rfl
theorem ml24 : ∀ n, n < 1 → n < am_ml 24 := fun _ h => h
theorem mo24 : am_mo 24 = 2 := by decide +kernel
theorem rk24 : am_rk 24 = 0 := by decide +kernel
theorem rg24 : am_rcg 24 = 3 := by decide +kernel
def fn24 (o : Nat) (μ : am_M) : Option (Int × am_M) := (if μ o 6 = 0 then (if (am_up μ o 5 (μ o 7)) o 10 = 0 then some (0, am_up (am_up (am_up (am_up μ o 5 (μ o 7)) o 10 0) o 6 (w32 (((am_up (am_up μ o 5 (μ o 7)) o 10 0) o 6) + 1))) o 7 0) else (if (am_up μ o 5 (μ o 7)) o 7 = (am_up μ o 5 (μ o 7)) o 5 then some (0, am_up (am_up (am_up (am_up μ o 5 (μ o 7)) o 10 1) o 6 (w32 (((am_up (am_up μ o 5 (μ o 7)) o 10 1) o 6) + 1))) o 7 0) else some (0, am_up (am_up (am_up (am_up μ o 5 (μ o 7)) o 10 0) o 6 (w32 (((am_up (am_up μ o 5 (μ o 7)) o 10 0) o 6) + 1))) o 7 0))) else (if μ o 10 = 0 then some (0, am_up (am_up (am_up μ o 10 0) o 6 (w32 (((am_up μ o 10 0) o 6) + 1))) o 7 0) else (if μ o 7 = μ o 5 then some (0, am_up (am_up (am_up μ o 10 1) o 6 (w32 (((am_up μ o 10 1) o 6) + 1))) o 7 0) else some (0, am_up (am_up (am_up μ o 10 0) o 6 (w32 (((am_up μ o 10 0) o 6) + 1))) o 7 0))))
def sp24 : am_F := fun vs μ => am_aR 2 vs fun o vs => am_a0 vs (fn24 o μ)
theorem e24 (o : Nat) (μ : am_M) : sp24 [.inr (.inr (2, o))] μ = fn24 o μ := am_aR_c.trans am_a0_c
theorem sd24 : am_Sd 24 sp24 := by
  refine am_Sd_of (by decide) (fun vs μ μ' x h hv hM => ?_)
  obtain ⟨o, vs0, rfl, h0⟩ := am_aR_s h
  obtain ⟨rfl, hz⟩ := am_a0_s h0
  refine ⟨Nat.le_of_ble_eq_true rfl, fun X C hG hr => ?_⟩
  have h := hz
  unfold fn24 at h
  exact (show am_W X C 24 _ 0 0 0 [(0, .inr (.inr (2, o)))] [] μ from (am_c_aload_n hG (pc := 0) d24_0 rfl (x_get_n (v := .inl (μ o 6)) hG (pc := 1) d24_1 mo24 f2_56 rfl (x_if_ne (tgt := 15) hG (pc := 4) d24_4 rfl h (fun h => (am_c_aload_n hG (pc := 15) d24_15 rfl (am_c_aload_n hG (pc := 16) d24_16 rfl (x_get_n (v := .inl (μ o 10)) hG (pc := 17) d24_17 mo24 f2_46 rfl (x_if_eq (tgt := 38) hG (pc := 20) d24_20 rfl h (fun h => (am_c_iconst hG (pc := 38) d24_38 (by decide) (x_put_0 hG (pc := 39) d24_39 mo24 f2_46 (by decide) (am_c_aload_n hG (pc := 42) d24_42 rfl (am_c_dup hG (pc := 43) d24_43 rfl (x_get_n (v := .inl ((am_up μ o 10 0) o 6)) hG (pc := 44) d24_44 mo24 f2_56 rfl (am_c_iconst hG (pc := 47) d24_47 (by decide) (am_c_iadd hG (pc := 48) d24_48 (x_put_i hG (pc := 49) d24_49 mo24 f2_56 (by decide) (am_c_aload_n hG (pc := 52) d24_52 rfl (am_c_iconst hG (pc := 53) d24_53 (by decide) (x_put_i hG (pc := 54) d24_54 mo24 f2_69 (by decide) (xq_vret hG (by decide) hr (pc := 57) d24_57 rk24 (am_q0 h)))))))))))))) (fun h => (am_c_aload_n hG (pc := 23) d24_23 rfl (x_get_n (v := .inl (μ o 7)) hG (pc := 24) d24_24 mo24 f2_69 rfl (am_c_aload_n hG (pc := 27) d24_27 rfl (x_get_n (v := .inl (μ o 5)) hG (pc := 28) d24_28 mo24 f2_52 rfl (x_icmp_ne (tgt := 38) hG (pc := 31) d24_31 rfl h (fun h => (am_c_iconst hG (pc := 38) d24_38 (by decide) (x_put_0 hG (pc := 39) d24_39 mo24 f2_46 (by decide) (am_c_aload_n hG (pc := 42) d24_42 rfl (am_c_dup hG (pc := 43) d24_43 rfl (x_get_n (v := .inl ((am_up μ o 10 0) o 6)) hG (pc := 44) d24_44 mo24 f2_56 rfl (am_c_iconst hG (pc := 47) d24_47 (by decide) (am_c_iadd hG (pc := 48) d24_48 (x_put_i hG (pc := 49) d24_49 mo24 f2_56 (by decide) (am_c_aload_n hG (pc := 52) d24_52 rfl (am_c_iconst hG (pc := 53) d24_53 (by decide) (x_put_i hG (pc := 54) d24_54 mo24 f2_69 (by decide) (xq_vret hG (by decide) hr (pc := 57) d24_57 rk24 (am_q0 h)))))))))))))) (fun h => (am_c_iconst hG (pc := 34) d24_34 (by decide) (x_goto (tgt := 39) hG (pc := 35) d24_35 rfl (x_put_1 hG (pc := 39) d24_39 mo24 f2_46 (by decide) (am_c_aload_n hG (pc := 42) d24_42 rfl (am_c_dup hG (pc := 43) d24_43 rfl (x_get_n (v := .inl ((am_up μ o 10 1) o 6)) hG (pc := 44) d24_44 mo24 f2_56 rfl (am_c_iconst hG (pc := 47) d24_47 (by decide) (am_c_iadd hG (pc := 48) d24_48 (x_put_i hG (pc := 49) d24_49 mo24 f2_56 (by decide) (am_c_aload_n hG (pc := 52) d24_52 rfl (am_c_iconst hG (pc := 53) d24_53 (by decide) (x_put_i hG (pc := 54) d24_54 mo24 f2_69 (by decide) (xq_vret hG (by decide) hr (pc := 57) d24_57 rk24 (am_q0 h)))))))))))))))))))))))))) (fun h => (am_c_aload_n hG (pc := 7) d24_7 rfl (am_c_aload_n hG (pc := 8) d24_8 rfl (x_get_n (v := .inl (μ o 7)) hG (pc := 9) d24_9 mo24 f2_69 rfl (x_put_i hG (pc := 12) d24_12 mo24 f2_52 (by decide) (am_c_aload_n hG (pc := 15) d24_15 rfl (am_c_aload_n hG (pc := 16) d24_16 rfl (x_get_n (v := .inl ((am_up μ o 5 (μ o 7)) o 10)) hG (pc := 17) d24_17 mo24 f2_46 rfl (x_if_eq (tgt := 38) hG (pc := 20) d24_20 rfl h (fun h => (am_c_iconst hG (pc := 38) d24_38 (by decide) (x_put_0 hG (pc := 39) d24_39 mo24 f2_46 (by decide) (am_c_aload_n hG (pc := 42) d24_42 rfl (am_c_dup hG (pc := 43) d24_43 rfl (x_get_n (v := .inl ((am_up (am_up μ o 5 (μ o 7)) o 10 0) o 6)) hG (pc := 44) d24_44 mo24 f2_56 rfl (am_c_iconst hG (pc := 47) d24_47 (by decide) (am_c_iadd hG (pc := 48) d24_48 (x_put_i hG (pc := 49) d24_49 mo24 f2_56 (by decide) (am_c_aload_n hG (pc := 52) d24_52 rfl (am_c_iconst hG (pc := 53) d24_53 (by decide) (x_put_i hG (pc := 54) d24_54 mo24 f2_69 (by decide) (xq_vret hG (by decide) hr (pc := 57) d24_57 rk24 (am_q0 h)))))))))))))) (fun h => (am_c_aload_n hG (pc := 23) d24_23 rfl (x_get_n (v := .inl ((am_up μ o 5 (μ o 7)) o 7)) hG (pc := 24) d24_24 mo24 f2_69 rfl (am_c_aload_n hG (pc := 27) d24_27 rfl (x_get_n (v := .inl ((am_up μ o 5 (μ o 7)) o 5)) hG (pc := 28) d24_28 mo24 f2_52 rfl (x_icmp_ne (tgt := 38) hG (pc := 31) d24_31 rfl h (fun h => (am_c_iconst hG (pc := 38) d24_38 (by decide) (x_put_0 hG (pc := 39) d24_39 mo24 f2_46 (by decide) (am_c_aload_n hG (pc := 42) d24_42 rfl (am_c_dup hG (pc := 43) d24_43 rfl (x_get_n (v := .inl ((am_up (am_up μ o 5 (μ o 7)) o 10 0) o 6)) hG (pc := 44) d24_44 mo24 f2_56 rfl (am_c_iconst hG (pc := 47) d24_47 (by decide) (am_c_iadd hG (pc := 48) d24_48 (x_put_i hG (pc := 49) d24_49 mo24 f2_56 (by decide) (am_c_aload_n hG (pc := 52) d24_52 rfl (am_c_iconst hG (pc := 53) d24_53 (by decide) (x_put_i hG (pc := 54) d24_54 mo24 f2_69 (by decide) (xq_vret hG (by decide) hr (pc := 57) d24_57 rk24 (am_q0 h)))))))))))))) (fun h => (am_c_iconst hG (pc := 34) d24_34 (by decide) (x_goto (tgt := 39) hG (pc := 35) d24_35 rfl (x_put_1 hG (pc := 39) d24_39 mo24 f2_46 (by decide) (am_c_aload_n hG (pc := 42) d24_42 rfl (am_c_dup hG (pc := 43) d24_43 rfl (x_get_n (v := .inl ((am_up (am_up μ o 5 (μ o 7)) o 10 1) o 6)) hG (pc := 44) d24_44 mo24 f2_56 rfl (am_c_iconst hG (pc := 47) d24_47 (by decide) (am_c_iadd hG (pc := 48) d24_48 (x_put_i hG (pc := 49) d24_49 mo24 f2_56 (by decide) (am_c_aload_n hG (pc := 52) d24_52 rfl (am_c_iconst hG (pc := 53) d24_53 (by decide) (x_put_i hG (pc := 54) d24_54 mo24 f2_69 (by decide) (xq_vret hG (by decide) hr (pc := 57) d24_57 rk24 (am_q0 h))))))))))))))))))))))))))))))))))
/-! ChartPress$Table.passSeparator(LChartPress$Script;)V -/
theorem D25 (k : Nat) {pc : Nat} {i : Instr} (h : tbi25[k]? = some (pc, i)) (hs : am_isw i = false) {n : Nat} (hn : am_il i = n) : decode (am_mc 25) pc = .ok (i, n) := am_d2 (by decide) (by decide) rfl h hs hn
theorem d25_0 : decode (am_mc 25) 0 = .ok (.aload_n 0, 1) := D25 0 rfl rfl rfl
theorem d25_1 : decode (am_mc 25) 1 = .ok (.aload_n 1, 1) := D25 1 rfl rfl rfl
theorem d25_2 : decode (am_mc 25) 2 = .ok (.invokevirtual 106, 3) := D25 2 rfl rfl rfl
theorem d25_5 : decode (am_mc 25) 5 = .ok (.istore_n 2, 1) := D25 3 rfl rfl rfl
theorem d25_6 : decode (am_mc 25) 6 = .ok (.aload_n 0, 1) := D25 4 rfl rfl rfl
theorem d25_7 : decode (am_mc 25) 7 = .ok (.getfield 72, 3) := D25 5 rfl rfl rfl
theorem d25_10 : decode (am_mc 25) 10 = .ok (.aload_n 1, 1) := D25 6 rfl rfl rfl
theorem d25_11 : decode (am_mc 25) 11 = .ok (.invokevirtual 95, 3) := D25 7 rfl rfl rfl
theorem d25_14 : decode (am_mc 25) 14 = .ok (.if_icmp .lt 15, 3) := D25 8 rfl rfl rfl
theorem d25_17 : decode (am_mc 25) 17 = .ok (.aload_n 0, 1) := D25 9 rfl rfl rfl
theorem d25_18 : decode (am_mc 25) 18 = .ok (.invokevirtual 110, 3) := D25 10 rfl rfl rfl
theorem d25_21 : decode (am_mc 25) 21 = .ok (.aload_n 0, 1) := D25 11 rfl rfl rfl
theorem d25_22 : decode (am_mc 25) 22 = .ok (.iconst 1, 1) := D25 12 rfl rfl rfl
theorem d25_23 : decode (am_mc 25) 23 = .ok (.putfield 35, 3) := D25 13 rfl rfl rfl
theorem d25_26 : decode (am_mc 25) 26 = .ok (.goto 80, 3) := D25 14 rfl rfl rfl
theorem d25_29 : decode (am_mc 25) 29 = .ok (.aload_n 1, 1) := D25 15 rfl rfl rfl
theorem d25_30 : decode (am_mc 25) 30 = .ok (.aload_n 0, 1) := D25 16 rfl rfl rfl
theorem d25_31 : decode (am_mc 25) 31 = .ok (.getfield 72, 3) := D25 17 rfl rfl rfl
theorem d25_34 : decode (am_mc 25) 34 = .ok (.invokevirtual 78, 3) := D25 18 rfl rfl rfl
theorem d25_37 : decode (am_mc 25) 37 = .ok (.bipush 44, 2) := D25 19 rfl rfl rfl
theorem d25_39 : decode (am_mc 25) 39 = .ok (.if_icmp .ne 16, 3) := D25 20 rfl rfl rfl
theorem d25_42 : decode (am_mc 25) 42 = .ok (.aload_n 0, 1) := D25 21 rfl rfl rfl
theorem d25_43 : decode (am_mc 25) 43 = .ok (.dup, 1) := D25 22 rfl rfl rfl
theorem d25_44 : decode (am_mc 25) 44 = .ok (.getfield 72, 3) := D25 23 rfl rfl rfl
theorem d25_47 : decode (am_mc 25) 47 = .ok (.iconst 1, 1) := D25 24 rfl rfl rfl
theorem d25_48 : decode (am_mc 25) 48 = .ok (.iadd, 1) := D25 25 rfl rfl rfl
theorem d25_49 : decode (am_mc 25) 49 = .ok (.putfield 72, 3) := D25 26 rfl rfl rfl
theorem d25_52 : decode (am_mc 25) 52 = .ok (.goto 54, 3) := D25 27 rfl rfl rfl
theorem d25_55 : decode (am_mc 25) 55 = .ok (.iload_n 2, 1) := D25 28 rfl rfl rfl
theorem d25_56 : decode (am_mc 25) 56 = .ok (.ifCond .le 40, 3) := D25 29 rfl rfl rfl
theorem d25_59 : decode (am_mc 25) 59 = .ok (.aload_n 0, 1) := D25 30 rfl rfl rfl
theorem d25_60 : decode (am_mc 25) 60 = .ok (.invokevirtual 110, 3) := D25 31 rfl rfl rfl
theorem d25_63 : decode (am_mc 25) 63 = .ok (.aload_n 0, 1) := D25 32 rfl rfl rfl
theorem d25_64 : decode (am_mc 25) 64 = .ok (.dup, 1) := D25 33 rfl rfl rfl
theorem d25_65 : decode (am_mc 25) 65 = .ok (.getfield 72, 3) := D25 34 rfl rfl rfl
theorem d25_68 : decode (am_mc 25) 68 = .ok (.iload_n 2, 1) := D25 35 rfl rfl rfl
theorem d25_69 : decode (am_mc 25) 69 = .ok (.iadd, 1) := D25 36 rfl rfl rfl
theorem d25_70 : decode (am_mc 25) 70 = .ok (.putfield 72, 3) := D25 37 rfl rfl rfl
theorem d25_73 : decode (am_mc 25) 73 = .ok (.aload_n 0, 1) := D25 38 rfl rfl rfl
theorem d25_74 : decode (am_mc 25) 74 = .ok (.aload_n 0, 1) := D25 39 rfl rfl rfl
theorem d25_75 : decode (am_mc 25) 75 = .ok (.getfield 72, 3) := D25 40 rfl rfl rfl
theorem d25_78 : decode (am_mc 25) 78 = .ok (.aload_n 1, 1) := D25 41 rfl rfl rfl
theorem d25_79 : decode (am_mc 25) 79 = .ok (.invokevirtual 95, 3) := D25 42 rfl rfl rfl
theorem d25_82 : decode (am_mc 25) 82 = .ok (.if_icmp .lt 7, 3) := D25 43 rfl rfl rfl
theorem d25_85 : decode (am_mc 25) 85 = .ok (.iconst 1, 1) := D25 44 rfl rfl rfl
theorem d25_86 : decode (am_mc 25) 86 = .ok (.goto 4, 3) := D25 45 rfl rfl rfl
theorem d25_89 : decode (am_mc 25) 89 = .ok (.iconst 0, 1) := D25 46 rfl rfl rfl
theorem d25_90 : decode (am_mc 25) 90 = .ok (.putfield 35, 3) := D25 47 rfl rfl rfl
theorem d25_93 : decode (am_mc 25) 93 = .ok (.goto 13, 3) := D25 48 rfl rfl rfl
theorem d25_96 : decode (am_mc 25) 96 = .ok (.aload_n 0, 1) := D25 49 rfl rfl rfl
theorem d25_97 : decode (am_mc 25) 97 = .ok (.iconst 0, 1) := D25 50 rfl rfl rfl
theorem d25_98 : decode (am_mc 25) 98 = .ok (.putfield 46, 3) := D25 51 rfl rfl rfl
theorem d25_101 : decode (am_mc 25) 101 = .ok (.aload_n 0, 1) := D25 52 rfl rfl rfl
theorem d25_102 : decode (am_mc 25) 102 = .ok (.iconst 1, 1) := D25 53 rfl rfl rfl
theorem d25_103 : decode (am_mc 25) 103 = .ok (.putfield 35, 3) := D25 54 rfl rfl rfl
theorem d25_106 : decode (am_mc 25) 106 = .ok (.return_, 1) := D25 55 rfl rfl rfl
theorem ml25 : ∀ n, n < 3 → n < am_ml 25 := fun _ h => h
theorem mo25 : am_mo 25 = 2 := by decide +kernel
theorem rk25 : am_rk 25 = 0 := by decide +kernel
theorem rg25 : am_rcg 25 = 3 := by decide +kernel
theorem m2_106 : tb_m 2 106 = some (23, 2, 1, 0) := by decide +kernel
theorem m2_110 : tb_m 2 110 = some (24, 1, 0, 0) := by decide +kernel
theorem dp25_15 : am_md 15 + 1 ≤ am_md 25 ∧ 8 + (am_ml 15 + 11) + am_lr 15 ≤ am_lr 25 := by decide +kernel
theorem dp25_16 : am_md 16 + 1 ≤ am_md 25 ∧ 8 + (am_ml 16 + 11) + am_lr 16 ≤ am_lr 25 := by decide +kernel
theorem dp25_23 : am_md 23 + 1 ≤ am_md 25 ∧ 8 + (am_ml 23 + 11) + am_lr 23 ≤ am_lr 25 := by decide +kernel
theorem dp25_24 : am_md 24 + 1 ≤ am_md 25 ∧ 8 + (am_ml 24 + 11) + am_lr 24 ≤ am_lr 25 := by decide +kernel
def fn25 (o : Nat) (a : Nat) (μ : am_M) : Option (Int × am_M) := (am_op (fn23 o a μ) (fun z1 => (am_op (fn16 a z1.2) (fun z2 => (if z1.2 o 8 < z2.1 then (am_op (fn15 a (z2.2 o 8) z2.2) (fun z3 => (if z3.1 = 44 then some (0, am_up z3.2 o 8 (w32 ((z3.2 o 8) + 1))) else (if 0 < z1.1 then (am_op (fn24 o z3.2) (fun z4 => (am_op (fn16 a (am_up z4.2 o 8 (w32 ((z4.2 o 8) + z1.1)))) (fun z5 => (if (am_up z4.2 o 8 (w32 ((z4.2 o 8) + z1.1))) o 8 < z5.1 then some (0, am_up z5.2 o 9 0) else some (0, am_up z5.2 o 9 1)))))) else some (0, am_up (am_up z3.2 o 10 0) o 9 1))))) else (am_op (fn24 o z2.2) (fun z6 => some (0, am_up z6.2 o 9 1))))))))
def sp25 : am_F := fun vs μ => am_aR 2 vs fun o vs => am_aR 1 vs fun a vs => am_a0 vs (fn25 o a μ)
theorem e25 (o : Nat) (a : Nat) (μ : am_M) : sp25 [.inr (.inr (2, o)), .inr (.inr (1, a))] μ = fn25 o a μ := am_aR_c.trans (am_aR_c.trans am_a0_c)
theorem sd25 : am_Sd 25 sp25 := by
  refine am_Sd_of (by decide) (fun vs μ μ' x h hv hM => ?_)
  obtain ⟨o, vs0, rfl, h0⟩ := am_aR_s h
  obtain ⟨a, vs1, rfl, h1⟩ := am_aR_s h0
  obtain ⟨rfl, hz⟩ := am_a0_s h1
  refine ⟨Nat.le_of_ble_eq_true rfl, fun X C hG hr => ?_⟩
  have h := hz
  unfold fn25 at h
  exact (show am_W X C 25 _ 0 0 0 [(0, .inr (.inr (2, o))), (1, .inr (.inr (1, a)))] [] μ from (am_c_aload_n hG (pc := 0) d25_0 rfl (am_c_aload_n hG (pc := 1) d25_1 rfl (x_virtual_i (t := 2) (o := o) (as2 := [.inr (.inr (1, a))]) (rest := []) hG (pc := 2) d25_2 mo25 m2_106 (by decide) dp25_23 rfl rfl (Nat.le_of_ble_eq_true rfl) (Nat.le_of_ble_eq_true rfl) rg23 sd23 (e23 _ _ _) h (fun z1 h => (x_istore_n (lv' := [(2, .inl z1.1), (0, .inr (.inr (2, o))), (1, .inr (.inr (1, a)))]) hG (pc := 5) d25_5 (ml25 _ (by decide)) rfl (am_c_aload_n hG (pc := 6) d25_6 rfl (x_get_n (v := .inl (z1.2 o 8)) hG (pc := 7) d25_7 mo25 f2_72 rfl (am_c_aload_n hG (pc := 10) d25_10 rfl (x_virtual_i (t := 1) (o := a) (as2 := []) (rest := [.inl (z1.2 o 8)]) hG (pc := 11) d25_11 mo25 m2_95 (by decide) dp25_16 rfl rfl (Nat.le_of_ble_eq_true rfl) (Nat.le_of_ble_eq_true rfl) rg16 sd16 (e16 _ _) h (fun z2 h => (x_icmp_lt (tgt := 29) hG (pc := 14) d25_14 rfl h (fun h => (am_c_aload_n hG (pc := 29) d25_29 rfl (am_c_aload_n hG (pc := 30) d25_30 rfl (x_get_n (v := .inl (z2.2 o 8)) hG (pc := 31) d25_31 mo25 f2_72 rfl (x_virtual_i (t := 1) (o := a) (as2 := [.inl (z2.2 o 8)]) (rest := []) hG (pc := 34) d25_34 mo25 m2_78 (by decide) dp25_15 rfl rfl (Nat.le_of_ble_eq_true rfl) (Nat.le_of_ble_eq_true rfl) rg15 sd15 (e15 _ _ _) h (fun z3 h => (am_c_bipush hG (pc := 37) d25_37 (by decide) (x_icmp_ne (tgt := 55) hG (pc := 39) d25_39 rfl h (fun h => (am_c_iload_n hG (pc := 55) d25_55 rfl (x_if_le (tgt := 96) hG (pc := 56) d25_56 rfl h (fun h => (am_c_aload_n hG (pc := 96) d25_96 rfl (am_c_iconst hG (pc := 97) d25_97 (by decide) (x_put_0 hG (pc := 98) d25_98 mo25 f2_46 (by decide) (am_c_aload_n hG (pc := 101) d25_101 rfl (am_c_iconst hG (pc := 102) d25_102 (by decide) (x_put_1 hG (pc := 103) d25_103 mo25 f2_35 (by decide) (xq_vret hG (by decide) hr (pc := 106) d25_106 rk25 (am_q0 h))))))))) (fun h => (am_c_aload_n hG (pc := 59) d25_59 rfl (x_virtual_v (t := 2) (o := o) (as2 := []) (rest := []) hG (pc := 60) d25_60 mo25 m2_110 (by decide) dp25_24 rfl rfl (Nat.le_of_ble_eq_true rfl) (Nat.le_of_ble_eq_true rfl) rg24 sd24 (e24 _ _) h (fun z4 h => (am_c_aload_n hG (pc := 63) d25_63 rfl (am_c_dup hG (pc := 64) d25_64 rfl (x_get_n (v := .inl (z4.2 o 8)) hG (pc := 65) d25_65 mo25 f2_72 rfl (am_c_iload_n hG (pc := 68) d25_68 rfl (am_c_iadd hG (pc := 69) d25_69 (x_put_i hG (pc := 70) d25_70 mo25 f2_72 (by decide) (am_c_aload_n hG (pc := 73) d25_73 rfl (am_c_aload_n hG (pc := 74) d25_74 rfl (x_get_n (v := .inl ((am_up z4.2 o 8 (w32 ((z4.2 o 8) + z1.1))) o 8)) hG (pc := 75) d25_75 mo25 f2_72 rfl (am_c_aload_n hG (pc := 78) d25_78 rfl (x_virtual_i (t := 1) (o := a) (as2 := []) (rest := [.inl ((am_up z4.2 o 8 (w32 ((z4.2 o 8) + z1.1))) o 8), .inr (.inr (2, o))]) hG (pc := 79) d25_79 mo25 m2_95 (by decide) dp25_16 rfl rfl (Nat.le_of_ble_eq_true rfl) (Nat.le_of_ble_eq_true rfl) rg16 sd16 (e16 _ _) h (fun z5 h => (x_icmp_lt (tgt := 89) hG (pc := 82) d25_82 rfl h (fun h => (am_c_iconst hG (pc := 89) d25_89 (by decide) (x_put_0 hG (pc := 90) d25_90 mo25 f2_35 (by decide) (x_goto (tgt := 106) hG (pc := 93) d25_93 rfl (xq_vret hG (by decide) hr (pc := 106) d25_106 rk25 (am_q0 h)))))) (fun h => (am_c_iconst hG (pc := 85) d25_85 (by decide) (x_goto (tgt := 90) hG (pc := 86) d25_86 rfl (x_put_1 hG (pc := 90) d25_90 mo25 f2_35 (by decide) (x_goto (tgt := 106) hG (pc := 93) d25_93 rfl (xq_vret hG (by decide) hr (pc := 106) d25_106 rk25 (am_q0 h))))))))))))))))))))))))))) (fun h => (am_c_aload_n hG (pc := 42) d25_42 rfl (am_c_dup hG (pc := 43) d25_43 rfl (x_get_n (v := .inl (z3.2 o 8)) hG (pc := 44) d25_44 mo25 f2_72 rfl (am_c_iconst hG (pc := 47) d25_47 (by decide) (am_c_iadd hG (pc := 48) d25_48 (x_put_i hG (pc := 49) d25_49 mo25 f2_72 (by decide) (x_goto (tgt := 106) hG (pc := 52) d25_52 rfl (xq_vret hG (by decide) hr (pc := 106) d25_106 rk25 (am_q0 h)))))))))))))))))) (fun h => (am_c_aload_n hG (pc := 17) d25_17 rfl (x_virtual_v (t := 2) (o := o) (as2 := []) (rest := []) hG (pc := 18) d25_18 mo25 m2_110 (by decide) dp25_24 rfl rfl (Nat.le_of_ble_eq_true rfl) (Nat.le_of_ble_eq_true rfl) rg24 sd24 (e24 _ _) h (fun z6 h => (am_c_aload_n hG (pc := 21) d25_21 rfl (am_c_iconst hG (pc := 22) d25_22 (by decide) (x_put_1 hG (pc := 23) d25_23 mo25 f2_35 (by decide) (x_goto (tgt := 106) hG (pc := 26) d25_26 rfl (xq_vret hG (by decide) hr (pc := 106) d25_106 rk25 (am_q0 h))))))))))))))))))))))
/-! ChartPress$Table.rows()I -/
theorem D26 (k : Nat) {pc : Nat} {i : Instr} (h : tbi26[k]? = some (pc, i)) (hs : am_isw i = false) {n : Nat} (hn : am_il i = n) : decode (am_mc 26) pc = .ok (i, n) := am_d2 (by decide) (by decide) rfl h hs hn
theorem d26_0 : decode (am_mc 26) 0 = .ok (.aload_n 0, 1) := D26 0 rfl rfl rfl
theorem d26_1 : decode (am_mc 26) 1 = .ok (.getfield 56, 3) := D26 1 rfl rfl rfl
theorem d26_4 : decode (am_mc 26) 4 = .ok (.iconst 1, 1) := D26 2 rfl rfl rfl
theorem d26_5 : decode (am_mc 26) 5 = .ok (.isub, 1) := D26 3 rfl rfl rfl
theorem d26_6 : decode (am_mc 26) 6 = .ok (.ireturn, 1) := D26 4 rfl rfl rfl
theorem ml26 : ∀ n, n < 1 → n < am_ml 26 := fun _ h => h
theorem mo26 : am_mo 26 = 2 := by decide +kernel
theorem mr26 : am_mr 26 = some .int := by decide +kernel
theorem rg26 : am_rcg 26 = 3 := by decide +kernel
def fn26 (o : Nat) (μ : am_M) : Option (Int × am_M) := some (w32 ((μ o 6) - 1), μ)
def sp26 : am_F := fun vs μ => am_aR 2 vs fun o vs => am_a0 vs (fn26 o μ)
theorem e26 (o : Nat) (μ : am_M) : sp26 [.inr (.inr (2, o))] μ = fn26 o μ := am_aR_c.trans am_a0_c
theorem sd26 : am_Sd 26 sp26 := by
  refine am_Sd_of (by decide) (fun vs μ μ' x h hv hM => ?_)
  obtain ⟨o, vs0, rfl, h0⟩ := am_aR_s h
  obtain ⟨rfl, hz⟩ := am_a0_s h0
  refine ⟨Nat.le_of_ble_eq_true rfl, fun X C hG hr => ?_⟩
  have h := hz
  unfold fn26 at h
  exact (show am_W X C 26 _ 0 0 0 [(0, .inr (.inr (2, o)))] [] μ from (am_c_aload_n hG (pc := 0) d26_0 rfl (x_get_n (v := .inl (μ o 6)) hG (pc := 1) d26_1 mo26 f2_56 rfl (am_c_iconst hG (pc := 4) d26_4 (by decide) (am_c_isub hG (pc := 5) d26_5 (xq_iret hG (by decide) hr (pc := 6) d26_6 mr26 (am_q0 h)))))))
/-! ChartPress$Table.place(II)I -/
theorem D27 (k : Nat) {pc : Nat} {i : Instr} (h : tbi27[k]? = some (pc, i)) (hs : am_isw i = false) {n : Nat} (hn : am_il i = n) : decode (am_mc 27) pc = .ok (i, n) := am_d2 (by decide) (by decide) rfl h hs hn
theorem d27_0 : decode (am_mc 27) 0 = .ok (.iload_n 1, 1) := D27 0 rfl rfl rfl
theorem d27_1 : decode (am_mc 27) 1 = .ok (.iconst 1, 1) := D27 1 rfl rfl rfl
theorem d27_2 : decode (am_mc 27) 2 = .ok (.iadd, 1) := D27 2 rfl rfl rfl
theorem d27_3 : decode (am_mc 27) 3 = .ok (.aload_n 0, 1) := D27 3 rfl rfl rfl
theorem d27_4 : decode (am_mc 27) 4 = .ok (.getfield 52, 3) := D27 4 rfl rfl rfl
theorem d27_7 : decode (am_mc 27) 7 = .ok (.imul, 1) := D27 5 rfl rfl rfl
theorem d27_8 : decode (am_mc 27) 8 = .ok (.iload_n 2, 1) := D27 6 rfl rfl rfl
theorem d27_9 : decode (am_mc 27) 9 = .ok (.iadd, 1) := D27 7 rfl rfl rfl
theorem d27_10 : decode (am_mc 27) 10 = .ok (.istore_n 3, 1) := D27 8 rfl rfl rfl
theorem d27_11 : decode (am_mc 27) 11 = .ok (.iload_n 3, 1) := D27 9 rfl rfl rfl
theorem d27_12 : decode (am_mc 27) 12 = .ok (.ifCond .lt 16, 3) := D27 10 rfl rfl rfl
theorem d27_15 : decode (am_mc 27) 15 = .ok (.iload_n 3, 1) := D27 11 rfl rfl rfl
theorem d27_16 : decode (am_mc 27) 16 = .ok (.aload_n 0, 1) := D27 12 rfl rfl rfl
theorem d27_17 : decode (am_mc 27) 17 = .ok (.getfield 11, 3) := D27 13 rfl rfl rfl
theorem d27_20 : decode (am_mc 27) 20 = .ok (.arraylength, 1) := D27 14 rfl rfl rfl
theorem d27_21 : decode (am_mc 27) 21 = .ok (.if_icmp .ge 7, 3) := D27 15 rfl rfl rfl
theorem d27_24 : decode (am_mc 27) 24 = .ok (.iload_n 3, 1) := D27 16 rfl rfl rfl
theorem d27_25 : decode (am_mc 27) 25 = .ok (.goto 4, 3) := D27 17 rfl rfl rfl
theorem d27_28 : decode (am_mc 27) 28 = .ok (.iconst (-1), 1) := D27 18 rfl rfl rfl
theorem d27_29 : decode (am_mc 27) 29 = .ok (.ireturn, 1) := D27 19 rfl rfl rfl
theorem ml27 : ∀ n, n < 4 → n < am_ml 27 := fun _ h => h
theorem mo27 : am_mo 27 = 2 := by decide +kernel
theorem mr27 : am_mr 27 = some .int := by decide +kernel
theorem rg27 : am_rcg 27 = 3 := by decide +kernel
def fn27 (o : Nat) (a : Int) (b : Int) (μ : am_M) : Option (Int × am_M) := (if w32 ((w32 ((w32 (a + 1)) * (μ o 5))) + b) < 0 then some ((-1), μ) else (if w32 ((w32 ((w32 (a + 1)) * (μ o 5))) + b) < ((am_len (am_ref o 0) : Nat) : Int) then some (w32 ((w32 ((w32 (a + 1)) * (μ o 5))) + b), μ) else some ((-1), μ)))
def sp27 : am_F := fun vs μ => am_aR 2 vs fun o vs => am_aI vs fun a vs => am_aI vs fun b vs => am_a0 vs (fn27 o a b μ)
theorem e27 (o : Nat) (a : Int) (b : Int) (μ : am_M) : sp27 [.inr (.inr (2, o)), .inl a, .inl b] μ = fn27 o a b μ := am_aR_c.trans (am_aI_c.trans (am_aI_c.trans am_a0_c))
theorem sd27 : am_Sd 27 sp27 := by
  refine am_Sd_of (by decide) (fun vs μ μ' x h hv hM => ?_)
  obtain ⟨o, vs0, rfl, h0⟩ := am_aR_s h
  obtain ⟨a, vs1, rfl, h1⟩ := am_aI_s h0
  obtain ⟨b, vs2, rfl, h2⟩ := am_aI_s h1
  obtain ⟨rfl, hz⟩ := am_a0_s h2
  refine ⟨Nat.le_of_ble_eq_true rfl, fun X C hG hr => ?_⟩
  have h := hz
  unfold fn27 at h
  exact (show am_W X C 27 _ 0 0 0 [(0, .inr (.inr (2, o))), (1, .inl a), (2, .inl b)] [] μ from (am_c_iload_n hG (pc := 0) d27_0 rfl (am_c_iconst hG (pc := 1) d27_1 (by decide) (am_c_iadd hG (pc := 2) d27_2 (am_c_aload_n hG (pc := 3) d27_3 rfl (x_get_n (v := .inl (μ o 5)) hG (pc := 4) d27_4 mo27 f2_52 rfl (am_c_imul hG (pc := 7) d27_7 (am_c_iload_n hG (pc := 8) d27_8 rfl (am_c_iadd hG (pc := 9) d27_9 (x_istore_n (lv' := [(3, .inl (w32 ((w32 ((w32 (a + 1)) * (μ o 5))) + b))), (0, .inr (.inr (2, o))), (1, .inl a), (2, .inl b)]) hG (pc := 10) d27_10 (ml27 _ (by decide)) rfl (am_c_iload_n hG (pc := 11) d27_11 rfl (x_if_lt (tgt := 28) hG (pc := 12) d27_12 rfl h (fun h => (am_c_iconst hG (pc := 28) d27_28 (by decide) (xq_iret hG (by decide) hr (pc := 29) d27_29 mr27 (am_q0 h)))) (fun h => (am_c_iload_n hG (pc := 15) d27_15 rfl (am_c_aload_n hG (pc := 16) d27_16 rfl (x_get_n (v := .inr (.inr (21, am_ref o 0))) hG (pc := 17) d27_17 mo27 f2_11 rfl (am_c_len hG (pc := 20) d27_20 (by decide) (x_icmp_ge (tgt := 28) hG (pc := 21) d27_21 rfl h (fun h => (am_c_iconst hG (pc := 28) d27_28 (by decide) (xq_iret hG (by decide) hr (pc := 29) d27_29 mr27 (am_q0 h)))) (fun h => (am_c_iload_n hG (pc := 24) d27_24 rfl (x_goto (tgt := 29) hG (pc := 25) d27_25 rfl (xq_iret hG (by decide) hr (pc := 29) d27_29 mr27 (am_q0 h)))))))))))))))))))))))
/-! ChartPress$Table.cell(II)LChartPress$Letters; -/
theorem D28 (k : Nat) {pc : Nat} {i : Instr} (h : tbi28[k]? = some (pc, i)) (hs : am_isw i = false) {n : Nat} (hn : am_il i = n) : decode (am_mc 28) pc = .ok (i, n) := am_d2 (by decide) (by decide) rfl h hs hn
theorem d28_0 : decode (am_mc 28) 0 = .ok (.aload_n 0, 1) := D28 0 rfl rfl rfl
theorem d28_1 : decode (am_mc 28) 1 = .ok (.iload_n 1, 1) := D28 1 rfl rfl rfl
theorem d28_2 : decode (am_mc 28) 2 = .ok (.iload_n 2, 1) := D28 2 rfl rfl rfl
theorem d28_3 : decode (am_mc 28) 3 = .ok (.invokevirtual 130, 3) := D28 3 rfl rfl rfl
theorem d28_6 : decode (am_mc 28) 6 = .ok (.istore_n 3, 1) := D28 4 rfl rfl rfl
theorem d28_7 : decode (am_mc 28) 7 = .ok (.iload_n 3, 1) := D28 5 rfl rfl rfl
theorem d28_8 : decode (am_mc 28) 8 = .ok (.iconst (-1), 1) := D28 6 rfl rfl rfl
theorem d28_9 : decode (am_mc 28) 9 = .ok (.if_icmp .eq 12, 3) := D28 7 rfl rfl rfl
theorem d28_12 : decode (am_mc 28) 12 = .ok (.aload_n 0, 1) := D28 8 rfl rfl rfl
theorem d28_13 : decode (am_mc 28) 13 = .ok (.getfield 11, 3) := D28 9 rfl rfl rfl
theorem d28_16 : decode (am_mc 28) 16 = .ok (.iload_n 3, 1) := D28 10 rfl rfl rfl
theorem d28_17 : decode (am_mc 28) 17 = .ok (.aaload, 1) := D28 11 rfl rfl rfl
theorem d28_18 : decode (am_mc 28) 18 = .ok (.goto 7, 3) := D28 12 rfl rfl rfl
theorem d28_21 : decode (am_mc 28) 21 = .ok (.aload_n 0, 1) := D28 13 rfl rfl rfl
theorem d28_22 : decode (am_mc 28) 22 = .ok (.getfield 20, 3) := D28 14 rfl rfl rfl
theorem d28_25 : decode (am_mc 28) 25 = .ok (.areturn, 1) := D28 15 rfl rfl rfl
theorem ml28 : ∀ n, n < 4 → n < am_ml 28 := fun _ h => h
theorem mo28 : am_mo 28 = 2 := by decide +kernel
theorem rk28 : am_rk 28 = 3 := by decide +kernel
theorem rtg28 : am_rtg 28 = 3 := by decide +kernel
theorem rg28 : am_rcg 28 = 3 := by decide +kernel
theorem m2_130 : tb_m 2 130 = some (27, 3, 1, 0) := by decide +kernel
theorem dp28_27 : am_md 27 + 1 ≤ am_md 28 ∧ 8 + (am_ml 27 + 11) + am_lr 27 ≤ am_lr 28 := by decide +kernel
def fn28 (o : Nat) (a : Int) (b : Int) (μ : am_M) : Option (Int × am_M) := (am_op (fn27 o a b μ) (fun z1 => (if z1.1 = (-1) then some (((am_ref o 1 : Nat) : Int), z1.2) else (if (0 : Int) ≤ z1.1 ∧ z1.1 < ((am_len (am_ref o 0) : Nat) : Int) then some (((am_ref (am_ref o 0) (z1.1 : Int).toNat : Nat) : Int), z1.2) else none))))
def sp28 : am_F := fun vs μ => am_aR 2 vs fun o vs => am_aI vs fun a vs => am_aI vs fun b vs => am_a0 vs (fn28 o a b μ)
theorem e28 (o : Nat) (a : Int) (b : Int) (μ : am_M) : sp28 [.inr (.inr (2, o)), .inl a, .inl b] μ = fn28 o a b μ := am_aR_c.trans (am_aI_c.trans (am_aI_c.trans am_a0_c))
theorem sd28 : am_Sd 28 sp28 := by
  refine am_Sd_of (by decide) (fun vs μ μ' x h hv hM => ?_)
  obtain ⟨o, vs0, rfl, h0⟩ := am_aR_s h
  obtain ⟨a, vs1, rfl, h1⟩ := am_aI_s h0
  obtain ⟨b, vs2, rfl, h2⟩ := am_aI_s h1
  obtain ⟨rfl, hz⟩ := am_a0_s h2
  refine ⟨Nat.le_of_ble_eq_true rfl, fun X C hG hr => ?_⟩
  have h := hz
  unfold fn28 at h
  exact (show am_W X C 28 _ 0 0 0 [(0, .inr (.inr (2, o))), (1, .inl a), (2, .inl b)] [] μ from (am_c_aload_n hG (pc := 0) d28_0 rfl (am_c_iload_n hG (pc := 1) d28_1 rfl (am_c_iload_n hG (pc := 2) d28_2 rfl (x_virtual_i (t := 2) (o := o) (as2 := [.inl a, .inl b]) (rest := []) hG (pc := 3) d28_3 mo28 m2_130 (by decide) dp28_27 rfl rfl (Nat.le_of_ble_eq_true rfl) (Nat.le_of_ble_eq_true rfl) rg27 sd27 (e27 _ _ _ _) h (fun z1 h => (x_istore_n (lv' := [(3, .inl z1.1), (0, .inr (.inr (2, o))), (1, .inl a), (2, .inl b)]) hG (pc := 6) d28_6 (ml28 _ (by decide)) rfl (am_c_iload_n hG (pc := 7) d28_7 rfl (am_c_iconst hG (pc := 8) d28_8 (by decide) (x_icmp_eq (tgt := 21) hG (pc := 9) d28_9 rfl h (fun h => (am_c_aload_n hG (pc := 21) d28_21 rfl (x_get_n (v := .inr (.inr (3, am_ref o 1))) hG (pc := 22) d28_22 mo28 f2_20 rfl (xq_aret hG (by decide) hr (pc := 25) d28_25 rk28 rtg28 (am_q0 h))))) (fun h => (am_c_aload_n hG (pc := 12) d28_12 rfl (x_get_n (v := .inr (.inr (21, am_ref o 0))) hG (pc := 13) d28_13 mo28 f2_11 rfl (am_c_iload_n hG (pc := 16) d28_16 rfl (x_aaload_L hG (pc := 17) d28_17 h (fun h => (x_goto (tgt := 25) hG (pc := 18) d28_18 rfl (xq_aret hG (by decide) hr (pc := 25) d28_25 rk28 rtg28 (am_q0 h)))))))))))))))))))
/-! ChartPress$Letters.isMissing()Z -/
theorem D29 (k : Nat) {pc : Nat} {i : Instr} (h : tbi29[k]? = some (pc, i)) (hs : am_isw i = false) {n : Nat} (hn : am_il i = n) : decode (am_mc 29) pc = .ok (i, n) := am_d2 (by decide) (by decide) rfl h hs hn
theorem d29_0 : decode (am_mc 29) 0 = .ok (.aload_n 0, 1) := D29 0 rfl rfl rfl
theorem d29_1 : decode (am_mc 29) 1 = .ok (.getfield 13, 3) := D29 1 rfl rfl rfl
theorem d29_4 : decode (am_mc 29) 4 = .ok (.ifCond .ne 7, 3) := D29 2 rfl rfl rfl
theorem d29_7 : decode (am_mc 29) 7 = .ok (.iconst 1, 1) := D29 3 rfl rfl rfl
theorem d29_8 : decode (am_mc 29) 8 = .ok (.goto 4, 3) := D29 4 rfl rfl rfl
theorem d29_11 : decode (am_mc 29) 11 = .ok (.iconst 0, 1) := D29 5 rfl rfl rfl
theorem d29_12 : decode (am_mc 29) 12 = .ok (.ireturn, 1) := D29 6 rfl rfl rfl
theorem ml29 : ∀ n, n < 1 → n < am_ml 29 := fun _ h => h
theorem mo29 : am_mo 29 = 3 := by decide +kernel
theorem mr29 : am_mr 29 = some .boolean := by decide +kernel
theorem rg29 : am_rcg 29 = 4 := by decide +kernel
def fn29 (o : Nat) (μ : am_M) : Option (Int × am_M) := (if μ o 1 = 0 then some (1, μ) else some (0, μ))
def sp29 : am_F := fun vs μ => am_aR 3 vs fun o vs => am_a0 vs (fn29 o μ)
theorem e29 (o : Nat) (μ : am_M) : sp29 [.inr (.inr (3, o))] μ = fn29 o μ := am_aR_c.trans am_a0_c
theorem sd29 : am_Sd 29 sp29 := by
  refine am_Sd_of (by decide) (fun vs μ μ' x h hv hM => ?_)
  obtain ⟨o, vs0, rfl, h0⟩ := am_aR_s h
  obtain ⟨rfl, hz⟩ := am_a0_s h0
  refine ⟨Nat.le_of_ble_eq_true rfl, fun X C hG hr => ?_⟩
  have h := hz
  unfold fn29 at h
  exact (show am_W X C 29 _ 0 0 0 [(0, .inr (.inr (3, o)))] [] μ from (am_c_aload_n hG (pc := 0) d29_0 rfl (x_get_n (v := .inl (μ o 1)) hG (pc := 1) d29_1 mo29 f3_13 rfl (x_if_ne (tgt := 11) hG (pc := 4) d29_4 rfl h (fun h => (am_c_iconst hG (pc := 11) d29_11 (by decide) (xq_zret0 hG (by decide) hr (pc := 12) d29_12 mr29 (am_q0 h)))) (fun h => (am_c_iconst hG (pc := 7) d29_7 (by decide) (x_goto (tgt := 12) hG (pc := 8) d29_8 rfl (xq_zret1 hG (by decide) hr (pc := 12) d29_12 mr29 (am_q0 h)))))))))
/-! ChartPress$Letters.at(I)C -/
theorem D30 (k : Nat) {pc : Nat} {i : Instr} (h : tbi30[k]? = some (pc, i)) (hs : am_isw i = false) {n : Nat} (hn : am_il i = n) : decode (am_mc 30) pc = .ok (i, n) := am_d2 (by decide) (by decide) rfl h hs hn
theorem d30_0 : decode (am_mc 30) 0 = .ok (.iload_n 1, 1) := D30 0 rfl rfl rfl
theorem d30_1 : decode (am_mc 30) 1 = .ok (.ifCond .lt 29, 3) := D30 1 rfl rfl rfl
theorem d30_4 : decode (am_mc 30) 4 = .ok (.iload_n 1, 1) := D30 2 rfl rfl rfl
theorem d30_5 : decode (am_mc 30) 5 = .ok (.aload_n 0, 1) := D30 3 rfl rfl rfl
theorem d30_6 : decode (am_mc 30) 6 = .ok (.getfield 13, 3) := D30 4 rfl rfl rfl
theorem d30_9 : decode (am_mc 30) 9 = .ok (.if_icmp .ge 21, 3) := D30 5 rfl rfl rfl
theorem d30_12 : decode (am_mc 30) 12 = .ok (.iload_n 1, 1) := D30 6 rfl rfl rfl
theorem d30_13 : decode (am_mc 30) 13 = .ok (.aload_n 0, 1) := D30 7 rfl rfl rfl
theorem d30_14 : decode (am_mc 30) 14 = .ok (.getfield 7, 3) := D30 8 rfl rfl rfl
theorem d30_17 : decode (am_mc 30) 17 = .ok (.arraylength, 1) := D30 9 rfl rfl rfl
theorem d30_18 : decode (am_mc 30) 18 = .ok (.if_icmp .ge 12, 3) := D30 10 rfl rfl rfl
theorem d30_21 : decode (am_mc 30) 21 = .ok (.aload_n 0, 1) := D30 11 rfl rfl rfl
theorem d30_22 : decode (am_mc 30) 22 = .ok (.getfield 7, 3) := D30 12 rfl rfl rfl
theorem d30_25 : decode (am_mc 30) 25 = .ok (.iload_n 1, 1) := D30 13 rfl rfl rfl
theorem d30_26 : decode (am_mc 30) 26 = .ok (.caload, 1) := D30 14 rfl rfl rfl
theorem d30_27 : decode (am_mc 30) 27 = .ok (.goto 4, 3) := D30 15 rfl rfl rfl
theorem d30_30 : decode (am_mc 30) 30 = .ok (.iconst 0, 1) := D30 16 rfl rfl rfl
theorem d30_31 : decode (am_mc 30) 31 = .ok (.ireturn, 1) := D30 17 rfl rfl rfl
theorem ml30 : ∀ n, n < 2 → n < am_ml 30 := fun _ h => h
theorem mo30 : am_mo 30 = 3 := by decide +kernel
theorem mr30 : am_mr 30 = some .char := by decide +kernel
theorem rg30 : am_rcg 30 = 4 := by decide +kernel
def fn30 (o : Nat) (a : Int) (μ : am_M) : Option (Int × am_M) := (if a < 0 then some (0, μ) else (if a < μ o 1 then (if a < ((am_len (am_ref o 0) : Nat) : Int) then (if (0 : Int) ≤ a ∧ a < ((am_len (am_ref o 0) : Nat) : Int) then (if (0 : Int) ≤ μ (am_ref o 0) (a : Int).toNat ∧ μ (am_ref o 0) (a : Int).toNat ≤ 65535 then some (μ (am_ref o 0) (a : Int).toNat, μ) else none) else none) else some (0, μ)) else some (0, μ)))
def sp30 : am_F := fun vs μ => am_aR 3 vs fun o vs => am_aI vs fun a vs => am_a0 vs (fn30 o a μ)
theorem e30 (o : Nat) (a : Int) (μ : am_M) : sp30 [.inr (.inr (3, o)), .inl a] μ = fn30 o a μ := am_aR_c.trans (am_aI_c.trans am_a0_c)
theorem sd30 : am_Sd 30 sp30 := by
  refine am_Sd_of (by decide) (fun vs μ μ' x h hv hM => ?_)
  obtain ⟨o, vs0, rfl, h0⟩ := am_aR_s h
  obtain ⟨a, vs1, rfl, h1⟩ := am_aI_s h0
  obtain ⟨rfl, hz⟩ := am_a0_s h1
  refine ⟨Nat.le_of_ble_eq_true rfl, fun X C hG hr => ?_⟩
  have h := hz
  unfold fn30 at h
  exact (show am_W X C 30 _ 0 0 0 [(0, .inr (.inr (3, o))), (1, .inl a)] [] μ from (am_c_iload_n hG (pc := 0) d30_0 rfl (x_if_lt (tgt := 30) hG (pc := 1) d30_1 rfl h (fun h => (am_c_iconst hG (pc := 30) d30_30 (by decide) (xq_cret0 hG (by decide) hr (pc := 31) d30_31 mr30 (am_q0 h)))) (fun h => (am_c_iload_n hG (pc := 4) d30_4 rfl (am_c_aload_n hG (pc := 5) d30_5 rfl (x_get_n (v := .inl (μ o 1)) hG (pc := 6) d30_6 mo30 f3_13 rfl (x_icmp_ge (tgt := 30) hG (pc := 9) d30_9 rfl h (fun h => (am_c_iconst hG (pc := 30) d30_30 (by decide) (xq_cret0 hG (by decide) hr (pc := 31) d30_31 mr30 (am_q0 h)))) (fun h => (am_c_iload_n hG (pc := 12) d30_12 rfl (am_c_aload_n hG (pc := 13) d30_13 rfl (x_get_n (v := .inr (.inr (18, am_ref o 0))) hG (pc := 14) d30_14 mo30 f3_7 rfl (am_c_len hG (pc := 17) d30_17 (by decide) (x_icmp_ge (tgt := 30) hG (pc := 18) d30_18 rfl h (fun h => (am_c_iconst hG (pc := 30) d30_30 (by decide) (xq_cret0 hG (by decide) hr (pc := 31) d30_31 mr30 (am_q0 h)))) (fun h => (am_c_aload_n hG (pc := 21) d30_21 rfl (x_get_n (v := .inr (.inr (18, am_ref o 0))) hG (pc := 22) d30_22 mo30 f3_7 rfl (am_c_iload_n hG (pc := 25) d30_25 rfl (x_caload hG (pc := 26) d30_26 h (fun h => (x_goto (tgt := 31) hG (pc := 27) d30_27 rfl (xq_cret hG (by decide) hr (pc := 31) d30_31 mr30 h (fun h => (am_q0 h))))))))))))))))))))))))
/-! ChartPress$Letters.isDigit(C)Z -/
theorem D31 (k : Nat) {pc : Nat} {i : Instr} (h : tbi31[k]? = some (pc, i)) (hs : am_isw i = false) {n : Nat} (hn : am_il i = n) : decode (am_mc 31) pc = .ok (i, n) := am_d2 (by decide) (by decide) rfl h hs hn
theorem d31_0 : decode (am_mc 31) 0 = .ok (.iload_n 0, 1) := D31 0 rfl rfl rfl
theorem d31_1 : decode (am_mc 31) 1 = .ok (.bipush 48, 2) := D31 1 rfl rfl rfl
theorem d31_3 : decode (am_mc 31) 3 = .ok (.if_icmp .lt 13, 3) := D31 2 rfl rfl rfl
theorem d31_6 : decode (am_mc 31) 6 = .ok (.iload_n 0, 1) := D31 3 rfl rfl rfl
theorem d31_7 : decode (am_mc 31) 7 = .ok (.bipush 57, 2) := D31 4 rfl rfl rfl
theorem d31_9 : decode (am_mc 31) 9 = .ok (.if_icmp .gt 7, 3) := D31 5 rfl rfl rfl
theorem d31_12 : decode (am_mc 31) 12 = .ok (.iconst 1, 1) := D31 6 rfl rfl rfl
theorem d31_13 : decode (am_mc 31) 13 = .ok (.goto 4, 3) := D31 7 rfl rfl rfl
theorem d31_16 : decode (am_mc 31) 16 = .ok (.iconst 0, 1) := D31 8 rfl rfl rfl
theorem d31_17 : decode (am_mc 31) 17 = .ok (.ireturn, 1) := D31 9 rfl rfl rfl
theorem ml31 : ∀ n, n < 1 → n < am_ml 31 := fun _ h => h
theorem mo31 : am_mo 31 = 3 := by decide +kernel
theorem mr31 : am_mr 31 = some .boolean := by decide +kernel
theorem rg31 : am_rcg 31 = 0 := by decide +kernel
def fn31 (a : Int) (μ : am_M) : Option (Int × am_M) := (if a < 48 then some (0, μ) else (if 57 < a then some (0, μ) else some (1, μ)))
def sp31 : am_F := fun vs μ => am_aI vs fun a vs => am_a0 vs (fn31 a μ)
theorem e31 (a : Int) (μ : am_M) : sp31 [.inl a] μ = fn31 a μ := am_aI_c.trans am_a0_c
theorem sd31 : am_Sd 31 sp31 := by
  refine am_Sd_of (by decide) (fun vs μ μ' x h hv hM => ?_)
  obtain ⟨a, vs0, rfl, h0⟩ := am_aI_s h
  obtain ⟨rfl, hz⟩ := am_a0_s h0
  refine ⟨Nat.le_of_ble_eq_true rfl, fun X C hG hr => ?_⟩
  have h := hz
  unfold fn31 at h
  exact (show am_W X C 31 _ 0 0 0 [(0, .inl a)] [] μ from (am_c_iload_n hG (pc := 0) d31_0 rfl (am_c_bipush hG (pc := 1) d31_1 (by decide) (x_icmp_lt (tgt := 16) hG (pc := 3) d31_3 rfl h (fun h => (am_c_iconst hG (pc := 16) d31_16 (by decide) (xq_zret0 hG (by decide) hr (pc := 17) d31_17 mr31 (am_q0 h)))) (fun h => (am_c_iload_n hG (pc := 6) d31_6 rfl (am_c_bipush hG (pc := 7) d31_7 (by decide) (x_icmp_gt (tgt := 16) hG (pc := 9) d31_9 rfl h (fun h => (am_c_iconst hG (pc := 16) d31_16 (by decide) (xq_zret0 hG (by decide) hr (pc := 17) d31_17 mr31 (am_q0 h)))) (fun h => (am_c_iconst hG (pc := 12) d31_12 (by decide) (x_goto (tgt := 17) hG (pc := 13) d31_13 rfl (xq_zret1 hG (by decide) hr (pc := 17) d31_17 mr31 (am_q0 h)))))))))))))
/-! ChartPress$Letters.digitsFrom(I)I -/
theorem D32 (k : Nat) {pc : Nat} {i : Instr} (h : tbi32[k]? = some (pc, i)) (hs : am_isw i = false) {n : Nat} (hn : am_il i = n) : decode (am_mc 32) pc = .ok (i, n) := am_d2 (by decide) (by decide) rfl h hs hn
theorem d32_0 : decode (am_mc 32) 0 = .ok (.iload_n 1, 1) := D32 0 rfl rfl rfl
theorem d32_1 : decode (am_mc 32) 1 = .ok (.istore_n 2, 1) := D32 1 rfl rfl rfl
theorem d32_2 : decode (am_mc 32) 2 = .ok (.iload_n 2, 1) := D32 2 rfl rfl rfl
theorem d32_3 : decode (am_mc 32) 3 = .ok (.aload_n 0, 1) := D32 3 rfl rfl rfl
theorem d32_4 : decode (am_mc 32) 4 = .ok (.getfield 13, 3) := D32 4 rfl rfl rfl
theorem d32_7 : decode (am_mc 32) 7 = .ok (.if_icmp .ge 20, 3) := D32 5 rfl rfl rfl
theorem d32_10 : decode (am_mc 32) 10 = .ok (.aload_n 0, 1) := D32 6 rfl rfl rfl
theorem d32_11 : decode (am_mc 32) 11 = .ok (.iload_n 2, 1) := D32 7 rfl rfl rfl
theorem d32_12 : decode (am_mc 32) 12 = .ok (.invokevirtual 20, 3) := D32 8 rfl rfl rfl
theorem d32_15 : decode (am_mc 32) 15 = .ok (.invokestatic 43, 3) := D32 9 rfl rfl rfl
theorem d32_18 : decode (am_mc 32) 18 = .ok (.ifCond .eq 9, 3) := D32 10 rfl rfl rfl
theorem d32_21 : decode (am_mc 32) 21 = .ok (.iinc 2 1, 3) := D32 11 rfl rfl rfl
theorem d32_24 : decode (am_mc 32) 24 = .ok (.goto (-22), 3) := D32 12 rfl rfl rfl
theorem d32_27 : decode (am_mc 32) 27 = .ok (.iload_n 2, 1) := D32 13 rfl rfl rfl
theorem d32_28 : decode (am_mc 32) 28 = .ok (.iload_n 1, 1) := D32 14 rfl rfl rfl
theorem d32_29 : decode (am_mc 32) 29 = .ok (.isub, 1) := D32 15 rfl rfl rfl
theorem d32_30 : decode (am_mc 32) 30 = .ok (.ireturn, 1) := D32 16 rfl rfl rfl
theorem ml32 : ∀ n, n < 3 → n < am_ml 32 := fun _ h => h
theorem mo32 : am_mo 32 = 3 := by decide +kernel
theorem mr32 : am_mr 32 = some .int := by decide +kernel
theorem rg32 : am_rcg 32 = 4 := by decide +kernel
theorem m3_20 : tb_m 3 20 = some (30, 2, 1, 0) := by decide +kernel
theorem m3_43 : tb_m 3 43 = some (31, 1, 1, 0) := by decide +kernel
theorem dp32_30 : am_md 30 + 1 ≤ am_md 32 ∧ 8 + (am_ml 30 + 11) + am_lr 30 ≤ am_lr 32 := by decide +kernel
theorem dp32_31 : am_md 31 + 1 ≤ am_md 32 ∧ 8 + (am_ml 31 + 11) + am_lr 31 ≤ am_lr 32 := by decide +kernel
def L32_2 (l0 : Nat) (l1 : Int) : Nat → Int → am_M → Option ((Int × am_M) ⊕ (Int × am_M))
  | 0, _, _ => none
  | n + 1, l2, μ => (if l2 < μ l0 1 then (am_op (fn30 l0 l2 μ) (fun z1 => (am_op (fn31 z1.1 z1.2) (fun z2 => (if z2.1 = 0 then (some (.inr (l2, z2.2))) else (L32_2 l0 l1 n (w32 (l2 + 1)) z2.2)))))) else (some (.inr (l2, μ))))
theorem w32_2 {X : am_K} {C : am_C} {Q : State → Prop} (hG : am_G X C 32 0 0 (0, fun _ => 0)) (hr : match X with | (_, _, _, _, _, _, _, _, meth, _) => meth.sig.returnType = am_mr 32 ∧ meth.locks = false) (l0 : Nat) (l1 : Int) : ∀ (n : Nat) (l2 : Int) (μ : am_M) (r : (Int × am_M) ⊕ (Int × am_M)), L32_2 l0 l1 n l2 μ = some r → (∀ q, r = .inl q → Q = am_E X C 32 q.1 q.2) → (∀ t, r = .inr t → am_W X C 32 Q 0 0 27 [(1, .inl l1), (2, .inl t.1)] [] t.2) → am_W X C 32 Q 0 0 2 [(0, .inr (.inr (3, l0))), (1, .inl l1), (2, .inl l2)] [] μ := by
  intro n
  induction n with
  | zero => intro l2 μ r h; cases h
  | succ n ih =>
    intro l2 μ r h hI hX
    unfold L32_2 at h
    exact (am_c_iload_n hG (pc := 2) d32_2 rfl (am_c_aload_n hG (pc := 3) d32_3 rfl (x_get_n (v := .inl (μ l0 1)) hG (pc := 4) d32_4 mo32 f3_13 rfl (x_icmp_ge (tgt := 27) hG (pc := 7) d32_7 rfl h (fun h => (am_lvw (lv2 := [(1, .inl l1), (2, .inl l2)]) [1, 2] rfl (hX (l2, μ) (Option.some.inj h).symm))) (fun h => (am_c_aload_n hG (pc := 10) d32_10 rfl (am_c_iload_n hG (pc := 11) d32_11 rfl (x_virtual_i (t := 3) (o := l0) (as2 := [.inl l2]) (rest := []) hG (pc := 12) d32_12 mo32 m3_20 (by decide) dp32_30 rfl rfl (Nat.le_of_ble_eq_true rfl) (Nat.le_of_ble_eq_true rfl) rg30 sd30 (e30 _ _ _) h (fun z1 h => (x_static_i (as := [.inl z1.1]) (rest := []) hG (pc := 15) d32_15 mo32 m3_43 (by decide) dp32_31 rfl rfl (Nat.le_of_ble_eq_true rfl) (Nat.le_of_ble_eq_true rfl) rg31 sd31 (e31 _ _) h (fun z2 h => (x_if_eq (tgt := 27) hG (pc := 18) d32_18 rfl h (fun h => (am_lvw (lv2 := [(1, .inl l1), (2, .inl l2)]) [1, 2] rfl (hX (l2, z2.2) (Option.some.inj h).symm))) (fun h => (x_iinc (lv' := [(2, .inl (w32 (l2 + 1))), (0, .inr (.inr (3, l0))), (1, .inl l1)]) hG (pc := 21) d32_21 rfl (ml32 _ (by decide)) rfl (x_goto (tgt := 2) hG (pc := 24) d32_24 rfl (am_lvw (lv2 := [(0, .inr (.inr (3, l0))), (1, .inl l1), (2, .inl (w32 (l2 + 1)))]) [1, 2, 0] rfl (ih _ _ _ h hI hX)))))))))))))))))
def fn32 (o : Nat) (a : Int) (μ : am_M) : Option (Int × am_M) := (am_op (L32_2 o a am_fuel a μ) (fun s => am_lp s (fun q1 => some q1) (fun t1 => some (w32 (t1.1 - a), t1.2))))
def sp32 : am_F := fun vs μ => am_aR 3 vs fun o vs => am_aI vs fun a vs => am_a0 vs (fn32 o a μ)
theorem e32 (o : Nat) (a : Int) (μ : am_M) : sp32 [.inr (.inr (3, o)), .inl a] μ = fn32 o a μ := am_aR_c.trans (am_aI_c.trans am_a0_c)
theorem sd32 : am_Sd 32 sp32 := by
  refine am_Sd_of (by decide) (fun vs μ μ' x h hv hM => ?_)
  obtain ⟨o, vs0, rfl, h0⟩ := am_aR_s h
  obtain ⟨a, vs1, rfl, h1⟩ := am_aI_s h0
  obtain ⟨rfl, hz⟩ := am_a0_s h1
  refine ⟨Nat.le_of_ble_eq_true rfl, fun X C hG hr => ?_⟩
  have h := hz
  unfold fn32 at h
  exact (show am_W X C 32 _ 0 0 0 [(0, .inr (.inr (3, o))), (1, .inl a)] [] μ from (am_c_iload_n hG (pc := 0) d32_0 rfl (x_istore_n (lv' := [(2, .inl a), (0, .inr (.inr (3, o))), (1, .inl a)]) hG (pc := 1) d32_1 (ml32 _ (by decide)) rfl (x_lp h (fun r h1 h2 => (am_lvw (lv2 := [(0, .inr (.inr (3, o))), (1, .inl a), (2, .inl a)]) [1, 2, 0] rfl (w32_2 hG hr _ _ _ _ _ _ h1 (fun q1 e => am_q1 e h2 (fun h => am_q0 h)) (fun t1 e => am_q2 e h2 (fun h => (am_c_iload_n hG (pc := 27) d32_27 rfl (am_c_iload_n hG (pc := 28) d32_28 rfl (am_c_isub hG (pc := 29) d32_29 (xq_iret hG (by decide) hr (pc := 30) d32_30 mr32 (am_q0 h))))))))))))))
/-! ChartPress$Letters.isNumber()Z -/
theorem D33 (k : Nat) {pc : Nat} {i : Instr} (h : tbi33[k]? = some (pc, i)) (hs : am_isw i = false) {n : Nat} (hn : am_il i = n) : decode (am_mc 33) pc = .ok (i, n) := am_d2 (by decide) (by decide) rfl h hs hn
theorem d33_0 : decode (am_mc 33) 0 = .ok (.aload_n 0, 1) := D33 0 rfl rfl rfl
theorem d33_1 : decode (am_mc 33) 1 = .ok (.iconst 0, 1) := D33 1 rfl rfl rfl
theorem d33_2 : decode (am_mc 33) 2 = .ok (.invokevirtual 20, 3) := D33 2 rfl rfl rfl
theorem d33_5 : decode (am_mc 33) 5 = .ok (.bipush 45, 2) := D33 3 rfl rfl rfl
theorem d33_7 : decode (am_mc 33) 7 = .ok (.if_icmp .ne 7, 3) := D33 4 rfl rfl rfl
theorem d33_10 : decode (am_mc 33) 10 = .ok (.iconst 1, 1) := D33 5 rfl rfl rfl
theorem d33_11 : decode (am_mc 33) 11 = .ok (.goto 4, 3) := D33 6 rfl rfl rfl
theorem d33_14 : decode (am_mc 33) 14 = .ok (.iconst 0, 1) := D33 7 rfl rfl rfl
theorem d33_15 : decode (am_mc 33) 15 = .ok (.istore_n 1, 1) := D33 8 rfl rfl rfl
theorem d33_16 : decode (am_mc 33) 16 = .ok (.aload_n 0, 1) := D33 9 rfl rfl rfl
theorem d33_17 : decode (am_mc 33) 17 = .ok (.iload_n 1, 1) := D33 10 rfl rfl rfl
theorem d33_18 : decode (am_mc 33) 18 = .ok (.invokevirtual 39, 3) := D33 11 rfl rfl rfl
theorem d33_21 : decode (am_mc 33) 21 = .ok (.istore_n 2, 1) := D33 12 rfl rfl rfl
theorem d33_22 : decode (am_mc 33) 22 = .ok (.iload_n 2, 1) := D33 13 rfl rfl rfl
theorem d33_23 : decode (am_mc 33) 23 = .ok (.iconst 1, 1) := D33 14 rfl rfl rfl
theorem d33_24 : decode (am_mc 33) 24 = .ok (.if_icmp .lt 9, 3) := D33 15 rfl rfl rfl
theorem d33_27 : decode (am_mc 33) 27 = .ok (.iload_n 2, 1) := D33 16 rfl rfl rfl
theorem d33_28 : decode (am_mc 33) 28 = .ok (.bipush 6, 2) := D33 17 rfl rfl rfl
theorem d33_30 : decode (am_mc 33) 30 = .ok (.if_icmp .le 5, 3) := D33 18 rfl rfl rfl
theorem d33_33 : decode (am_mc 33) 33 = .ok (.iconst 0, 1) := D33 19 rfl rfl rfl
theorem d33_34 : decode (am_mc 33) 34 = .ok (.ireturn, 1) := D33 20 rfl rfl rfl
theorem d33_35 : decode (am_mc 33) 35 = .ok (.iload_n 1, 1) := D33 21 rfl rfl rfl
theorem d33_36 : decode (am_mc 33) 36 = .ok (.iload_n 2, 1) := D33 22 rfl rfl rfl
theorem d33_37 : decode (am_mc 33) 37 = .ok (.iadd, 1) := D33 23 rfl rfl rfl
theorem d33_38 : decode (am_mc 33) 38 = .ok (.istore_n 3, 1) := D33 24 rfl rfl rfl
theorem d33_39 : decode (am_mc 33) 39 = .ok (.iload_n 3, 1) := D33 25 rfl rfl rfl
theorem d33_40 : decode (am_mc 33) 40 = .ok (.aload_n 0, 1) := D33 26 rfl rfl rfl
theorem d33_41 : decode (am_mc 33) 41 = .ok (.getfield 13, 3) := D33 27 rfl rfl rfl
theorem d33_44 : decode (am_mc 33) 44 = .ok (.if_icmp .ne 5, 3) := D33 28 rfl rfl rfl
theorem d33_47 : decode (am_mc 33) 47 = .ok (.iconst 1, 1) := D33 29 rfl rfl rfl
theorem d33_48 : decode (am_mc 33) 48 = .ok (.ireturn, 1) := D33 30 rfl rfl rfl
theorem d33_49 : decode (am_mc 33) 49 = .ok (.aload_n 0, 1) := D33 31 rfl rfl rfl
theorem d33_50 : decode (am_mc 33) 50 = .ok (.iload_n 3, 1) := D33 32 rfl rfl rfl
theorem d33_51 : decode (am_mc 33) 51 = .ok (.iconst 1, 1) := D33 33 rfl rfl rfl
theorem d33_52 : decode (am_mc 33) 52 = .ok (.iadd, 1) := D33 34 rfl rfl rfl
theorem d33_53 : decode (am_mc 33) 53 = .ok (.invokevirtual 39, 3) := D33 35 rfl rfl rfl
theorem d33_56 : decode (am_mc 33) 56 = .ok (.istore 4, 2) := D33 36 rfl rfl rfl
theorem d33_58 : decode (am_mc 33) 58 = .ok (.aload_n 0, 1) := D33 37 rfl rfl rfl
theorem d33_59 : decode (am_mc 33) 59 = .ok (.iload_n 3, 1) := D33 38 rfl rfl rfl
theorem d33_60 : decode (am_mc 33) 60 = .ok (.invokevirtual 20, 3) := D33 39 rfl rfl rfl
theorem d33_63 : decode (am_mc 33) 63 = .ok (.bipush 46, 2) := D33 40 rfl rfl rfl
theorem d33_65 : decode (am_mc 33) 65 = .ok (.if_icmp .ne 32, 3) := D33 41 rfl rfl rfl
theorem d33_68 : decode (am_mc 33) 68 = .ok (.iload 4, 2) := D33 42 rfl rfl rfl
theorem d33_70 : decode (am_mc 33) 70 = .ok (.iconst 1, 1) := D33 43 rfl rfl rfl
theorem d33_71 : decode (am_mc 33) 71 = .ok (.if_icmp .lt 26, 3) := D33 44 rfl rfl rfl
theorem d33_74 : decode (am_mc 33) 74 = .ok (.iload 4, 2) := D33 45 rfl rfl rfl
theorem d33_76 : decode (am_mc 33) 76 = .ok (.iconst 3, 1) := D33 46 rfl rfl rfl
theorem d33_77 : decode (am_mc 33) 77 = .ok (.if_icmp .gt 20, 3) := D33 47 rfl rfl rfl
theorem d33_80 : decode (am_mc 33) 80 = .ok (.iload_n 3, 1) := D33 48 rfl rfl rfl
theorem d33_81 : decode (am_mc 33) 81 = .ok (.iconst 1, 1) := D33 49 rfl rfl rfl
theorem d33_82 : decode (am_mc 33) 82 = .ok (.iadd, 1) := D33 50 rfl rfl rfl
theorem d33_83 : decode (am_mc 33) 83 = .ok (.iload 4, 2) := D33 51 rfl rfl rfl
theorem d33_85 : decode (am_mc 33) 85 = .ok (.iadd, 1) := D33 52 rfl rfl rfl
theorem d33_86 : decode (am_mc 33) 86 = .ok (.aload_n 0, 1) := D33 53 rfl rfl rfl
theorem d33_87 : decode (am_mc 33) 87 = .ok (.getfield 13, 3) := D33 54 rfl rfl rfl
theorem d33_90 : decode (am_mc 33) 90 = .ok (.if_icmp .ne 7, 3) := D33 55 rfl rfl rfl
theorem d33_93 : decode (am_mc 33) 93 = .ok (.iconst 1, 1) := D33 56 rfl rfl rfl
theorem d33_94 : decode (am_mc 33) 94 = .ok (.goto 4, 3) := D33 57 rfl rfl rfl
theorem d33_97 : decode (am_mc 33) 97 = .ok (.iconst 0, 1) := D33 58 rfl rfl rfl
theorem d33_98 : decode (am_mc 33) 98 = .ok (.ireturn, 1) := D33 59 rfl rfl rfl
theorem ml33 : ∀ n, n < 5 → n < am_ml 33 := fun _ h => h
theorem mo33 : am_mo 33 = 3 := by decide +kernel
theorem mr33 : am_mr 33 = some .boolean := by decide +kernel
theorem rg33 : am_rcg 33 = 4 := by decide +kernel
theorem m3_39 : tb_m 3 39 = some (32, 2, 1, 0) := by decide +kernel
theorem dp33_30 : am_md 30 + 1 ≤ am_md 33 ∧ 8 + (am_ml 30 + 11) + am_lr 30 ≤ am_lr 33 := by decide +kernel
theorem dp33_32 : am_md 32 + 1 ≤ am_md 33 ∧ 8 + (am_ml 32 + 11) + am_lr 32 ≤ am_lr 33 := by decide +kernel
def fn33 (o : Nat) (μ : am_M) : Option (Int × am_M) := (am_op (fn30 o 0 μ) (fun z1 => (if z1.1 = 45 then (am_op (fn32 o 1 z1.2) (fun z5 => (if z5.1 < 1 then some (0, z5.2) else (if 6 < z5.1 then some (0, z5.2) else (if w32 (1 + z5.1) = z5.2 o 1 then some (1, z5.2) else (am_op (fn32 o (w32 ((w32 (1 + z5.1)) + 1)) z5.2) (fun z6 => (am_op (fn30 o (w32 (1 + z5.1)) z6.2) (fun z7 => (if z7.1 = 46 then (if z6.1 < 1 then some (0, z7.2) else (if 3 < z6.1 then some (0, z7.2) else (if w32 ((w32 ((w32 (1 + z5.1)) + 1)) + z6.1) = z7.2 o 1 then some (1, z7.2) else some (0, z7.2)))) else some (0, z7.2))))))))))) else (am_op (fn32 o 0 z1.2) (fun z2 => (if z2.1 < 1 then some (0, z2.2) else (if 6 < z2.1 then some (0, z2.2) else (if w32 (0 + z2.1) = z2.2 o 1 then some (1, z2.2) else (am_op (fn32 o (w32 ((w32 (0 + z2.1)) + 1)) z2.2) (fun z3 => (am_op (fn30 o (w32 (0 + z2.1)) z3.2) (fun z4 => (if z4.1 = 46 then (if z3.1 < 1 then some (0, z4.2) else (if 3 < z3.1 then some (0, z4.2) else (if w32 ((w32 ((w32 (0 + z2.1)) + 1)) + z3.1) = z4.2 o 1 then some (1, z4.2) else some (0, z4.2)))) else some (0, z4.2))))))))))))))
def sp33 : am_F := fun vs μ => am_aR 3 vs fun o vs => am_a0 vs (fn33 o μ)
theorem e33 (o : Nat) (μ : am_M) : sp33 [.inr (.inr (3, o))] μ = fn33 o μ := am_aR_c.trans am_a0_c
theorem sd33 : am_Sd 33 sp33 := by
  refine am_Sd_of (by decide) (fun vs μ μ' x h hv hM => ?_)
  obtain ⟨o, vs0, rfl, h0⟩ := am_aR_s h
  obtain ⟨rfl, hz⟩ := am_a0_s h0
  refine ⟨Nat.le_of_ble_eq_true rfl, fun X C hG hr => ?_⟩
  have h := hz
  unfold fn33 at h
  exact (show am_W X C 33 _ 0 0 0 [(0, .inr (.inr (3, o)))] [] μ from (am_c_aload_n hG (pc := 0) d33_0 rfl (am_c_iconst hG (pc := 1) d33_1 (by decide) (x_virtual_i (t := 3) (o := o) (as2 := [.inl 0]) (rest := []) hG (pc := 2) d33_2 mo33 m3_20 (by decide) dp33_30 rfl rfl (Nat.le_of_ble_eq_true rfl) (Nat.le_of_ble_eq_true rfl) rg30 sd30 (e30 _ _ _) h (fun z1 h => (am_c_bipush hG (pc := 5) d33_5 (by decide) (x_icmp_ne (tgt := 14) hG (pc := 7) d33_7 rfl h (fun h => (am_c_iconst hG (pc := 14) d33_14 (by decide) (x_istore_n (lv' := [(1, .inl 0), (0, .inr (.inr (3, o)))]) hG (pc := 15) d33_15 (ml33 _ (by decide)) rfl (am_c_aload_n hG (pc := 16) d33_16 rfl (am_c_iload_n hG (pc := 17) d33_17 rfl (x_virtual_i (t := 3) (o := o) (as2 := [.inl 0]) (rest := []) hG (pc := 18) d33_18 mo33 m3_39 (by decide) dp33_32 rfl rfl (Nat.le_of_ble_eq_true rfl) (Nat.le_of_ble_eq_true rfl) rg32 sd32 (e32 _ _ _) h (fun z2 h => (x_istore_n (lv' := [(2, .inl z2.1), (1, .inl 0), (0, .inr (.inr (3, o)))]) hG (pc := 21) d33_21 (ml33 _ (by decide)) rfl (am_c_iload_n hG (pc := 22) d33_22 rfl (am_c_iconst hG (pc := 23) d33_23 (by decide) (x_icmp_lt (tgt := 33) hG (pc := 24) d33_24 rfl h (fun h => (am_c_iconst hG (pc := 33) d33_33 (by decide) (xq_zret0 hG (by decide) hr (pc := 34) d33_34 mr33 (am_q0 h)))) (fun h => (am_c_iload_n hG (pc := 27) d33_27 rfl (am_c_bipush hG (pc := 28) d33_28 (by decide) (x_icmp_le (tgt := 35) hG (pc := 30) d33_30 rfl h (fun h => (am_c_iload_n hG (pc := 35) d33_35 rfl (am_c_iload_n hG (pc := 36) d33_36 rfl (am_c_iadd hG (pc := 37) d33_37 (x_istore_n (lv' := [(3, .inl (w32 (0 + z2.1))), (2, .inl z2.1), (1, .inl 0), (0, .inr (.inr (3, o)))]) hG (pc := 38) d33_38 (ml33 _ (by decide)) rfl (am_c_iload_n hG (pc := 39) d33_39 rfl (am_c_aload_n hG (pc := 40) d33_40 rfl (x_get_n (v := .inl (z2.2 o 1)) hG (pc := 41) d33_41 mo33 f3_13 rfl (x_icmp_ne (tgt := 49) hG (pc := 44) d33_44 rfl h (fun h => (am_c_aload_n hG (pc := 49) d33_49 rfl (am_c_iload_n hG (pc := 50) d33_50 rfl (am_c_iconst hG (pc := 51) d33_51 (by decide) (am_c_iadd hG (pc := 52) d33_52 (x_virtual_i (t := 3) (o := o) (as2 := [.inl (w32 ((w32 (0 + z2.1)) + 1))]) (rest := []) hG (pc := 53) d33_53 mo33 m3_39 (by decide) dp33_32 rfl rfl (Nat.le_of_ble_eq_true rfl) (Nat.le_of_ble_eq_true rfl) rg32 sd32 (e32 _ _ _) h (fun z3 h => (x_istore (lv' := [(4, .inl z3.1), (3, .inl (w32 (0 + z2.1))), (2, .inl z2.1), (1, .inl 0), (0, .inr (.inr (3, o)))]) hG (pc := 56) d33_56 (ml33 _ (by decide)) rfl (am_c_aload_n hG (pc := 58) d33_58 rfl (am_c_iload_n hG (pc := 59) d33_59 rfl (x_virtual_i (t := 3) (o := o) (as2 := [.inl (w32 (0 + z2.1))]) (rest := []) hG (pc := 60) d33_60 mo33 m3_20 (by decide) dp33_30 rfl rfl (Nat.le_of_ble_eq_true rfl) (Nat.le_of_ble_eq_true rfl) rg30 sd30 (e30 _ _ _) h (fun z4 h => (am_c_bipush hG (pc := 63) d33_63 (by decide) (x_icmp_ne (tgt := 97) hG (pc := 65) d33_65 rfl h (fun h => (am_c_iconst hG (pc := 97) d33_97 (by decide) (xq_zret0 hG (by decide) hr (pc := 98) d33_98 mr33 (am_q0 h)))) (fun h => (am_c_iload hG (pc := 68) d33_68 rfl (am_c_iconst hG (pc := 70) d33_70 (by decide) (x_icmp_lt (tgt := 97) hG (pc := 71) d33_71 rfl h (fun h => (am_c_iconst hG (pc := 97) d33_97 (by decide) (xq_zret0 hG (by decide) hr (pc := 98) d33_98 mr33 (am_q0 h)))) (fun h => (am_c_iload hG (pc := 74) d33_74 rfl (am_c_iconst hG (pc := 76) d33_76 (by decide) (x_icmp_gt (tgt := 97) hG (pc := 77) d33_77 rfl h (fun h => (am_c_iconst hG (pc := 97) d33_97 (by decide) (xq_zret0 hG (by decide) hr (pc := 98) d33_98 mr33 (am_q0 h)))) (fun h => (am_c_iload_n hG (pc := 80) d33_80 rfl (am_c_iconst hG (pc := 81) d33_81 (by decide) (am_c_iadd hG (pc := 82) d33_82 (am_c_iload hG (pc := 83) d33_83 rfl (am_c_iadd hG (pc := 85) d33_85 (am_c_aload_n hG (pc := 86) d33_86 rfl (x_get_n (v := .inl (z4.2 o 1)) hG (pc := 87) d33_87 mo33 f3_13 rfl (x_icmp_ne (tgt := 97) hG (pc := 90) d33_90 rfl h (fun h => (am_c_iconst hG (pc := 97) d33_97 (by decide) (xq_zret0 hG (by decide) hr (pc := 98) d33_98 mr33 (am_q0 h)))) (fun h => (am_c_iconst hG (pc := 93) d33_93 (by decide) (x_goto (tgt := 98) hG (pc := 94) d33_94 rfl (xq_zret1 hG (by decide) hr (pc := 98) d33_98 mr33 (am_q0 h)))))))))))))))))))))))))))))))))))) (fun h => (am_c_iconst hG (pc := 47) d33_47 (by decide) (xq_zret1 hG (by decide) hr (pc := 48) d33_48 mr33 (am_q0 h))))))))))))) (fun h => (am_c_iconst hG (pc := 33) d33_33 (by decide) (xq_zret0 hG (by decide) hr (pc := 34) d33_34 mr33 (am_q0 h))))))))))))))))))) (fun h => (am_c_iconst hG (pc := 10) d33_10 (by decide) (x_goto (tgt := 15) hG (pc := 11) d33_11 rfl (x_istore_n (lv' := [(1, .inl 1), (0, .inr (.inr (3, o)))]) hG (pc := 15) d33_15 (ml33 _ (by decide)) rfl (am_c_aload_n hG (pc := 16) d33_16 rfl (am_c_iload_n hG (pc := 17) d33_17 rfl (x_virtual_i (t := 3) (o := o) (as2 := [.inl 1]) (rest := []) hG (pc := 18) d33_18 mo33 m3_39 (by decide) dp33_32 rfl rfl (Nat.le_of_ble_eq_true rfl) (Nat.le_of_ble_eq_true rfl) rg32 sd32 (e32 _ _ _) h (fun z5 h => (x_istore_n (lv' := [(2, .inl z5.1), (1, .inl 1), (0, .inr (.inr (3, o)))]) hG (pc := 21) d33_21 (ml33 _ (by decide)) rfl (am_c_iload_n hG (pc := 22) d33_22 rfl (am_c_iconst hG (pc := 23) d33_23 (by decide) (x_icmp_lt (tgt := 33) hG (pc := 24) d33_24 rfl h (fun h => (am_c_iconst hG (pc := 33) d33_33 (by decide) (xq_zret0 hG (by decide) hr (pc := 34) d33_34 mr33 (am_q0 h)))) (fun h => (am_c_iload_n hG (pc := 27) d33_27 rfl (am_c_bipush hG (pc := 28) d33_28 (by decide) (x_icmp_le (tgt := 35) hG (pc := 30) d33_30 rfl h (fun h => (am_c_iload_n hG (pc := 35) d33_35 rfl (am_c_iload_n hG (pc := 36) d33_36 rfl (am_c_iadd hG (pc := 37) d33_37 (x_istore_n (lv' := [(3, .inl (w32 (1 + z5.1))), (2, .inl z5.1), (1, .inl 1), (0, .inr (.inr (3, o)))]) hG (pc := 38) d33_38 (ml33 _ (by decide)) rfl (am_c_iload_n hG (pc := 39) d33_39 rfl (am_c_aload_n hG (pc := 40) d33_40 rfl (x_get_n (v := .inl (z5.2 o 1)) hG (pc := 41) d33_41 mo33 f3_13 rfl (x_icmp_ne (tgt := 49) hG (pc := 44) d33_44 rfl h (fun h => (am_c_aload_n hG (pc := 49) d33_49 rfl (am_c_iload_n hG (pc := 50) d33_50 rfl (am_c_iconst hG (pc := 51) d33_51 (by decide) (am_c_iadd hG (pc := 52) d33_52 (x_virtual_i (t := 3) (o := o) (as2 := [.inl (w32 ((w32 (1 + z5.1)) + 1))]) (rest := []) hG (pc := 53) d33_53 mo33 m3_39 (by decide) dp33_32 rfl rfl (Nat.le_of_ble_eq_true rfl) (Nat.le_of_ble_eq_true rfl) rg32 sd32 (e32 _ _ _) h (fun z6 h => (x_istore (lv' := [(4, .inl z6.1), (3, .inl (w32 (1 + z5.1))), (2, .inl z5.1), (1, .inl 1), (0, .inr (.inr (3, o)))]) hG (pc := 56) d33_56 (ml33 _ (by decide)) rfl (am_c_aload_n hG (pc := 58) d33_58 rfl (am_c_iload_n hG (pc := 59) d33_59 rfl (x_virtual_i (t := 3) (o := o) (as2 := [.inl (w32 (1 + z5.1))]) (rest := []) hG (pc := 60) d33_60 mo33 m3_20 (by decide) dp33_30 rfl rfl (Nat.le_of_ble_eq_true rfl) (Nat.le_of_ble_eq_true rfl) rg30 sd30 (e30 _ _ _) h (fun z7 h => (am_c_bipush hG (pc := 63) d33_63 (by decide) (x_icmp_ne (tgt := 97) hG (pc := 65) d33_65 rfl h (fun h => (am_c_iconst hG (pc := 97) d33_97 (by decide) (xq_zret0 hG (by decide) hr (pc := 98) d33_98 mr33 (am_q0 h)))) (fun h => (am_c_iload hG (pc := 68) d33_68 rfl (am_c_iconst hG (pc := 70) d33_70 (by decide) (x_icmp_lt (tgt := 97) hG (pc := 71) d33_71 rfl h (fun h => (am_c_iconst hG (pc := 97) d33_97 (by decide) (xq_zret0 hG (by decide) hr (pc := 98) d33_98 mr33 (am_q0 h)))) (fun h => (am_c_iload hG (pc := 74) d33_74 rfl (am_c_iconst hG (pc := 76) d33_76 (by decide) (x_icmp_gt (tgt := 97) hG (pc := 77) d33_77 rfl h (fun h => (am_c_iconst hG (pc := 97) d33_97 (by decide) (xq_zret0 hG (by decide) hr (pc := 98) d33_98 mr33 (am_q0 h)))) (fun h => (am_c_iload_n hG (pc := 80) d33_80 rfl (am_c_iconst hG (pc := 81) d33_81 (by decide) (am_c_iadd hG (pc := 82) d33_82 (am_c_iload hG (pc := 83) d33_83 rfl (am_c_iadd hG (pc := 85) d33_85 (am_c_aload_n hG (pc := 86) d33_86 rfl (x_get_n (v := .inl (z7.2 o 1)) hG (pc := 87) d33_87 mo33 f3_13 rfl (x_icmp_ne (tgt := 97) hG (pc := 90) d33_90 rfl h (fun h => (am_c_iconst hG (pc := 97) d33_97 (by decide) (xq_zret0 hG (by decide) hr (pc := 98) d33_98 mr33 (am_q0 h)))) (fun h => (am_c_iconst hG (pc := 93) d33_93 (by decide) (x_goto (tgt := 98) hG (pc := 94) d33_94 rfl (xq_zret1 hG (by decide) hr (pc := 98) d33_98 mr33 (am_q0 h)))))))))))))))))))))))))))))))))))) (fun h => (am_c_iconst hG (pc := 47) d33_47 (by decide) (xq_zret1 hG (by decide) hr (pc := 48) d33_48 mr33 (am_q0 h))))))))))))) (fun h => (am_c_iconst hG (pc := 33) d33_33 (by decide) (xq_zret0 hG (by decide) hr (pc := 34) d33_34 mr33 (am_q0 h)))))))))))))))))))))))))))
/-! ChartPress$Letters.whole(II)I -/
theorem D34 (k : Nat) {pc : Nat} {i : Instr} (h : tbi34[k]? = some (pc, i)) (hs : am_isw i = false) {n : Nat} (hn : am_il i = n) : decode (am_mc 34) pc = .ok (i, n) := am_d2 (by decide) (by decide) rfl h hs hn
theorem d34_0 : decode (am_mc 34) 0 = .ok (.iconst 0, 1) := D34 0 rfl rfl rfl
theorem d34_1 : decode (am_mc 34) 1 = .ok (.istore_n 3, 1) := D34 1 rfl rfl rfl
theorem d34_2 : decode (am_mc 34) 2 = .ok (.iload_n 1, 1) := D34 2 rfl rfl rfl
theorem d34_3 : decode (am_mc 34) 3 = .ok (.istore 4, 2) := D34 3 rfl rfl rfl
theorem d34_5 : decode (am_mc 34) 5 = .ok (.iload 4, 2) := D34 4 rfl rfl rfl
theorem d34_7 : decode (am_mc 34) 7 = .ok (.iload_n 1, 1) := D34 5 rfl rfl rfl
theorem d34_8 : decode (am_mc 34) 8 = .ok (.iload_n 2, 1) := D34 6 rfl rfl rfl
theorem d34_9 : decode (am_mc 34) 9 = .ok (.iadd, 1) := D34 7 rfl rfl rfl
theorem d34_10 : decode (am_mc 34) 10 = .ok (.if_icmp .ge 24, 3) := D34 8 rfl rfl rfl
theorem d34_13 : decode (am_mc 34) 13 = .ok (.iload_n 3, 1) := D34 9 rfl rfl rfl
theorem d34_14 : decode (am_mc 34) 14 = .ok (.bipush 10, 2) := D34 10 rfl rfl rfl
theorem d34_16 : decode (am_mc 34) 16 = .ok (.imul, 1) := D34 11 rfl rfl rfl
theorem d34_17 : decode (am_mc 34) 17 = .ok (.aload_n 0, 1) := D34 12 rfl rfl rfl
theorem d34_18 : decode (am_mc 34) 18 = .ok (.iload 4, 2) := D34 13 rfl rfl rfl
theorem d34_20 : decode (am_mc 34) 20 = .ok (.invokevirtual 20, 3) := D34 14 rfl rfl rfl
theorem d34_23 : decode (am_mc 34) 23 = .ok (.bipush 48, 2) := D34 15 rfl rfl rfl
theorem d34_25 : decode (am_mc 34) 25 = .ok (.isub, 1) := D34 16 rfl rfl rfl
theorem d34_26 : decode (am_mc 34) 26 = .ok (.iadd, 1) := D34 17 rfl rfl rfl
theorem d34_27 : decode (am_mc 34) 27 = .ok (.istore_n 3, 1) := D34 18 rfl rfl rfl
theorem d34_28 : decode (am_mc 34) 28 = .ok (.iinc 4 1, 3) := D34 19 rfl rfl rfl
theorem d34_31 : decode (am_mc 34) 31 = .ok (.goto (-26), 3) := D34 20 rfl rfl rfl
theorem d34_34 : decode (am_mc 34) 34 = .ok (.iload_n 3, 1) := D34 21 rfl rfl rfl
theorem d34_35 : decode (am_mc 34) 35 = .ok (.ireturn, 1) := D34 22 rfl rfl rfl
theorem ml34 : ∀ n, n < 5 → n < am_ml 34 := fun _ h => h
theorem mo34 : am_mo 34 = 3 := by decide +kernel
theorem mr34 : am_mr 34 = some .int := by decide +kernel
theorem rg34 : am_rcg 34 = 4 := by decide +kernel
theorem dp34_30 : am_md 30 + 1 ≤ am_md 34 ∧ 8 + (am_ml 30 + 11) + am_lr 30 ≤ am_lr 34 := by decide +kernel
def L34_5 (l0 : Nat) (l1 : Int) (l2 : Int) : Nat → Int → Int → am_M → Option ((Int × am_M) ⊕ (Int × Int × am_M))
  | 0, _, _, _ => none
  | n + 1, l3, l4, μ => (if l4 < w32 (l1 + l2) then (am_op (fn30 l0 l4 μ) (fun z1 => (L34_5 l0 l1 l2 n (w32 ((w32 (l3 * 10)) + (w32 (z1.1 - 48)))) (w32 (l4 + 1)) z1.2))) else (some (.inr (l3, l4, μ))))
theorem w34_5 {X : am_K} {C : am_C} {Q : State → Prop} (hG : am_G X C 34 0 0 (0, fun _ => 0)) (hr : match X with | (_, _, _, _, _, _, _, _, meth, _) => meth.sig.returnType = am_mr 34 ∧ meth.locks = false) (l0 : Nat) (l1 : Int) (l2 : Int) : ∀ (n : Nat) (l3 : Int) (l4 : Int) (μ : am_M) (r : (Int × am_M) ⊕ (Int × Int × am_M)), L34_5 l0 l1 l2 n l3 l4 μ = some r → (∀ q, r = .inl q → Q = am_E X C 34 q.1 q.2) → (∀ t, r = .inr t → am_W X C 34 Q 0 0 34 [(3, .inl t.1)] [] t.2.2) → am_W X C 34 Q 0 0 5 [(0, .inr (.inr (3, l0))), (1, .inl l1), (2, .inl l2), (3, .inl l3), (4, .inl l4)] [] μ := by
  intro n
  induction n with
  | zero => intro l3 l4 μ r h; cases h
  | succ n ih =>
    intro l3 l4 μ r h hI hX
    unfold L34_5 at h
    exact (am_c_iload hG (pc := 5) d34_5 rfl (am_c_iload_n hG (pc := 7) d34_7 rfl (am_c_iload_n hG (pc := 8) d34_8 rfl (am_c_iadd hG (pc := 9) d34_9 (x_icmp_ge (tgt := 34) hG (pc := 10) d34_10 rfl h (fun h => (am_lvw (lv2 := [(3, .inl l3)]) [3] rfl (hX (l3, l4, μ) (Option.some.inj h).symm))) (fun h => (am_c_iload_n hG (pc := 13) d34_13 rfl (am_c_bipush hG (pc := 14) d34_14 (by decide) (am_c_imul hG (pc := 16) d34_16 (am_c_aload_n hG (pc := 17) d34_17 rfl (am_c_iload hG (pc := 18) d34_18 rfl (x_virtual_i (t := 3) (o := l0) (as2 := [.inl l4]) (rest := [.inl (w32 (l3 * 10))]) hG (pc := 20) d34_20 mo34 m3_20 (by decide) dp34_30 rfl rfl (Nat.le_of_ble_eq_true rfl) (Nat.le_of_ble_eq_true rfl) rg30 sd30 (e30 _ _ _) h (fun z1 h => (am_c_bipush hG (pc := 23) d34_23 (by decide) (am_c_isub hG (pc := 25) d34_25 (am_c_iadd hG (pc := 26) d34_26 (x_istore_n (lv' := [(3, .inl (w32 ((w32 (l3 * 10)) + (w32 (z1.1 - 48))))), (0, .inr (.inr (3, l0))), (1, .inl l1), (2, .inl l2), (4, .inl l4)]) hG (pc := 27) d34_27 (ml34 _ (by decide)) rfl (x_iinc (lv' := [(4, .inl (w32 (l4 + 1))), (3, .inl (w32 ((w32 (l3 * 10)) + (w32 (z1.1 - 48))))), (0, .inr (.inr (3, l0))), (1, .inl l1), (2, .inl l2)]) hG (pc := 28) d34_28 rfl (ml34 _ (by decide)) rfl (x_goto (tgt := 5) hG (pc := 31) d34_31 rfl (am_lvw (lv2 := [(0, .inr (.inr (3, l0))), (1, .inl l1), (2, .inl l2), (3, .inl (w32 ((w32 (l3 * 10)) + (w32 (z1.1 - 48))))), (4, .inl (w32 (l4 + 1)))]) [2, 3, 4, 1, 0] rfl (ih _ _ _ _ h hI hX)))))))))))))))))))))
def fn34 (o : Nat) (a : Int) (b : Int) (μ : am_M) : Option (Int × am_M) := (am_op (L34_5 o a b am_fuel 0 a μ) (fun s => am_lp s (fun q1 => some q1) (fun t1 => some (t1.1, t1.2.2))))
def sp34 : am_F := fun vs μ => am_aR 3 vs fun o vs => am_aI vs fun a vs => am_aI vs fun b vs => am_a0 vs (fn34 o a b μ)
theorem e34 (o : Nat) (a : Int) (b : Int) (μ : am_M) : sp34 [.inr (.inr (3, o)), .inl a, .inl b] μ = fn34 o a b μ := am_aR_c.trans (am_aI_c.trans (am_aI_c.trans am_a0_c))
theorem sd34 : am_Sd 34 sp34 := by
  refine am_Sd_of (by decide) (fun vs μ μ' x h hv hM => ?_)
  obtain ⟨o, vs0, rfl, h0⟩ := am_aR_s h
  obtain ⟨a, vs1, rfl, h1⟩ := am_aI_s h0
  obtain ⟨b, vs2, rfl, h2⟩ := am_aI_s h1
  obtain ⟨rfl, hz⟩ := am_a0_s h2
  refine ⟨Nat.le_of_ble_eq_true rfl, fun X C hG hr => ?_⟩
  have h := hz
  unfold fn34 at h
  exact (show am_W X C 34 _ 0 0 0 [(0, .inr (.inr (3, o))), (1, .inl a), (2, .inl b)] [] μ from (am_c_iconst hG (pc := 0) d34_0 (by decide) (x_istore_n (lv' := [(3, .inl 0), (0, .inr (.inr (3, o))), (1, .inl a), (2, .inl b)]) hG (pc := 1) d34_1 (ml34 _ (by decide)) rfl (am_c_iload_n hG (pc := 2) d34_2 rfl (x_istore (lv' := [(4, .inl a), (3, .inl 0), (0, .inr (.inr (3, o))), (1, .inl a), (2, .inl b)]) hG (pc := 3) d34_3 (ml34 _ (by decide)) rfl (x_lp h (fun r h1 h2 => (am_lvw (lv2 := [(0, .inr (.inr (3, o))), (1, .inl a), (2, .inl b), (3, .inl 0), (4, .inl a)]) [2, 3, 4, 1, 0] rfl (w34_5 hG hr _ _ _ _ _ _ _ _ h1 (fun q1 e => am_q1 e h2 (fun h => am_q0 h)) (fun t1 e => am_q2 e h2 (fun h => (am_c_iload_n hG (pc := 34) d34_34 rfl (xq_iret hG (by decide) hr (pc := 35) d34_35 mr34 (am_q0 h))))))))))))))
/-! ChartPress$Letters.daysOf(II)I -/
theorem D35 (k : Nat) {pc : Nat} {i : Instr} (h : tbi35[k]? = some (pc, i)) (hs : am_isw i = false) {n : Nat} (hn : am_il i = n) : decode (am_mc 35) pc = .ok (i, n) := am_d2 (by decide) (by decide) rfl h hs hn
theorem d35_0 : decode (am_mc 35) 0 = .ok (.iload_n 1, 1) := D35 0 rfl rfl rfl
theorem d35_1 : decode (am_mc 35) 1 = .ok (.iconst 1, 1) := D35 1 rfl rfl rfl
theorem d35_2 : decode (am_mc 35) 2 = .ok (.if_icmp .lt 11, 3) := D35 2 rfl rfl rfl
theorem d35_5 : decode (am_mc 35) 5 = .ok (.iload_n 1, 1) := D35 3 rfl rfl rfl
theorem d35_6 : decode (am_mc 35) 6 = .ok (.getstatic 56, 3) := D35 4 rfl rfl rfl
theorem d35_9 : decode (am_mc 35) 9 = .ok (.arraylength, 1) := D35 5 rfl rfl rfl
theorem d35_10 : decode (am_mc 35) 10 = .ok (.if_icmp .le 5, 3) := D35 6 rfl rfl rfl
theorem d35_13 : decode (am_mc 35) 13 = .ok (.iconst 0, 1) := D35 7 rfl rfl rfl
theorem d35_14 : decode (am_mc 35) 14 = .ok (.ireturn, 1) := D35 8 rfl rfl rfl
theorem d35_15 : decode (am_mc 35) 15 = .ok (.iload_n 0, 1) := D35 9 rfl rfl rfl
theorem d35_16 : decode (am_mc 35) 16 = .ok (.iconst 4, 1) := D35 10 rfl rfl rfl
theorem d35_17 : decode (am_mc 35) 17 = .ok (.irem, 1) := D35 11 rfl rfl rfl
theorem d35_18 : decode (am_mc 35) 18 = .ok (.ifCond .ne 22, 3) := D35 12 rfl rfl rfl
theorem d35_21 : decode (am_mc 35) 21 = .ok (.iload_n 0, 1) := D35 13 rfl rfl rfl
theorem d35_22 : decode (am_mc 35) 22 = .ok (.bipush 100, 2) := D35 14 rfl rfl rfl
theorem d35_24 : decode (am_mc 35) 24 = .ok (.irem, 1) := D35 15 rfl rfl rfl
theorem d35_25 : decode (am_mc 35) 25 = .ok (.ifCond .ne 11, 3) := D35 16 rfl rfl rfl
theorem d35_28 : decode (am_mc 35) 28 = .ok (.iload_n 0, 1) := D35 17 rfl rfl rfl
theorem d35_29 : decode (am_mc 35) 29 = .ok (.sipush 400, 3) := D35 18 rfl rfl rfl
theorem d35_32 : decode (am_mc 35) 32 = .ok (.irem, 1) := D35 19 rfl rfl rfl
theorem d35_33 : decode (am_mc 35) 33 = .ok (.ifCond .ne 7, 3) := D35 20 rfl rfl rfl
theorem d35_36 : decode (am_mc 35) 36 = .ok (.iconst 1, 1) := D35 21 rfl rfl rfl
theorem d35_37 : decode (am_mc 35) 37 = .ok (.goto 4, 3) := D35 22 rfl rfl rfl
theorem d35_40 : decode (am_mc 35) 40 = .ok (.iconst 0, 1) := D35 23 rfl rfl rfl
theorem d35_41 : decode (am_mc 35) 41 = .ok (.istore_n 2, 1) := D35 24 rfl rfl rfl
theorem d35_42 : decode (am_mc 35) 42 = .ok (.getstatic 56, 3) := D35 25 rfl rfl rfl
theorem d35_45 : decode (am_mc 35) 45 = .ok (.iload_n 1, 1) := D35 26 rfl rfl rfl
theorem d35_46 : decode (am_mc 35) 46 = .ok (.iconst 1, 1) := D35 27 rfl rfl rfl
theorem d35_47 : decode (am_mc 35) 47 = .ok (.isub, 1) := D35 28 rfl rfl rfl
theorem d35_48 : decode (am_mc 35) 48 = .ok (.iaload, 1) := D35 29 rfl rfl rfl
theorem d35_49 : decode (am_mc 35) 49 = .ok (.iload_n 1, 1) := D35 30 rfl rfl rfl
theorem d35_50 : decode (am_mc 35) 50 = .ok (.iconst 2, 1) := D35 31 rfl rfl rfl
theorem d35_51 : decode (am_mc 35) 51 = .ok (.if_icmp .ne 11, 3) := D35 32 rfl rfl rfl
theorem d35_54 : decode (am_mc 35) 54 = .ok (.iload_n 2, 1) := D35 33 rfl rfl rfl
theorem d35_55 : decode (am_mc 35) 55 = .ok (.ifCond .eq 7, 3) := D35 34 rfl rfl rfl
theorem d35_58 : decode (am_mc 35) 58 = .ok (.iconst 1, 1) := D35 35 rfl rfl rfl
theorem d35_59 : decode (am_mc 35) 59 = .ok (.goto 4, 3) := D35 36 rfl rfl rfl
theorem d35_62 : decode (am_mc 35) 62 = .ok (.iconst 0, 1) := D35 37 rfl rfl rfl
theorem d35_63 : decode (am_mc 35) 63 = .ok (.iadd, 1) := D35 38 rfl rfl rfl
theorem d35_64 : decode (am_mc 35) 64 = .ok (.ireturn, 1) := D35 39 rfl rfl rfl
theorem ml35 : ∀ n, n < 3 → n < am_ml 35 := fun _ h => h
theorem mo35 : am_mo 35 = 3 := by decide +kernel
theorem mr35 : am_mr 35 = some .int := by decide +kernel
theorem rg35 : am_rcg 35 = 0 := by decide +kernel
def fn35 (a : Int) (b : Int) (μ : am_M) : Option (Int × am_M) := (if b < 1 then some (0, μ) else (if ((am_clen 0 : Nat) : Int) < b then some (0, μ) else (if o_rem a 4 = 0 then (if o_rem a 100 = 0 then (if o_rem a 400 = 0 then (if (0 : Int) ≤ w32 (b - 1) ∧ w32 (b - 1) < ((am_clen 0 : Nat) : Int) then (if b = 2 then some (w32 ((am_cst 0 (w32 (b - 1) : Int).toNat) + 1), μ) else some (w32 ((am_cst 0 (w32 (b - 1) : Int).toNat) + 0), μ)) else none) else (if (0 : Int) ≤ w32 (b - 1) ∧ w32 (b - 1) < ((am_clen 0 : Nat) : Int) then (if b = 2 then some (w32 ((am_cst 0 (w32 (b - 1) : Int).toNat) + 0), μ) else some (w32 ((am_cst 0 (w32 (b - 1) : Int).toNat) + 0), μ)) else none)) else (if (0 : Int) ≤ w32 (b - 1) ∧ w32 (b - 1) < ((am_clen 0 : Nat) : Int) then (if b = 2 then some (w32 ((am_cst 0 (w32 (b - 1) : Int).toNat) + 1), μ) else some (w32 ((am_cst 0 (w32 (b - 1) : Int).toNat) + 0), μ)) else none)) else (if (0 : Int) ≤ w32 (b - 1) ∧ w32 (b - 1) < ((am_clen 0 : Nat) : Int) then (if b = 2 then some (w32 ((am_cst 0 (w32 (b - 1) : Int).toNat) + 0), μ) else some (w32 ((am_cst 0 (w32 (b - 1) : Int).toNat) + 0), μ)) else none))))
def sp35 : am_F := fun vs μ => am_aI vs fun a vs => am_aI vs fun b vs => am_a0 vs (fn35 a b μ)
theorem e35 (a : Int) (b : Int) (μ : am_M) : sp35 [.inl a, .inl b] μ = fn35 a b μ := am_aI_c.trans (am_aI_c.trans am_a0_c)
theorem sd35 : am_Sd 35 sp35 := by
  refine am_Sd_of (by decide) (fun vs μ μ' x h hv hM => ?_)
  obtain ⟨a, vs0, rfl, h0⟩ := am_aI_s h
  obtain ⟨b, vs1, rfl, h1⟩ := am_aI_s h0
  obtain ⟨rfl, hz⟩ := am_a0_s h1
  refine ⟨Nat.le_of_ble_eq_true rfl, fun X C hG hr => ?_⟩
  have h := hz
  unfold fn35 at h
  exact (show am_W X C 35 _ 0 0 0 [(0, .inl a), (1, .inl b)] [] μ from (am_c_iload_n hG (pc := 0) d35_0 rfl (am_c_iconst hG (pc := 1) d35_1 (by decide) (x_icmp_lt (tgt := 13) hG (pc := 2) d35_2 rfl h (fun h => (am_c_iconst hG (pc := 13) d35_13 (by decide) (xq_iret hG (by decide) hr (pc := 14) d35_14 mr35 (am_q0 h)))) (fun h => (am_c_iload_n hG (pc := 5) d35_5 rfl (am_c_getstatic hG (pc := 6) d35_6 (v := .inr (.inr (30, 0))) (by decide +kernel) (am_c_klen hG (pc := 9) d35_9 (x_icmp_le (tgt := 15) hG (pc := 10) d35_10 rfl h (fun h => (am_c_iload_n hG (pc := 15) d35_15 rfl (am_c_iconst hG (pc := 16) d35_16 (by decide) (am_c_irem hG (pc := 17) d35_17 (by decide) (x_if_ne (tgt := 40) hG (pc := 18) d35_18 rfl h (fun h => (am_c_iconst hG (pc := 40) d35_40 (by decide) (x_istore_n (lv' := [(2, .inl 0), (0, .inl a), (1, .inl b)]) hG (pc := 41) d35_41 (ml35 _ (by decide)) rfl (am_c_getstatic hG (pc := 42) d35_42 (v := .inr (.inr (30, 0))) (by decide +kernel) (am_c_iload_n hG (pc := 45) d35_45 rfl (am_c_iconst hG (pc := 46) d35_46 (by decide) (am_c_isub hG (pc := 47) d35_47 (x_kaload hG (pc := 48) d35_48 h (fun h => (am_c_iload_n hG (pc := 49) d35_49 rfl (am_c_iconst hG (pc := 50) d35_50 (by decide) (x_icmp_ne (tgt := 62) hG (pc := 51) d35_51 rfl h (fun h => (am_c_iconst hG (pc := 62) d35_62 (by decide) (am_c_iadd hG (pc := 63) d35_63 (xq_iret hG (by decide) hr (pc := 64) d35_64 mr35 (am_q0 h))))) (fun h => (am_c_iload_n hG (pc := 54) d35_54 rfl (y_if_eq (tgt := 62) hG (pc := 55) d35_55 rfl (by decide) (am_c_iconst hG (pc := 62) d35_62 (by decide) (am_c_iadd hG (pc := 63) d35_63 (xq_iret hG (by decide) hr (pc := 64) d35_64 mr35 (am_q0 h))))))))))))))))))) (fun h => (am_c_iload_n hG (pc := 21) d35_21 rfl (am_c_bipush hG (pc := 22) d35_22 (by decide) (am_c_irem hG (pc := 24) d35_24 (by decide) (x_if_ne (tgt := 36) hG (pc := 25) d35_25 rfl h (fun h => (am_c_iconst hG (pc := 36) d35_36 (by decide) (x_goto (tgt := 41) hG (pc := 37) d35_37 rfl (x_istore_n (lv' := [(2, .inl 1), (0, .inl a), (1, .inl b)]) hG (pc := 41) d35_41 (ml35 _ (by decide)) rfl (am_c_getstatic hG (pc := 42) d35_42 (v := .inr (.inr (30, 0))) (by decide +kernel) (am_c_iload_n hG (pc := 45) d35_45 rfl (am_c_iconst hG (pc := 46) d35_46 (by decide) (am_c_isub hG (pc := 47) d35_47 (x_kaload hG (pc := 48) d35_48 h (fun h => (am_c_iload_n hG (pc := 49) d35_49 rfl (am_c_iconst hG (pc := 50) d35_50 (by decide) (x_icmp_ne (tgt := 62) hG (pc := 51) d35_51 rfl h (fun h => (am_c_iconst hG (pc := 62) d35_62 (by decide) (am_c_iadd hG (pc := 63) d35_63 (xq_iret hG (by decide) hr (pc := 64) d35_64 mr35 (am_q0 h))))) (fun h => (am_c_iload_n hG (pc := 54) d35_54 rfl (n_if_eq (tgt := 62) hG (pc := 55) d35_55 rfl (by decide) (am_c_iconst hG (pc := 58) d35_58 (by decide) (x_goto (tgt := 63) hG (pc := 59) d35_59 rfl (am_c_iadd hG (pc := 63) d35_63 (xq_iret hG (by decide) hr (pc := 64) d35_64 mr35 (am_q0 h))))))))))))))))))))) (fun h => (am_c_iload_n hG (pc := 28) d35_28 rfl (am_c_sipush hG (pc := 29) d35_29 (by decide) (am_c_irem hG (pc := 32) d35_32 (by decide) (x_if_ne (tgt := 40) hG (pc := 33) d35_33 rfl h (fun h => (am_c_iconst hG (pc := 40) d35_40 (by decide) (x_istore_n (lv' := [(2, .inl 0), (0, .inl a), (1, .inl b)]) hG (pc := 41) d35_41 (ml35 _ (by decide)) rfl (am_c_getstatic hG (pc := 42) d35_42 (v := .inr (.inr (30, 0))) (by decide +kernel) (am_c_iload_n hG (pc := 45) d35_45 rfl (am_c_iconst hG (pc := 46) d35_46 (by decide) (am_c_isub hG (pc := 47) d35_47 (x_kaload hG (pc := 48) d35_48 h (fun h => (am_c_iload_n hG (pc := 49) d35_49 rfl (am_c_iconst hG (pc := 50) d35_50 (by decide) (x_icmp_ne (tgt := 62) hG (pc := 51) d35_51 rfl h (fun h => (am_c_iconst hG (pc := 62) d35_62 (by decide) (am_c_iadd hG (pc := 63) d35_63 (xq_iret hG (by decide) hr (pc := 64) d35_64 mr35 (am_q0 h))))) (fun h => (am_c_iload_n hG (pc := 54) d35_54 rfl (y_if_eq (tgt := 62) hG (pc := 55) d35_55 rfl (by decide) (am_c_iconst hG (pc := 62) d35_62 (by decide) (am_c_iadd hG (pc := 63) d35_63 (xq_iret hG (by decide) hr (pc := 64) d35_64 mr35 (am_q0 h))))))))))))))))))) (fun h => (am_c_iconst hG (pc := 36) d35_36 (by decide) (x_goto (tgt := 41) hG (pc := 37) d35_37 rfl (x_istore_n (lv' := [(2, .inl 1), (0, .inl a), (1, .inl b)]) hG (pc := 41) d35_41 (ml35 _ (by decide)) rfl (am_c_getstatic hG (pc := 42) d35_42 (v := .inr (.inr (30, 0))) (by decide +kernel) (am_c_iload_n hG (pc := 45) d35_45 rfl (am_c_iconst hG (pc := 46) d35_46 (by decide) (am_c_isub hG (pc := 47) d35_47 (x_kaload hG (pc := 48) d35_48 h (fun h => (am_c_iload_n hG (pc := 49) d35_49 rfl (am_c_iconst hG (pc := 50) d35_50 (by decide) (x_icmp_ne (tgt := 62) hG (pc := 51) d35_51 rfl h (fun h => (am_c_iconst hG (pc := 62) d35_62 (by decide) (am_c_iadd hG (pc := 63) d35_63 (xq_iret hG (by decide) hr (pc := 64) d35_64 mr35 (am_q0 h))))) (fun h => (am_c_iload_n hG (pc := 54) d35_54 rfl (n_if_eq (tgt := 62) hG (pc := 55) d35_55 rfl (by decide) (am_c_iconst hG (pc := 58) d35_58 (by decide) (x_goto (tgt := 63) hG (pc := 59) d35_59 rfl (am_c_iadd hG (pc := 63) d35_63 (xq_iret hG (by decide) hr (pc := 64) d35_64 mr35 (am_q0 h)))))))))))))))))))))))))))))))))))) (fun h => (am_c_iconst hG (pc := 13) d35_13 (by decide) (xq_iret hG (by decide) hr (pc := 14) d35_14 mr35 (am_q0 h)))))))))))))
/-! ChartPress$Letters.isDate()Z -/
theorem D36 (k : Nat) {pc : Nat} {i : Instr} (h : tbi36[k]? = some (pc, i)) (hs : am_isw i = false) {n : Nat} (hn : am_il i = n) : decode (am_mc 36) pc = .ok (i, n) := am_d2 (by decide) (by decide) rfl h hs hn
theorem d36_0 : decode (am_mc 36) 0 = .ok (.aload_n 0, 1) := D36 0 rfl rfl rfl
theorem d36_1 : decode (am_mc 36) 1 = .ok (.getfield 13, 3) := D36 1 rfl rfl rfl
theorem d36_4 : decode (am_mc 36) 4 = .ok (.bipush 10, 2) := D36 2 rfl rfl rfl
theorem d36_6 : decode (am_mc 36) 6 = .ok (.if_icmp .ne 56, 3) := D36 3 rfl rfl rfl
theorem d36_9 : decode (am_mc 36) 9 = .ok (.aload_n 0, 1) := D36 4 rfl rfl rfl
theorem d36_10 : decode (am_mc 36) 10 = .ok (.iconst 0, 1) := D36 5 rfl rfl rfl
theorem d36_11 : decode (am_mc 36) 11 = .ok (.invokevirtual 39, 3) := D36 6 rfl rfl rfl
theorem d36_14 : decode (am_mc 36) 14 = .ok (.iconst 4, 1) := D36 7 rfl rfl rfl
theorem d36_15 : decode (am_mc 36) 15 = .ok (.if_icmp .ne 47, 3) := D36 8 rfl rfl rfl
theorem d36_18 : decode (am_mc 36) 18 = .ok (.aload_n 0, 1) := D36 9 rfl rfl rfl
theorem d36_19 : decode (am_mc 36) 19 = .ok (.iconst 4, 1) := D36 10 rfl rfl rfl
theorem d36_20 : decode (am_mc 36) 20 = .ok (.invokevirtual 20, 3) := D36 11 rfl rfl rfl
theorem d36_23 : decode (am_mc 36) 23 = .ok (.bipush 45, 2) := D36 12 rfl rfl rfl
theorem d36_25 : decode (am_mc 36) 25 = .ok (.if_icmp .ne 37, 3) := D36 13 rfl rfl rfl
theorem d36_28 : decode (am_mc 36) 28 = .ok (.aload_n 0, 1) := D36 14 rfl rfl rfl
theorem d36_29 : decode (am_mc 36) 29 = .ok (.iconst 5, 1) := D36 15 rfl rfl rfl
theorem d36_30 : decode (am_mc 36) 30 = .ok (.invokevirtual 39, 3) := D36 16 rfl rfl rfl
theorem d36_33 : decode (am_mc 36) 33 = .ok (.iconst 2, 1) := D36 17 rfl rfl rfl
theorem d36_34 : decode (am_mc 36) 34 = .ok (.if_icmp .ne 28, 3) := D36 18 rfl rfl rfl
theorem d36_37 : decode (am_mc 36) 37 = .ok (.aload_n 0, 1) := D36 19 rfl rfl rfl
theorem d36_38 : decode (am_mc 36) 38 = .ok (.bipush 7, 2) := D36 20 rfl rfl rfl
theorem d36_40 : decode (am_mc 36) 40 = .ok (.invokevirtual 20, 3) := D36 21 rfl rfl rfl
theorem d36_43 : decode (am_mc 36) 43 = .ok (.bipush 45, 2) := D36 22 rfl rfl rfl
theorem d36_45 : decode (am_mc 36) 45 = .ok (.if_icmp .ne 17, 3) := D36 23 rfl rfl rfl
theorem d36_48 : decode (am_mc 36) 48 = .ok (.aload_n 0, 1) := D36 24 rfl rfl rfl
theorem d36_49 : decode (am_mc 36) 49 = .ok (.bipush 8, 2) := D36 25 rfl rfl rfl
theorem d36_51 : decode (am_mc 36) 51 = .ok (.invokevirtual 39, 3) := D36 26 rfl rfl rfl
theorem d36_54 : decode (am_mc 36) 54 = .ok (.iconst 2, 1) := D36 27 rfl rfl rfl
theorem d36_55 : decode (am_mc 36) 55 = .ok (.if_icmp .ne 7, 3) := D36 28 rfl rfl rfl
theorem d36_58 : decode (am_mc 36) 58 = .ok (.iconst 1, 1) := D36 29 rfl rfl rfl
theorem d36_59 : decode (am_mc 36) 59 = .ok (.goto 4, 3) := D36 30 rfl rfl rfl
theorem d36_62 : decode (am_mc 36) 62 = .ok (.iconst 0, 1) := D36 31 rfl rfl rfl
theorem d36_63 : decode (am_mc 36) 63 = .ok (.istore_n 1, 1) := D36 32 rfl rfl rfl
theorem d36_64 : decode (am_mc 36) 64 = .ok (.iload_n 1, 1) := D36 33 rfl rfl rfl
theorem d36_65 : decode (am_mc 36) 65 = .ok (.ifCond .ne 5, 3) := D36 34 rfl rfl rfl
theorem d36_68 : decode (am_mc 36) 68 = .ok (.iconst 0, 1) := D36 35 rfl rfl rfl
theorem d36_69 : decode (am_mc 36) 69 = .ok (.ireturn, 1) := D36 36 rfl rfl rfl
theorem d36_70 : decode (am_mc 36) 70 = .ok (.aload_n 0, 1) := D36 37 rfl rfl rfl
theorem d36_71 : decode (am_mc 36) 71 = .ok (.bipush 8, 2) := D36 38 rfl rfl rfl
theorem d36_73 : decode (am_mc 36) 73 = .ok (.iconst 2, 1) := D36 39 rfl rfl rfl
theorem d36_74 : decode (am_mc 36) 74 = .ok (.invokevirtual 49, 3) := D36 40 rfl rfl rfl
theorem d36_77 : decode (am_mc 36) 77 = .ok (.istore_n 2, 1) := D36 41 rfl rfl rfl
theorem d36_78 : decode (am_mc 36) 78 = .ok (.iload_n 2, 1) := D36 42 rfl rfl rfl
theorem d36_79 : decode (am_mc 36) 79 = .ok (.iconst 1, 1) := D36 43 rfl rfl rfl
theorem d36_80 : decode (am_mc 36) 80 = .ok (.if_icmp .lt 26, 3) := D36 44 rfl rfl rfl
theorem d36_83 : decode (am_mc 36) 83 = .ok (.iload_n 2, 1) := D36 45 rfl rfl rfl
theorem d36_84 : decode (am_mc 36) 84 = .ok (.aload_n 0, 1) := D36 46 rfl rfl rfl
theorem d36_85 : decode (am_mc 36) 85 = .ok (.iconst 0, 1) := D36 47 rfl rfl rfl
theorem d36_86 : decode (am_mc 36) 86 = .ok (.iconst 4, 1) := D36 48 rfl rfl rfl
theorem d36_87 : decode (am_mc 36) 87 = .ok (.invokevirtual 49, 3) := D36 49 rfl rfl rfl
theorem d36_90 : decode (am_mc 36) 90 = .ok (.aload_n 0, 1) := D36 50 rfl rfl rfl
theorem d36_91 : decode (am_mc 36) 91 = .ok (.iconst 5, 1) := D36 51 rfl rfl rfl
theorem d36_92 : decode (am_mc 36) 92 = .ok (.iconst 2, 1) := D36 52 rfl rfl rfl
theorem d36_93 : decode (am_mc 36) 93 = .ok (.invokevirtual 49, 3) := D36 53 rfl rfl rfl
theorem d36_96 : decode (am_mc 36) 96 = .ok (.invokestatic 53, 3) := D36 54 rfl rfl rfl
theorem d36_99 : decode (am_mc 36) 99 = .ok (.if_icmp .gt 7, 3) := D36 55 rfl rfl rfl
theorem d36_102 : decode (am_mc 36) 102 = .ok (.iconst 1, 1) := D36 56 rfl rfl rfl
theorem d36_103 : decode (am_mc 36) 103 = .ok (.goto 4, 3) := D36 57 rfl rfl rfl
theorem d36_106 : decode (am_mc 36) 106 = .ok (.iconst 0, 1) := D36 58 rfl rfl rfl
theorem d36_107 : decode (am_mc 36) 107 = .ok (.ireturn, 1) := D36 59 rfl rfl rfl
theorem ml36 : ∀ n, n < 3 → n < am_ml 36 := fun _ h => h
theorem mo36 : am_mo 36 = 3 := by decide +kernel
theorem mr36 : am_mr 36 = some .boolean := by decide +kernel
theorem rg36 : am_rcg 36 = 4 := by decide +kernel
theorem m3_49 : tb_m 3 49 = some (34, 3, 1, 0) := by decide +kernel
theorem m3_53 : tb_m 3 53 = some (35, 2, 1, 0) := by decide +kernel
theorem dp36_30 : am_md 30 + 1 ≤ am_md 36 ∧ 8 + (am_ml 30 + 11) + am_lr 30 ≤ am_lr 36 := by decide +kernel
theorem dp36_32 : am_md 32 + 1 ≤ am_md 36 ∧ 8 + (am_ml 32 + 11) + am_lr 32 ≤ am_lr 36 := by decide +kernel
theorem dp36_34 : am_md 34 + 1 ≤ am_md 36 ∧ 8 + (am_ml 34 + 11) + am_lr 34 ≤ am_lr 36 := by decide +kernel
theorem dp36_35 : am_md 35 + 1 ≤ am_md 36 ∧ 8 + (am_ml 35 + 11) + am_lr 35 ≤ am_lr 36 := by decide +kernel
def fn36 (o : Nat) (μ : am_M) : Option (Int × am_M) := (if μ o 1 = 10 then (am_op (fn32 o 0 μ) (fun z1 => (if z1.1 = 4 then (am_op (fn30 o 4 z1.2) (fun z2 => (if z2.1 = 45 then (am_op (fn32 o 5 z2.2) (fun z3 => (if z3.1 = 2 then (am_op (fn30 o 7 z3.2) (fun z4 => (if z4.1 = 45 then (am_op (fn32 o 8 z4.2) (fun z5 => (if z5.1 = 2 then (am_op (fn34 o 8 2 z5.2) (fun z6 => (if z6.1 < 1 then some (0, z6.2) else (am_op (fn34 o 0 4 z6.2) (fun z7 => (am_op (fn34 o 5 2 z7.2) (fun z8 => (am_op (fn35 z7.1 z8.1 z8.2) (fun z9 => (if z9.1 < z6.1 then some (0, z9.2) else some (1, z9.2))))))))))) else some (0, z5.2)))) else some (0, z4.2)))) else some (0, z3.2)))) else some (0, z2.2)))) else some (0, z1.2)))) else some (0, μ))
def sp36 : am_F := fun vs μ => am_aR 3 vs fun o vs => am_a0 vs (fn36 o μ)
theorem e36 (o : Nat) (μ : am_M) : sp36 [.inr (.inr (3, o))] μ = fn36 o μ := am_aR_c.trans am_a0_c
theorem sd36 : am_Sd 36 sp36 := by
  refine am_Sd_of (by decide) (fun vs μ μ' x h hv hM => ?_)
  obtain ⟨o, vs0, rfl, h0⟩ := am_aR_s h
  obtain ⟨rfl, hz⟩ := am_a0_s h0
  refine ⟨Nat.le_of_ble_eq_true rfl, fun X C hG hr => ?_⟩
  have h := hz
  unfold fn36 at h
  exact (show am_W X C 36 _ 0 0 0 [(0, .inr (.inr (3, o)))] [] μ from (am_c_aload_n hG (pc := 0) d36_0 rfl (x_get_n (v := .inl (μ o 1)) hG (pc := 1) d36_1 mo36 f3_13 rfl (am_c_bipush hG (pc := 4) d36_4 (by decide) (x_icmp_ne (tgt := 62) hG (pc := 6) d36_6 rfl h (fun h => (am_c_iconst hG (pc := 62) d36_62 (by decide) (x_istore_n (lv' := [(1, .inl 0), (0, .inr (.inr (3, o)))]) hG (pc := 63) d36_63 (ml36 _ (by decide)) rfl (am_c_iload_n hG (pc := 64) d36_64 rfl (y_if_ne (tgt := 70) hG (pc := 65) d36_65 rfl (by decide) (am_c_iconst hG (pc := 68) d36_68 (by decide) (xq_zret0 hG (by decide) hr (pc := 69) d36_69 mr36 (am_q0 h)))))))) (fun h => (am_c_aload_n hG (pc := 9) d36_9 rfl (am_c_iconst hG (pc := 10) d36_10 (by decide) (x_virtual_i (t := 3) (o := o) (as2 := [.inl 0]) (rest := []) hG (pc := 11) d36_11 mo36 m3_39 (by decide) dp36_32 rfl rfl (Nat.le_of_ble_eq_true rfl) (Nat.le_of_ble_eq_true rfl) rg32 sd32 (e32 _ _ _) h (fun z1 h => (am_c_iconst hG (pc := 14) d36_14 (by decide) (x_icmp_ne (tgt := 62) hG (pc := 15) d36_15 rfl h (fun h => (am_c_iconst hG (pc := 62) d36_62 (by decide) (x_istore_n (lv' := [(1, .inl 0), (0, .inr (.inr (3, o)))]) hG (pc := 63) d36_63 (ml36 _ (by decide)) rfl (am_c_iload_n hG (pc := 64) d36_64 rfl (y_if_ne (tgt := 70) hG (pc := 65) d36_65 rfl (by decide) (am_c_iconst hG (pc := 68) d36_68 (by decide) (xq_zret0 hG (by decide) hr (pc := 69) d36_69 mr36 (am_q0 h)))))))) (fun h => (am_c_aload_n hG (pc := 18) d36_18 rfl (am_c_iconst hG (pc := 19) d36_19 (by decide) (x_virtual_i (t := 3) (o := o) (as2 := [.inl 4]) (rest := []) hG (pc := 20) d36_20 mo36 m3_20 (by decide) dp36_30 rfl rfl (Nat.le_of_ble_eq_true rfl) (Nat.le_of_ble_eq_true rfl) rg30 sd30 (e30 _ _ _) h (fun z2 h => (am_c_bipush hG (pc := 23) d36_23 (by decide) (x_icmp_ne (tgt := 62) hG (pc := 25) d36_25 rfl h (fun h => (am_c_iconst hG (pc := 62) d36_62 (by decide) (x_istore_n (lv' := [(1, .inl 0), (0, .inr (.inr (3, o)))]) hG (pc := 63) d36_63 (ml36 _ (by decide)) rfl (am_c_iload_n hG (pc := 64) d36_64 rfl (y_if_ne (tgt := 70) hG (pc := 65) d36_65 rfl (by decide) (am_c_iconst hG (pc := 68) d36_68 (by decide) (xq_zret0 hG (by decide) hr (pc := 69) d36_69 mr36 (am_q0 h)))))))) (fun h => (am_c_aload_n hG (pc := 28) d36_28 rfl (am_c_iconst hG (pc := 29) d36_29 (by decide) (x_virtual_i (t := 3) (o := o) (as2 := [.inl 5]) (rest := []) hG (pc := 30) d36_30 mo36 m3_39 (by decide) dp36_32 rfl rfl (Nat.le_of_ble_eq_true rfl) (Nat.le_of_ble_eq_true rfl) rg32 sd32 (e32 _ _ _) h (fun z3 h => (am_c_iconst hG (pc := 33) d36_33 (by decide) (x_icmp_ne (tgt := 62) hG (pc := 34) d36_34 rfl h (fun h => (am_c_iconst hG (pc := 62) d36_62 (by decide) (x_istore_n (lv' := [(1, .inl 0), (0, .inr (.inr (3, o)))]) hG (pc := 63) d36_63 (ml36 _ (by decide)) rfl (am_c_iload_n hG (pc := 64) d36_64 rfl (y_if_ne (tgt := 70) hG (pc := 65) d36_65 rfl (by decide) (am_c_iconst hG (pc := 68) d36_68 (by decide) (xq_zret0 hG (by decide) hr (pc := 69) d36_69 mr36 (am_q0 h)))))))) (fun h => (am_c_aload_n hG (pc := 37) d36_37 rfl (am_c_bipush hG (pc := 38) d36_38 (by decide) (x_virtual_i (t := 3) (o := o) (as2 := [.inl 7]) (rest := []) hG (pc := 40) d36_40 mo36 m3_20 (by decide) dp36_30 rfl rfl (Nat.le_of_ble_eq_true rfl) (Nat.le_of_ble_eq_true rfl) rg30 sd30 (e30 _ _ _) h (fun z4 h => (am_c_bipush hG (pc := 43) d36_43 (by decide) (x_icmp_ne (tgt := 62) hG (pc := 45) d36_45 rfl h (fun h => (am_c_iconst hG (pc := 62) d36_62 (by decide) (x_istore_n (lv' := [(1, .inl 0), (0, .inr (.inr (3, o)))]) hG (pc := 63) d36_63 (ml36 _ (by decide)) rfl (am_c_iload_n hG (pc := 64) d36_64 rfl (y_if_ne (tgt := 70) hG (pc := 65) d36_65 rfl (by decide) (am_c_iconst hG (pc := 68) d36_68 (by decide) (xq_zret0 hG (by decide) hr (pc := 69) d36_69 mr36 (am_q0 h)))))))) (fun h => (am_c_aload_n hG (pc := 48) d36_48 rfl (am_c_bipush hG (pc := 49) d36_49 (by decide) (x_virtual_i (t := 3) (o := o) (as2 := [.inl 8]) (rest := []) hG (pc := 51) d36_51 mo36 m3_39 (by decide) dp36_32 rfl rfl (Nat.le_of_ble_eq_true rfl) (Nat.le_of_ble_eq_true rfl) rg32 sd32 (e32 _ _ _) h (fun z5 h => (am_c_iconst hG (pc := 54) d36_54 (by decide) (x_icmp_ne (tgt := 62) hG (pc := 55) d36_55 rfl h (fun h => (am_c_iconst hG (pc := 62) d36_62 (by decide) (x_istore_n (lv' := [(1, .inl 0), (0, .inr (.inr (3, o)))]) hG (pc := 63) d36_63 (ml36 _ (by decide)) rfl (am_c_iload_n hG (pc := 64) d36_64 rfl (y_if_ne (tgt := 70) hG (pc := 65) d36_65 rfl (by decide) (am_c_iconst hG (pc := 68) d36_68 (by decide) (xq_zret0 hG (by decide) hr (pc := 69) d36_69 mr36 (am_q0 h)))))))) (fun h => (am_c_iconst hG (pc := 58) d36_58 (by decide) (x_goto (tgt := 63) hG (pc := 59) d36_59 rfl (x_istore_n (lv' := [(1, .inl 1), (0, .inr (.inr (3, o)))]) hG (pc := 63) d36_63 (ml36 _ (by decide)) rfl (am_c_iload_n hG (pc := 64) d36_64 rfl (n_if_ne (tgt := 70) hG (pc := 65) d36_65 rfl (by decide) (am_c_aload_n hG (pc := 70) d36_70 rfl (am_c_bipush hG (pc := 71) d36_71 (by decide) (am_c_iconst hG (pc := 73) d36_73 (by decide) (x_virtual_i (t := 3) (o := o) (as2 := [.inl 8, .inl 2]) (rest := []) hG (pc := 74) d36_74 mo36 m3_49 (by decide) dp36_34 rfl rfl (Nat.le_of_ble_eq_true rfl) (Nat.le_of_ble_eq_true rfl) rg34 sd34 (e34 _ _ _ _) h (fun z6 h => (x_istore_n (lv' := [(2, .inl z6.1), (1, .inl 1), (0, .inr (.inr (3, o)))]) hG (pc := 77) d36_77 (ml36 _ (by decide)) rfl (am_c_iload_n hG (pc := 78) d36_78 rfl (am_c_iconst hG (pc := 79) d36_79 (by decide) (x_icmp_lt (tgt := 106) hG (pc := 80) d36_80 rfl h (fun h => (am_c_iconst hG (pc := 106) d36_106 (by decide) (xq_zret0 hG (by decide) hr (pc := 107) d36_107 mr36 (am_q0 h)))) (fun h => (am_c_iload_n hG (pc := 83) d36_83 rfl (am_c_aload_n hG (pc := 84) d36_84 rfl (am_c_iconst hG (pc := 85) d36_85 (by decide) (am_c_iconst hG (pc := 86) d36_86 (by decide) (x_virtual_i (t := 3) (o := o) (as2 := [.inl 0, .inl 4]) (rest := [.inl z6.1]) hG (pc := 87) d36_87 mo36 m3_49 (by decide) dp36_34 rfl rfl (Nat.le_of_ble_eq_true rfl) (Nat.le_of_ble_eq_true rfl) rg34 sd34 (e34 _ _ _ _) h (fun z7 h => (am_c_aload_n hG (pc := 90) d36_90 rfl (am_c_iconst hG (pc := 91) d36_91 (by decide) (am_c_iconst hG (pc := 92) d36_92 (by decide) (x_virtual_i (t := 3) (o := o) (as2 := [.inl 5, .inl 2]) (rest := [.inl z7.1, .inl z6.1]) hG (pc := 93) d36_93 mo36 m3_49 (by decide) dp36_34 rfl rfl (Nat.le_of_ble_eq_true rfl) (Nat.le_of_ble_eq_true rfl) rg34 sd34 (e34 _ _ _ _) h (fun z8 h => (x_static_i (as := [.inl z7.1, .inl z8.1]) (rest := [.inl z6.1]) hG (pc := 96) d36_96 mo36 m3_53 (by decide) dp36_35 rfl rfl (Nat.le_of_ble_eq_true rfl) (Nat.le_of_ble_eq_true rfl) rg35 sd35 (e35 _ _ _) h (fun z9 h => (x_icmp_gt (tgt := 106) hG (pc := 99) d36_99 rfl h (fun h => (am_c_iconst hG (pc := 106) d36_106 (by decide) (xq_zret0 hG (by decide) hr (pc := 107) d36_107 mr36 (am_q0 h)))) (fun h => (am_c_iconst hG (pc := 102) d36_102 (by decide) (x_goto (tgt := 107) hG (pc := 103) d36_103 rfl (xq_zret1 hG (by decide) hr (pc := 107) d36_107 mr36 (am_q0 h)))))))))))))))))))))))))))))))))))))))))))))))))))))))))))))))))))))))))))
/-! ChartPress$Table.findType(I)I -/
theorem D37 (k : Nat) {pc : Nat} {i : Instr} (h : tbi37[k]? = some (pc, i)) (hs : am_isw i = false) {n : Nat} (hn : am_il i = n) : decode (am_mc 37) pc = .ok (i, n) := am_d2 (by decide) (by decide) rfl h hs hn
theorem d37_0 : decode (am_mc 37) 0 = .ok (.iconst 1, 1) := D37 0 rfl rfl rfl
theorem d37_1 : decode (am_mc 37) 1 = .ok (.istore_n 2, 1) := D37 1 rfl rfl rfl
theorem d37_2 : decode (am_mc 37) 2 = .ok (.iconst 1, 1) := D37 2 rfl rfl rfl
theorem d37_3 : decode (am_mc 37) 3 = .ok (.istore_n 3, 1) := D37 3 rfl rfl rfl
theorem d37_4 : decode (am_mc 37) 4 = .ok (.iconst 0, 1) := D37 4 rfl rfl rfl
theorem d37_5 : decode (am_mc 37) 5 = .ok (.istore 4, 2) := D37 5 rfl rfl rfl
theorem d37_7 : decode (am_mc 37) 7 = .ok (.iload 4, 2) := D37 6 rfl rfl rfl
theorem d37_9 : decode (am_mc 37) 9 = .ok (.aload_n 0, 1) := D37 7 rfl rfl rfl
theorem d37_10 : decode (am_mc 37) 10 = .ok (.invokevirtual 113, 3) := D37 8 rfl rfl rfl
theorem d37_13 : decode (am_mc 37) 13 = .ok (.if_icmp .ge 62, 3) := D37 9 rfl rfl rfl
theorem d37_16 : decode (am_mc 37) 16 = .ok (.aload_n 0, 1) := D37 10 rfl rfl rfl
theorem d37_17 : decode (am_mc 37) 17 = .ok (.iload 4, 2) := D37 11 rfl rfl rfl
theorem d37_19 : decode (am_mc 37) 19 = .ok (.iload_n 1, 1) := D37 12 rfl rfl rfl
theorem d37_20 : decode (am_mc 37) 20 = .ok (.invokevirtual 116, 3) := D37 13 rfl rfl rfl
theorem d37_23 : decode (am_mc 37) 23 = .ok (.astore 5, 2) := D37 14 rfl rfl rfl
theorem d37_25 : decode (am_mc 37) 25 = .ok (.aload 5, 2) := D37 15 rfl rfl rfl
theorem d37_27 : decode (am_mc 37) 27 = .ok (.invokevirtual 120, 3) := D37 16 rfl rfl rfl
theorem d37_30 : decode (am_mc 37) 30 = .ok (.ifCond .ne 39, 3) := D37 17 rfl rfl rfl
theorem d37_33 : decode (am_mc 37) 33 = .ok (.iload_n 2, 1) := D37 18 rfl rfl rfl
theorem d37_34 : decode (am_mc 37) 34 = .ok (.ifCond .eq 15, 3) := D37 19 rfl rfl rfl
theorem d37_37 : decode (am_mc 37) 37 = .ok (.aload 5, 2) := D37 20 rfl rfl rfl
theorem d37_39 : decode (am_mc 37) 39 = .ok (.invokevirtual 124, 3) := D37 21 rfl rfl rfl
theorem d37_42 : decode (am_mc 37) 42 = .ok (.ifCond .eq 7, 3) := D37 22 rfl rfl rfl
theorem d37_45 : decode (am_mc 37) 45 = .ok (.iconst 1, 1) := D37 23 rfl rfl rfl
theorem d37_46 : decode (am_mc 37) 46 = .ok (.goto 4, 3) := D37 24 rfl rfl rfl
theorem d37_49 : decode (am_mc 37) 49 = .ok (.iconst 0, 1) := D37 25 rfl rfl rfl
theorem d37_50 : decode (am_mc 37) 50 = .ok (.istore_n 2, 1) := D37 26 rfl rfl rfl
theorem d37_51 : decode (am_mc 37) 51 = .ok (.iload_n 3, 1) := D37 27 rfl rfl rfl
theorem d37_52 : decode (am_mc 37) 52 = .ok (.ifCond .eq 15, 3) := D37 28 rfl rfl rfl
theorem d37_55 : decode (am_mc 37) 55 = .ok (.aload 5, 2) := D37 29 rfl rfl rfl
theorem d37_57 : decode (am_mc 37) 57 = .ok (.invokevirtual 127, 3) := D37 30 rfl rfl rfl
theorem d37_60 : decode (am_mc 37) 60 = .ok (.ifCond .eq 7, 3) := D37 31 rfl rfl rfl
theorem d37_63 : decode (am_mc 37) 63 = .ok (.iconst 1, 1) := D37 32 rfl rfl rfl
theorem d37_64 : decode (am_mc 37) 64 = .ok (.goto 4, 3) := D37 33 rfl rfl rfl
theorem d37_67 : decode (am_mc 37) 67 = .ok (.iconst 0, 1) := D37 34 rfl rfl rfl
theorem d37_68 : decode (am_mc 37) 68 = .ok (.istore_n 3, 1) := D37 35 rfl rfl rfl
theorem d37_69 : decode (am_mc 37) 69 = .ok (.iinc 4 1, 3) := D37 36 rfl rfl rfl
theorem d37_72 : decode (am_mc 37) 72 = .ok (.goto (-65), 3) := D37 37 rfl rfl rfl
theorem d37_75 : decode (am_mc 37) 75 = .ok (.iload_n 2, 1) := D37 38 rfl rfl rfl
theorem d37_76 : decode (am_mc 37) 76 = .ok (.ifCond .eq 5, 3) := D37 39 rfl rfl rfl
theorem d37_79 : decode (am_mc 37) 79 = .ok (.iconst 1, 1) := D37 40 rfl rfl rfl
theorem d37_80 : decode (am_mc 37) 80 = .ok (.ireturn, 1) := D37 41 rfl rfl rfl
theorem d37_81 : decode (am_mc 37) 81 = .ok (.iload_n 3, 1) := D37 42 rfl rfl rfl
theorem d37_82 : decode (am_mc 37) 82 = .ok (.ifCond .eq 7, 3) := D37 43 rfl rfl rfl
theorem d37_85 : decode (am_mc 37) 85 = .ok (.iconst 2, 1) := D37 44 rfl rfl rfl
theorem d37_86 : decode (am_mc 37) 86 = .ok (.goto 4, 3) := D37 45 rfl rfl rfl
theorem d37_89 : decode (am_mc 37) 89 = .ok (.iconst 3, 1) := D37 46 rfl rfl rfl
theorem d37_90 : decode (am_mc 37) 90 = .ok (.ireturn, 1) := D37 47 rfl rfl rfl
theorem ml37 : ∀ n, n < 6 → n < am_ml 37 := fun _ h => h
theorem mo37 : am_mo 37 = 2 := by decide +kernel
theorem mr37 : am_mr 37 = some .int := by decide +kernel
theorem rg37 : am_rcg 37 = 3 := by decide +kernel
theorem m2_113 : tb_m 2 113 = some (26, 1, 1, 0) := by decide +kernel
theorem m2_116 : tb_m 2 116 = some (28, 3, 3, 3) := by decide +kernel
theorem m2_120 : tb_m 2 120 = some (29, 1, 1, 0) := by decide +kernel
theorem m2_124 : tb_m 2 124 = some (33, 1, 1, 0) := by decide +kernel
theorem m2_127 : tb_m 2 127 = some (36, 1, 1, 0) := by decide +kernel
theorem dp37_26 : am_md 26 + 1 ≤ am_md 37 ∧ 8 + (am_ml 26 + 11) + am_lr 26 ≤ am_lr 37 := by decide +kernel
theorem dp37_28 : am_md 28 + 1 ≤ am_md 37 ∧ 8 + (am_ml 28 + 11) + am_lr 28 ≤ am_lr 37 := by decide +kernel
theorem dp37_29 : am_md 29 + 1 ≤ am_md 37 ∧ 8 + (am_ml 29 + 11) + am_lr 29 ≤ am_lr 37 := by decide +kernel
theorem dp37_33 : am_md 33 + 1 ≤ am_md 37 ∧ 8 + (am_ml 33 + 11) + am_lr 33 ≤ am_lr 37 := by decide +kernel
theorem dp37_36 : am_md 36 + 1 ≤ am_md 37 ∧ 8 + (am_ml 36 + 11) + am_lr 36 ≤ am_lr 37 := by decide +kernel
def L37_7 (l0 : Nat) (l1 : Int) : Nat → Int → Int → Int → am_M → Option ((Int × am_M) ⊕ (Int × Int × Int × am_M))
  | 0, _, _, _, _ => none
  | n + 1, l2, l3, l4, μ => (am_op (fn26 l0 μ) (fun z1 => (if l4 < z1.1 then (am_op (fn28 l0 l4 l1 z1.2) (fun z2 => (am_op (fn29 z2.1.toNat z2.2) (fun z3 => (if z3.1 = 0 then (if l2 = 0 then (if l3 = 0 then (L37_7 l0 l1 n 0 0 (w32 (l4 + 1)) z3.2) else (am_op (fn36 z2.1.toNat z3.2) (fun z4 => (if z4.1 = 0 then (L37_7 l0 l1 n 0 0 (w32 (l4 + 1)) z4.2) else (L37_7 l0 l1 n 0 1 (w32 (l4 + 1)) z4.2))))) else (am_op (fn33 z2.1.toNat z3.2) (fun z5 => (if z5.1 = 0 then (if l3 = 0 then (L37_7 l0 l1 n 0 0 (w32 (l4 + 1)) z5.2) else (am_op (fn36 z2.1.toNat z5.2) (fun z6 => (if z6.1 = 0 then (L37_7 l0 l1 n 0 0 (w32 (l4 + 1)) z6.2) else (L37_7 l0 l1 n 0 1 (w32 (l4 + 1)) z6.2))))) else (if l3 = 0 then (L37_7 l0 l1 n 1 0 (w32 (l4 + 1)) z5.2) else (am_op (fn36 z2.1.toNat z5.2) (fun z7 => (if z7.1 = 0 then (L37_7 l0 l1 n 1 0 (w32 (l4 + 1)) z7.2) else (L37_7 l0 l1 n 1 1 (w32 (l4 + 1)) z7.2))))))))) else (L37_7 l0 l1 n l2 l3 (w32 (l4 + 1)) z3.2)))))) else (some (.inr (l2, l3, l4, z1.2))))))
theorem w37_7 {X : am_K} {C : am_C} {Q : State → Prop} (hG : am_G X C 37 0 0 (0, fun _ => 0)) (hr : match X with | (_, _, _, _, _, _, _, _, meth, _) => meth.sig.returnType = am_mr 37 ∧ meth.locks = false) (l0 : Nat) (l1 : Int) : ∀ (n : Nat) (l2 : Int) (l3 : Int) (l4 : Int) (μ : am_M) (r : (Int × am_M) ⊕ (Int × Int × Int × am_M)), L37_7 l0 l1 n l2 l3 l4 μ = some r → (∀ q, r = .inl q → Q = am_E X C 37 q.1 q.2) → (∀ t, r = .inr t → am_W X C 37 Q 0 0 75 [(2, .inl t.1), (3, .inl t.2.1)] [] t.2.2.2) → am_W X C 37 Q 0 0 7 [(0, .inr (.inr (2, l0))), (1, .inl l1), (2, .inl l2), (3, .inl l3), (4, .inl l4)] [] μ := by
  intro n
  induction n with
  | zero => intro l2 l3 l4 μ r h; cases h
  | succ n ih =>
    intro l2 l3 l4 μ r h hI hX
    unfold L37_7 at h
    exact (am_c_iload hG (pc := 7) d37_7 rfl (am_c_aload_n hG (pc := 9) d37_9 rfl (x_virtual_i (t := 2) (o := l0) (as2 := []) (rest := [.inl l4]) hG (pc := 10) d37_10 mo37 m2_113 (by decide) dp37_26 rfl rfl (Nat.le_of_ble_eq_true rfl) (Nat.le_of_ble_eq_true rfl) rg26 sd26 (e26 _ _) h (fun z1 h => (x_icmp_ge (tgt := 75) hG (pc := 13) d37_13 rfl h (fun h => (am_lvw (lv2 := [(2, .inl l2), (3, .inl l3)]) [2, 3] rfl (hX (l2, l3, l4, z1.2) (Option.some.inj h).symm))) (fun h => (am_c_aload_n hG (pc := 16) d37_16 rfl (am_c_iload hG (pc := 17) d37_17 rfl (am_c_iload_n hG (pc := 19) d37_19 rfl (x_virtual_r (t := 2) (o := l0) (as2 := [.inl l4, .inl l1]) (rest := []) hG (pc := 20) d37_20 mo37 m2_116 (by decide) dp37_28 rfl rfl (Nat.le_of_ble_eq_true rfl) (Nat.le_of_ble_eq_true rfl) rg28 sd28 (e28 _ _ _ _) h (fun z2 h => (x_astore (lv' := [(5, .inr (.inr (3, z2.1.toNat))), (0, .inr (.inr (2, l0))), (1, .inl l1), (2, .inl l2), (3, .inl l3), (4, .inl l4)]) hG (pc := 23) d37_23 (ml37 _ (by decide)) rfl (am_c_aload hG (pc := 25) d37_25 rfl (x_virtual_i (t := 3) (o := z2.1.toNat) (as2 := []) (rest := []) hG (pc := 27) d37_27 mo37 m2_120 (by decide) dp37_29 rfl rfl (Nat.le_of_ble_eq_true rfl) (Nat.le_of_ble_eq_true rfl) rg29 sd29 (e29 _ _) h (fun z3 h => (x_if_ne (tgt := 69) hG (pc := 30) d37_30 rfl h (fun h => (x_iinc (lv' := [(4, .inl (w32 (l4 + 1))), (5, .inr (.inr (3, z2.1.toNat))), (0, .inr (.inr (2, l0))), (1, .inl l1), (2, .inl l2), (3, .inl l3)]) hG (pc := 69) d37_69 rfl (ml37 _ (by decide)) rfl (x_goto (tgt := 7) hG (pc := 72) d37_72 rfl (am_lvw (lv2 := [(0, .inr (.inr (2, l0))), (1, .inl l1), (2, .inl l2), (3, .inl l3), (4, .inl (w32 (l4 + 1)))]) [2, 3, 4, 5, 0] rfl (ih _ _ _ _ _ h hI hX))))) (fun h => (am_c_iload_n hG (pc := 33) d37_33 rfl (x_if_eq (tgt := 49) hG (pc := 34) d37_34 rfl h (fun h => (am_c_iconst hG (pc := 49) d37_49 (by decide) (x_istore_n (lv' := [(2, .inl 0), (5, .inr (.inr (3, z2.1.toNat))), (0, .inr (.inr (2, l0))), (1, .inl l1), (3, .inl l3), (4, .inl l4)]) hG (pc := 50) d37_50 (ml37 _ (by decide)) rfl (am_c_iload_n hG (pc := 51) d37_51 rfl (x_if_eq (tgt := 67) hG (pc := 52) d37_52 rfl h (fun h => (am_c_iconst hG (pc := 67) d37_67 (by decide) (x_istore_n (lv' := [(3, .inl 0), (2, .inl 0), (5, .inr (.inr (3, z2.1.toNat))), (0, .inr (.inr (2, l0))), (1, .inl l1), (4, .inl l4)]) hG (pc := 68) d37_68 (ml37 _ (by decide)) rfl (x_iinc (lv' := [(4, .inl (w32 (l4 + 1))), (3, .inl 0), (2, .inl 0), (5, .inr (.inr (3, z2.1.toNat))), (0, .inr (.inr (2, l0))), (1, .inl l1)]) hG (pc := 69) d37_69 rfl (ml37 _ (by decide)) rfl (x_goto (tgt := 7) hG (pc := 72) d37_72 rfl (am_lvw (lv2 := [(0, .inr (.inr (2, l0))), (1, .inl l1), (2, .inl 0), (3, .inl 0), (4, .inl (w32 (l4 + 1)))]) [4, 5, 2, 1, 0] rfl (ih _ _ _ _ _ h hI hX))))))) (fun h => (am_c_aload hG (pc := 55) d37_55 rfl (x_virtual_i (t := 3) (o := z2.1.toNat) (as2 := []) (rest := []) hG (pc := 57) d37_57 mo37 m2_127 (by decide) dp37_36 rfl rfl (Nat.le_of_ble_eq_true rfl) (Nat.le_of_ble_eq_true rfl) rg36 sd36 (e36 _ _) h (fun z4 h => (x_if_eq (tgt := 67) hG (pc := 60) d37_60 rfl h (fun h => (am_c_iconst hG (pc := 67) d37_67 (by decide) (x_istore_n (lv' := [(3, .inl 0), (2, .inl 0), (5, .inr (.inr (3, z2.1.toNat))), (0, .inr (.inr (2, l0))), (1, .inl l1), (4, .inl l4)]) hG (pc := 68) d37_68 (ml37 _ (by decide)) rfl (x_iinc (lv' := [(4, .inl (w32 (l4 + 1))), (3, .inl 0), (2, .inl 0), (5, .inr (.inr (3, z2.1.toNat))), (0, .inr (.inr (2, l0))), (1, .inl l1)]) hG (pc := 69) d37_69 rfl (ml37 _ (by decide)) rfl (x_goto (tgt := 7) hG (pc := 72) d37_72 rfl (am_lvw (lv2 := [(0, .inr (.inr (2, l0))), (1, .inl l1), (2, .inl 0), (3, .inl 0), (4, .inl (w32 (l4 + 1)))]) [4, 5, 2, 1, 0] rfl (ih _ _ _ _ _ h hI hX))))))) (fun h => (am_c_iconst hG (pc := 63) d37_63 (by decide) (x_goto (tgt := 68) hG (pc := 64) d37_64 rfl (x_istore_n (lv' := [(3, .inl 1), (2, .inl 0), (5, .inr (.inr (3, z2.1.toNat))), (0, .inr (.inr (2, l0))), (1, .inl l1), (4, .inl l4)]) hG (pc := 68) d37_68 (ml37 _ (by decide)) rfl (x_iinc (lv' := [(4, .inl (w32 (l4 + 1))), (3, .inl 1), (2, .inl 0), (5, .inr (.inr (3, z2.1.toNat))), (0, .inr (.inr (2, l0))), (1, .inl l1)]) hG (pc := 69) d37_69 rfl (ml37 _ (by decide)) rfl (x_goto (tgt := 7) hG (pc := 72) d37_72 rfl (am_lvw (lv2 := [(0, .inr (.inr (2, l0))), (1, .inl l1), (2, .inl 0), (3, .inl 1), (4, .inl (w32 (l4 + 1)))]) [4, 5, 2, 1, 0] rfl (ih _ _ _ _ _ h hI hX)))))))))))))))))) (fun h => (am_c_aload hG (pc := 37) d37_37 rfl (x_virtual_i (t := 3) (o := z2.1.toNat) (as2 := []) (rest := []) hG (pc := 39) d37_39 mo37 m2_124 (by decide) dp37_33 rfl rfl (Nat.le_of_ble_eq_true rfl) (Nat.le_of_ble_eq_true rfl) rg33 sd33 (e33 _ _) h (fun z5 h => (x_if_eq (tgt := 49) hG (pc := 42) d37_42 rfl h (fun h => (am_c_iconst hG (pc := 49) d37_49 (by decide) (x_istore_n (lv' := [(2, .inl 0), (5, .inr (.inr (3, z2.1.toNat))), (0, .inr (.inr (2, l0))), (1, .inl l1), (3, .inl l3), (4, .inl l4)]) hG (pc := 50) d37_50 (ml37 _ (by decide)) rfl (am_c_iload_n hG (pc := 51) d37_51 rfl (x_if_eq (tgt := 67) hG (pc := 52) d37_52 rfl h (fun h => (am_c_iconst hG (pc := 67) d37_67 (by decide) (x_istore_n (lv' := [(3, .inl 0), (2, .inl 0), (5, .inr (.inr (3, z2.1.toNat))), (0, .inr (.inr (2, l0))), (1, .inl l1), (4, .inl l4)]) hG (pc := 68) d37_68 (ml37 _ (by decide)) rfl (x_iinc (lv' := [(4, .inl (w32 (l4 + 1))), (3, .inl 0), (2, .inl 0), (5, .inr (.inr (3, z2.1.toNat))), (0, .inr (.inr (2, l0))), (1, .inl l1)]) hG (pc := 69) d37_69 rfl (ml37 _ (by decide)) rfl (x_goto (tgt := 7) hG (pc := 72) d37_72 rfl (am_lvw (lv2 := [(0, .inr (.inr (2, l0))), (1, .inl l1), (2, .inl 0), (3, .inl 0), (4, .inl (w32 (l4 + 1)))]) [4, 5, 2, 1, 0] rfl (ih _ _ _ _ _ h hI hX))))))) (fun h => (am_c_aload hG (pc := 55) d37_55 rfl (x_virtual_i (t := 3) (o := z2.1.toNat) (as2 := []) (rest := []) hG (pc := 57) d37_57 mo37 m2_127 (by decide) dp37_36 rfl rfl (Nat.le_of_ble_eq_true rfl) (Nat.le_of_ble_eq_true rfl) rg36 sd36 (e36 _ _) h (fun z6 h => (x_if_eq (tgt := 67) hG (pc := 60) d37_60 rfl h (fun h => (am_c_iconst hG (pc := 67) d37_67 (by decide) (x_istore_n (lv' := [(3, .inl 0), (2, .inl 0), (5, .inr (.inr (3, z2.1.toNat))), (0, .inr (.inr (2, l0))), (1, .inl l1), (4, .inl l4)]) hG (pc := 68) d37_68 (ml37 _ (by decide)) rfl (x_iinc (lv' := [(4, .inl (w32 (l4 + 1))), (3, .inl 0), (2, .inl 0), (5, .inr (.inr (3, z2.1.toNat))), (0, .inr (.inr (2, l0))), (1, .inl l1)]) hG (pc := 69) d37_69 rfl (ml37 _ (by decide)) rfl (x_goto (tgt := 7) hG (pc := 72) d37_72 rfl (am_lvw (lv2 := [(0, .inr (.inr (2, l0))), (1, .inl l1), (2, .inl 0), (3, .inl 0), (4, .inl (w32 (l4 + 1)))]) [4, 5, 2, 1, 0] rfl (ih _ _ _ _ _ h hI hX))))))) (fun h => (am_c_iconst hG (pc := 63) d37_63 (by decide) (x_goto (tgt := 68) hG (pc := 64) d37_64 rfl (x_istore_n (lv' := [(3, .inl 1), (2, .inl 0), (5, .inr (.inr (3, z2.1.toNat))), (0, .inr (.inr (2, l0))), (1, .inl l1), (4, .inl l4)]) hG (pc := 68) d37_68 (ml37 _ (by decide)) rfl (x_iinc (lv' := [(4, .inl (w32 (l4 + 1))), (3, .inl 1), (2, .inl 0), (5, .inr (.inr (3, z2.1.toNat))), (0, .inr (.inr (2, l0))), (1, .inl l1)]) hG (pc := 69) d37_69 rfl (ml37 _ (by decide)) rfl (x_goto (tgt := 7) hG (pc := 72) d37_72 rfl (am_lvw (lv2 := [(0, .inr (.inr (2, l0))), (1, .inl l1), (2, .inl 0), (3, .inl 1), (4, .inl (w32 (l4 + 1)))]) [4, 5, 2, 1, 0] rfl (ih _ _ _ _ _ h hI hX)))))))))))))))))) (fun h => (am_c_iconst hG (pc := 45) d37_45 (by decide) (x_goto (tgt := 50) hG (pc := 46) d37_46 rfl (x_istore_n (lv' := [(2, .inl 1), (5, .inr (.inr (3, z2.1.toNat))), (0, .inr (.inr (2, l0))), (1, .inl l1), (3, .inl l3), (4, .inl l4)]) hG (pc := 50) d37_50 (ml37 _ (by decide)) rfl (am_c_iload_n hG (pc := 51) d37_51 rfl (x_if_eq (tgt := 67) hG (pc := 52) d37_52 rfl h (fun h => (am_c_iconst hG (pc := 67) d37_67 (by decide) (x_istore_n (lv' := [(3, .inl 0), (2, .inl 1), (5, .inr (.inr (3, z2.1.toNat))), (0, .inr (.inr (2, l0))), (1, .inl l1), (4, .inl l4)]) hG (pc := 68) d37_68 (ml37 _ (by decide)) rfl (x_iinc (lv' := [(4, .inl (w32 (l4 + 1))), (3, .inl 0), (2, .inl 1), (5, .inr (.inr (3, z2.1.toNat))), (0, .inr (.inr (2, l0))), (1, .inl l1)]) hG (pc := 69) d37_69 rfl (ml37 _ (by decide)) rfl (x_goto (tgt := 7) hG (pc := 72) d37_72 rfl (am_lvw (lv2 := [(0, .inr (.inr (2, l0))), (1, .inl l1), (2, .inl 1), (3, .inl 0), (4, .inl (w32 (l4 + 1)))]) [4, 5, 2, 1, 0] rfl (ih _ _ _ _ _ h hI hX))))))) (fun h => (am_c_aload hG (pc := 55) d37_55 rfl (x_virtual_i (t := 3) (o := z2.1.toNat) (as2 := []) (rest := []) hG (pc := 57) d37_57 mo37 m2_127 (by decide) dp37_36 rfl rfl (Nat.le_of_ble_eq_true rfl) (Nat.le_of_ble_eq_true rfl) rg36 sd36 (e36 _ _) h (fun z7 h => (x_if_eq (tgt := 67) hG (pc := 60) d37_60 rfl h (fun h => (am_c_iconst hG (pc := 67) d37_67 (by decide) (x_istore_n (lv' := [(3, .inl 0), (2, .inl 1), (5, .inr (.inr (3, z2.1.toNat))), (0, .inr (.inr (2, l0))), (1, .inl l1), (4, .inl l4)]) hG (pc := 68) d37_68 (ml37 _ (by decide)) rfl (x_iinc (lv' := [(4, .inl (w32 (l4 + 1))), (3, .inl 0), (2, .inl 1), (5, .inr (.inr (3, z2.1.toNat))), (0, .inr (.inr (2, l0))), (1, .inl l1)]) hG (pc := 69) d37_69 rfl (ml37 _ (by decide)) rfl (x_goto (tgt := 7) hG (pc := 72) d37_72 rfl (am_lvw (lv2 := [(0, .inr (.inr (2, l0))), (1, .inl l1), (2, .inl 1), (3, .inl 0), (4, .inl (w32 (l4 + 1)))]) [4, 5, 2, 1, 0] rfl (ih _ _ _ _ _ h hI hX))))))) (fun h => (am_c_iconst hG (pc := 63) d37_63 (by decide) (x_goto (tgt := 68) hG (pc := 64) d37_64 rfl (x_istore_n (lv' := [(3, .inl 1), (2, .inl 1), (5, .inr (.inr (3, z2.1.toNat))), (0, .inr (.inr (2, l0))), (1, .inl l1), (4, .inl l4)]) hG (pc := 68) d37_68 (ml37 _ (by decide)) rfl (x_iinc (lv' := [(4, .inl (w32 (l4 + 1))), (3, .inl 1), (2, .inl 1), (5, .inr (.inr (3, z2.1.toNat))), (0, .inr (.inr (2, l0))), (1, .inl l1)]) hG (pc := 69) d37_69 rfl (ml37 _ (by decide)) rfl (x_goto (tgt := 7) hG (pc := 72) d37_72 rfl (am_lvw (lv2 := [(0, .inr (.inr (2, l0))), (1, .inl l1), (2, .inl 1), (3, .inl 1), (4, .inl (w32 (l4 + 1)))]) [4, 5, 2, 1, 0] rfl (ih _ _ _ _ _ h hI hX)))))))))))))))))))))))))))))))))))))))))))
def fn37 (o : Nat) (a : Int) (μ : am_M) : Option (Int × am_M) := (am_op (L37_7 o a am_fuel 1 1 0 μ) (fun s => am_lp s (fun q1 => some q1) (fun t1 => (if t1.1 = 0 then (if t1.2.1 = 0 then some (3, t1.2.2.2) else some (2, t1.2.2.2)) else some (1, t1.2.2.2)))))
def sp37 : am_F := fun vs μ => am_aR 2 vs fun o vs => am_aI vs fun a vs => am_a0 vs (fn37 o a μ)
theorem e37 (o : Nat) (a : Int) (μ : am_M) : sp37 [.inr (.inr (2, o)), .inl a] μ = fn37 o a μ := am_aR_c.trans (am_aI_c.trans am_a0_c)
theorem sd37 : am_Sd 37 sp37 := by
  refine am_Sd_of (by decide) (fun vs μ μ' x h hv hM => ?_)
  obtain ⟨o, vs0, rfl, h0⟩ := am_aR_s h
  obtain ⟨a, vs1, rfl, h1⟩ := am_aI_s h0
  obtain ⟨rfl, hz⟩ := am_a0_s h1
  refine ⟨Nat.le_of_ble_eq_true rfl, fun X C hG hr => ?_⟩
  have h := hz
  unfold fn37 at h
  exact (show am_W X C 37 _ 0 0 0 [(0, .inr (.inr (2, o))), (1, .inl a)] [] μ from (am_c_iconst hG (pc := 0) d37_0 (by decide) (x_istore_n (lv' := [(2, .inl 1), (0, .inr (.inr (2, o))), (1, .inl a)]) hG (pc := 1) d37_1 (ml37 _ (by decide)) rfl (am_c_iconst hG (pc := 2) d37_2 (by decide) (x_istore_n (lv' := [(3, .inl 1), (2, .inl 1), (0, .inr (.inr (2, o))), (1, .inl a)]) hG (pc := 3) d37_3 (ml37 _ (by decide)) rfl (am_c_iconst hG (pc := 4) d37_4 (by decide) (x_istore (lv' := [(4, .inl 0), (3, .inl 1), (2, .inl 1), (0, .inr (.inr (2, o))), (1, .inl a)]) hG (pc := 5) d37_5 (ml37 _ (by decide)) rfl (x_lp h (fun r h1 h2 => (am_lvw (lv2 := [(0, .inr (.inr (2, o))), (1, .inl a), (2, .inl 1), (3, .inl 1), (4, .inl 0)]) [3, 4, 2, 1, 0] rfl (w37_7 hG hr _ _ _ _ _ _ _ _ h1 (fun q1 e => am_q1 e h2 (fun h => am_q0 h)) (fun t1 e => am_q2 e h2 (fun h => (am_c_iload_n hG (pc := 75) d37_75 rfl (x_if_eq (tgt := 81) hG (pc := 76) d37_76 rfl h (fun h => (am_c_iload_n hG (pc := 81) d37_81 rfl (x_if_eq (tgt := 89) hG (pc := 82) d37_82 rfl h (fun h => (am_c_iconst hG (pc := 89) d37_89 (by decide) (xq_iret hG (by decide) hr (pc := 90) d37_90 mr37 (am_q0 h)))) (fun h => (am_c_iconst hG (pc := 85) d37_85 (by decide) (x_goto (tgt := 90) hG (pc := 86) d37_86 rfl (xq_iret hG (by decide) hr (pc := 90) d37_90 mr37 (am_q0 h)))))))) (fun h => (am_c_iconst hG (pc := 79) d37_79 (by decide) (xq_iret hG (by decide) hr (pc := 80) d37_80 mr37 (am_q0 h)))))))))))))))))))
/-! ChartPress$Letters.thousandths()J -/
theorem D38 (k : Nat) {pc : Nat} {i : Instr} (h : tbi38[k]? = some (pc, i)) (hs : am_isw i = false) {n : Nat} (hn : am_il i = n) : decode (am_mc 38) pc = .ok (i, n) := am_d2 (by decide) (by decide) rfl h hs hn
theorem d38_0 : decode (am_mc 38) 0 = .ok (.lconst 0, 1) := D38 0 rfl rfl rfl
theorem d38_1 : decode (am_mc 38) 1 = .ok (.lstore_n 1, 1) := D38 1 rfl rfl rfl
theorem d38_2 : decode (am_mc 38) 2 = .ok (.iconst 3, 1) := D38 2 rfl rfl rfl
theorem d38_3 : decode (am_mc 38) 3 = .ok (.istore_n 3, 1) := D38 3 rfl rfl rfl
theorem d38_4 : decode (am_mc 38) 4 = .ok (.iconst 0, 1) := D38 4 rfl rfl rfl
theorem d38_5 : decode (am_mc 38) 5 = .ok (.istore 4, 2) := D38 5 rfl rfl rfl
theorem d38_7 : decode (am_mc 38) 7 = .ok (.iconst 0, 1) := D38 6 rfl rfl rfl
theorem d38_8 : decode (am_mc 38) 8 = .ok (.istore 5, 2) := D38 7 rfl rfl rfl
theorem d38_10 : decode (am_mc 38) 10 = .ok (.iload 5, 2) := D38 8 rfl rfl rfl
theorem d38_12 : decode (am_mc 38) 12 = .ok (.aload_n 0, 1) := D38 9 rfl rfl rfl
theorem d38_13 : decode (am_mc 38) 13 = .ok (.getfield 13, 3) := D38 10 rfl rfl rfl
theorem d38_16 : decode (am_mc 38) 16 = .ok (.if_icmp .ge 64, 3) := D38 11 rfl rfl rfl
theorem d38_19 : decode (am_mc 38) 19 = .ok (.aload_n 0, 1) := D38 12 rfl rfl rfl
theorem d38_20 : decode (am_mc 38) 20 = .ok (.iload 5, 2) := D38 13 rfl rfl rfl
theorem d38_22 : decode (am_mc 38) 22 = .ok (.invokevirtual 20, 3) := D38 14 rfl rfl rfl
theorem d38_25 : decode (am_mc 38) 25 = .ok (.istore 6, 2) := D38 15 rfl rfl rfl
theorem d38_27 : decode (am_mc 38) 27 = .ok (.iload 6, 2) := D38 16 rfl rfl rfl
theorem d38_29 : decode (am_mc 38) 29 = .ok (.invokestatic 43, 3) := D38 17 rfl rfl rfl
theorem d38_32 : decode (am_mc 38) 32 = .ok (.ifCond .eq 32, 3) := D38 18 rfl rfl rfl
theorem d38_35 : decode (am_mc 38) 35 = .ok (.lload_n 1, 1) := D38 19 rfl rfl rfl
theorem d38_36 : decode (am_mc 38) 36 = .ok (.ldc2_w 47, 3) := D38 20 rfl rfl rfl
theorem d38_39 : decode (am_mc 38) 39 = .ok (.lmul, 1) := D38 21 rfl rfl rfl
theorem d38_40 : decode (am_mc 38) 40 = .ok (.iload 6, 2) := D38 22 rfl rfl rfl
theorem d38_42 : decode (am_mc 38) 42 = .ok (.bipush 48, 2) := D38 23 rfl rfl rfl
theorem d38_44 : decode (am_mc 38) 44 = .ok (.isub, 1) := D38 24 rfl rfl rfl
theorem d38_45 : decode (am_mc 38) 45 = .ok (.i2l, 1) := D38 25 rfl rfl rfl
theorem d38_46 : decode (am_mc 38) 46 = .ok (.ladd, 1) := D38 26 rfl rfl rfl
theorem d38_47 : decode (am_mc 38) 47 = .ok (.lstore_n 1, 1) := D38 27 rfl rfl rfl
theorem d38_48 : decode (am_mc 38) 48 = .ok (.iload_n 3, 1) := D38 28 rfl rfl rfl
theorem d38_49 : decode (am_mc 38) 49 = .ok (.iload 4, 2) := D38 29 rfl rfl rfl
theorem d38_51 : decode (am_mc 38) 51 = .ok (.ifCond .eq 7, 3) := D38 30 rfl rfl rfl
theorem d38_54 : decode (am_mc 38) 54 = .ok (.iconst 1, 1) := D38 31 rfl rfl rfl
theorem d38_55 : decode (am_mc 38) 55 = .ok (.goto 4, 3) := D38 32 rfl rfl rfl
theorem d38_58 : decode (am_mc 38) 58 = .ok (.iconst 0, 1) := D38 33 rfl rfl rfl
theorem d38_59 : decode (am_mc 38) 59 = .ok (.isub, 1) := D38 34 rfl rfl rfl
theorem d38_60 : decode (am_mc 38) 60 = .ok (.istore_n 3, 1) := D38 35 rfl rfl rfl
theorem d38_61 : decode (am_mc 38) 61 = .ok (.goto 13, 3) := D38 36 rfl rfl rfl
theorem d38_64 : decode (am_mc 38) 64 = .ok (.iload 6, 2) := D38 37 rfl rfl rfl
theorem d38_66 : decode (am_mc 38) 66 = .ok (.bipush 46, 2) := D38 38 rfl rfl rfl
theorem d38_68 : decode (am_mc 38) 68 = .ok (.if_icmp .ne 6, 3) := D38 39 rfl rfl rfl
theorem d38_71 : decode (am_mc 38) 71 = .ok (.iconst 1, 1) := D38 40 rfl rfl rfl
theorem d38_72 : decode (am_mc 38) 72 = .ok (.istore 4, 2) := D38 41 rfl rfl rfl
theorem d38_74 : decode (am_mc 38) 74 = .ok (.iinc 5 1, 3) := D38 42 rfl rfl rfl
theorem d38_77 : decode (am_mc 38) 77 = .ok (.goto (-67), 3) := D38 43 rfl rfl rfl
theorem d38_80 : decode (am_mc 38) 80 = .ok (.iconst 0, 1) := D38 44 rfl rfl rfl
theorem d38_81 : decode (am_mc 38) 81 = .ok (.istore 5, 2) := D38 45 rfl rfl rfl
theorem d38_83 : decode (am_mc 38) 83 = .ok (.iload 5, 2) := D38 46 rfl rfl rfl
theorem d38_85 : decode (am_mc 38) 85 = .ok (.iload_n 3, 1) := D38 47 rfl rfl rfl
theorem d38_86 : decode (am_mc 38) 86 = .ok (.if_icmp .ge 15, 3) := D38 48 rfl rfl rfl
theorem d38_89 : decode (am_mc 38) 89 = .ok (.lload_n 1, 1) := D38 49 rfl rfl rfl
theorem d38_90 : decode (am_mc 38) 90 = .ok (.ldc2_w 47, 3) := D38 50 rfl rfl rfl
theorem d38_93 : decode (am_mc 38) 93 = .ok (.lmul, 1) := D38 51 rfl rfl rfl
theorem d38_94 : decode (am_mc 38) 94 = .ok (.lstore_n 1, 1) := D38 52 rfl rfl rfl
theorem d38_95 : decode (am_mc 38) 95 = .ok (.iinc 5 1, 3) := D38 53 rfl rfl rfl
theorem d38_98 : decode (am_mc 38) 98 = .ok (.goto (-15), 3) := D38 54 rfl rfl rfl
theorem d38_101 : decode (am_mc 38) 101 = .ok (.aload_n 0, 1) := D38 55 rfl rfl rfl
theorem d38_102 : decode (am_mc 38) 102 = .ok (.iconst 0, 1) := D38 56 rfl rfl rfl
theorem d38_103 : decode (am_mc 38) 103 = .ok (.invokevirtual 20, 3) := D38 57 rfl rfl rfl
theorem d38_106 : decode (am_mc 38) 106 = .ok (.bipush 45, 2) := D38 58 rfl rfl rfl
theorem d38_108 : decode (am_mc 38) 108 = .ok (.if_icmp .ne 8, 3) := D38 59 rfl rfl rfl
theorem d38_111 : decode (am_mc 38) 111 = .ok (.lload_n 1, 1) := D38 60 rfl rfl rfl
theorem d38_112 : decode (am_mc 38) 112 = .ok (.lneg, 1) := D38 61 rfl rfl rfl
theorem d38_113 : decode (am_mc 38) 113 = .ok (.goto 4, 3) := D38 62 rfl rfl rfl
theorem d38_116 : decode (am_mc 38) 116 = .ok (.lload_n 1, 1) := D38 63 rfl rfl rfl
theorem d38_117 : decode (am_mc 38) 117 = .ok (.lreturn, 1) := D38 64 rfl rfl rfl
theorem ml38 : ∀ n, n < 7 → n < am_ml 38 := fun _ h => h
theorem mo38 : am_mo 38 = 3 := by decide +kernel
theorem rk38 : am_rk 38 = 2 := by decide +kernel
theorem rg38 : am_rcg 38 = 4 := by decide +kernel
theorem dp38_30 : am_md 30 + 1 ≤ am_md 38 ∧ 8 + (am_ml 30 + 11) + am_lr 30 ≤ am_lr 38 := by decide +kernel
theorem dp38_31 : am_md 31 + 1 ≤ am_md 38 ∧ 8 + (am_ml 31 + 11) + am_lr 31 ≤ am_lr 38 := by decide +kernel
def L38_10 (l0 : Nat) : Nat → Int → Int → Int → Int → am_M → Option ((Int × am_M) ⊕ (Int × Int × Int × Int × am_M))
  | 0, _, _, _, _, _ => none
  | n + 1, l1, l3, l4, l5, μ => (if l5 < μ l0 1 then (am_op (fn30 l0 l5 μ) (fun z1 => (am_op (fn31 z1.1 z1.2) (fun z2 => (if z2.1 = 0 then (if z1.1 = 46 then (L38_10 l0 n l1 l3 1 (w32 (l5 + 1)) z2.2) else (L38_10 l0 n l1 l3 l4 (w32 (l5 + 1)) z2.2)) else (if l4 = 0 then (L38_10 l0 n (w64 ((w64 (l1 * 10)) + (w32 (z1.1 - 48)))) (w32 (l3 - 0)) l4 (w32 (l5 + 1)) z2.2) else (L38_10 l0 n (w64 ((w64 (l1 * 10)) + (w32 (z1.1 - 48)))) (w32 (l3 - 1)) l4 (w32 (l5 + 1)) z2.2))))))) else (some (.inr (l1, l3, l4, l5, μ))))
theorem w38_10 {X : am_K} {C : am_C} {Q : State → Prop} (hG : am_G X C 38 0 0 (0, fun _ => 0)) (hr : match X with | (_, _, _, _, _, _, _, _, meth, _) => meth.sig.returnType = am_mr 38 ∧ meth.locks = false) (l0 : Nat) : ∀ (n : Nat) (l1 : Int) (l3 : Int) (l4 : Int) (l5 : Int) (μ : am_M) (r : (Int × am_M) ⊕ (Int × Int × Int × Int × am_M)), L38_10 l0 n l1 l3 l4 l5 μ = some r → (∀ q, r = .inl q → Q = am_E X C 38 q.1 q.2) → (∀ t, r = .inr t → am_W X C 38 Q 0 0 80 [(0, .inr (.inr (3, l0))), (1, .inr (.inl t.1)), (3, .inl t.2.1)] [] t.2.2.2.2) → am_W X C 38 Q 0 0 10 [(0, .inr (.inr (3, l0))), (1, .inr (.inl l1)), (3, .inl l3), (4, .inl l4), (5, .inl l5)] [] μ := by
  intro n
  induction n with
  | zero => intro l1 l3 l4 l5 μ r h; cases h
  | succ n ih =>
    intro l1 l3 l4 l5 μ r h hI hX
    unfold L38_10 at h
    exact (am_c_iload hG (pc := 10) d38_10 rfl (am_c_aload_n hG (pc := 12) d38_12 rfl (x_get_n (v := .inl (μ l0 1)) hG (pc := 13) d38_13 mo38 f3_13 rfl (x_icmp_ge (tgt := 80) hG (pc := 16) d38_16 rfl h (fun h => (am_lvw (lv2 := [(0, .inr (.inr (3, l0))), (1, .inr (.inl l1)), (3, .inl l3)]) [0, 1, 2] rfl (hX (l1, l3, l4, l5, μ) (Option.some.inj h).symm))) (fun h => (am_c_aload_n hG (pc := 19) d38_19 rfl (am_c_iload hG (pc := 20) d38_20 rfl (x_virtual_i (t := 3) (o := l0) (as2 := [.inl l5]) (rest := []) hG (pc := 22) d38_22 mo38 m3_20 (by decide) dp38_30 rfl rfl (Nat.le_of_ble_eq_true rfl) (Nat.le_of_ble_eq_true rfl) rg30 sd30 (e30 _ _ _) h (fun z1 h => (x_istore (lv' := [(6, .inl z1.1), (0, .inr (.inr (3, l0))), (1, .inr (.inl l1)), (3, .inl l3), (4, .inl l4), (5, .inl l5)]) hG (pc := 25) d38_25 (ml38 _ (by decide)) rfl (am_c_iload hG (pc := 27) d38_27 rfl (x_static_i (as := [.inl z1.1]) (rest := []) hG (pc := 29) d38_29 mo38 m3_43 (by decide) dp38_31 rfl rfl (Nat.le_of_ble_eq_true rfl) (Nat.le_of_ble_eq_true rfl) rg31 sd31 (e31 _ _) h (fun z2 h => (x_if_eq (tgt := 64) hG (pc := 32) d38_32 rfl h (fun h => (am_c_iload hG (pc := 64) d38_64 rfl (am_c_bipush hG (pc := 66) d38_66 (by decide) (x_icmp_ne (tgt := 74) hG (pc := 68) d38_68 rfl h (fun h => (x_iinc (lv' := [(5, .inl (w32 (l5 + 1))), (6, .inl z1.1), (0, .inr (.inr (3, l0))), (1, .inr (.inl l1)), (3, .inl l3), (4, .inl l4)]) hG (pc := 74) d38_74 rfl (ml38 _ (by decide)) rfl (x_goto (tgt := 10) hG (pc := 77) d38_77 rfl (am_lvw (lv2 := [(0, .inr (.inr (3, l0))), (1, .inr (.inl l1)), (3, .inl l3), (4, .inl l4), (5, .inl (w32 (l5 + 1)))]) [2, 3, 4, 5, 0] rfl (ih _ _ _ _ _ _ h hI hX))))) (fun h => (am_c_iconst hG (pc := 71) d38_71 (by decide) (x_istore (lv' := [(4, .inl 1), (6, .inl z1.1), (0, .inr (.inr (3, l0))), (1, .inr (.inl l1)), (3, .inl l3), (5, .inl l5)]) hG (pc := 72) d38_72 (ml38 _ (by decide)) rfl (x_iinc (lv' := [(5, .inl (w32 (l5 + 1))), (4, .inl 1), (6, .inl z1.1), (0, .inr (.inr (3, l0))), (1, .inr (.inl l1)), (3, .inl l3)]) hG (pc := 74) d38_74 rfl (ml38 _ (by decide)) rfl (x_goto (tgt := 10) hG (pc := 77) d38_77 rfl (am_lvw (lv2 := [(0, .inr (.inr (3, l0))), (1, .inr (.inl l1)), (3, .inl l3), (4, .inl 1), (5, .inl (w32 (l5 + 1)))]) [3, 4, 5, 1, 0] rfl (ih _ _ _ _ _ _ h hI hX))))))))))) (fun h => (am_c_lload_n hG (pc := 35) d38_35 rfl (am_c_ldc2 hG (pc := 36) d38_36 (v := 10) (by decide +kernel) (am_c_lmul hG (pc := 39) d38_39 (am_c_iload hG (pc := 40) d38_40 rfl (am_c_bipush hG (pc := 42) d38_42 (by decide) (am_c_isub hG (pc := 44) d38_44 (am_c_i2l hG (pc := 45) d38_45 (am_c_ladd hG (pc := 46) d38_46 (x_lstore_n (lv' := [(1, .inr (.inl (w64 ((w64 (l1 * 10)) + (w32 (z1.1 - 48)))))), (6, .inl z1.1), (0, .inr (.inr (3, l0))), (3, .inl l3), (4, .inl l4), (5, .inl l5)]) hG (pc := 47) d38_47 (ml38 _ (by decide)) rfl (am_c_iload_n hG (pc := 48) d38_48 rfl (am_c_iload hG (pc := 49) d38_49 rfl (x_if_eq (tgt := 58) hG (pc := 51) d38_51 rfl h (fun h => (am_c_iconst hG (pc := 58) d38_58 (by decide) (am_c_isub hG (pc := 59) d38_59 (x_istore_n (lv' := [(3, .inl (w32 (l3 - 0))), (1, .inr (.inl (w64 ((w64 (l1 * 10)) + (w32 (z1.1 - 48)))))), (6, .inl z1.1), (0, .inr (.inr (3, l0))), (4, .inl l4), (5, .inl l5)]) hG (pc := 60) d38_60 (ml38 _ (by decide)) rfl (x_goto (tgt := 74) hG (pc := 61) d38_61 rfl (x_iinc (lv' := [(5, .inl (w32 (l5 + 1))), (3, .inl (w32 (l3 - 0))), (1, .inr (.inl (w64 ((w64 (l1 * 10)) + (w32 (z1.1 - 48)))))), (6, .inl z1.1), (0, .inr (.inr (3, l0))), (4, .inl l4)]) hG (pc := 74) d38_74 rfl (ml38 _ (by decide)) rfl (x_goto (tgt := 10) hG (pc := 77) d38_77 rfl (am_lvw (lv2 := [(0, .inr (.inr (3, l0))), (1, .inr (.inl (w64 ((w64 (l1 * 10)) + (w32 (z1.1 - 48)))))), (3, .inl (w32 (l3 - 0))), (4, .inl l4), (5, .inl (w32 (l5 + 1)))]) [4, 2, 1, 5, 0] rfl (ih _ _ _ _ _ _ h hI hX))))))))) (fun h => (am_c_iconst hG (pc := 54) d38_54 (by decide) (x_goto (tgt := 59) hG (pc := 55) d38_55 rfl (am_c_isub hG (pc := 59) d38_59 (x_istore_n (lv' := [(3, .inl (w32 (l3 - 1))), (1, .inr (.inl (w64 ((w64 (l1 * 10)) + (w32 (z1.1 - 48)))))), (6, .inl z1.1), (0, .inr (.inr (3, l0))), (4, .inl l4), (5, .inl l5)]) hG (pc := 60) d38_60 (ml38 _ (by decide)) rfl (x_goto (tgt := 74) hG (pc := 61) d38_61 rfl (x_iinc (lv' := [(5, .inl (w32 (l5 + 1))), (3, .inl (w32 (l3 - 1))), (1, .inr (.inl (w64 ((w64 (l1 * 10)) + (w32 (z1.1 - 48)))))), (6, .inl z1.1), (0, .inr (.inr (3, l0))), (4, .inl l4)]) hG (pc := 74) d38_74 rfl (ml38 _ (by decide)) rfl (x_goto (tgt := 10) hG (pc := 77) d38_77 rfl (am_lvw (lv2 := [(0, .inr (.inr (3, l0))), (1, .inr (.inl (w64 ((w64 (l1 * 10)) + (w32 (z1.1 - 48)))))), (3, .inl (w32 (l3 - 1))), (4, .inl l4), (5, .inl (w32 (l5 + 1)))]) [4, 2, 1, 5, 0] rfl (ih _ _ _ _ _ _ h hI hX)))))))))))))))))))))))))))))))))))))
def L38_83 (l0 : Nat) (l3 : Int) : Nat → Int → Int → am_M → Option ((Int × am_M) ⊕ (Int × Int × am_M))
  | 0, _, _, _ => none
  | n + 1, l1, l5, μ => (if l5 < l3 then (L38_83 l0 l3 n (w64 (l1 * 10)) (w32 (l5 + 1)) μ) else (some (.inr (l1, l5, μ))))
theorem w38_83 {X : am_K} {C : am_C} {Q : State → Prop} (hG : am_G X C 38 0 0 (0, fun _ => 0)) (hr : match X with | (_, _, _, _, _, _, _, _, meth, _) => meth.sig.returnType = am_mr 38 ∧ meth.locks = false) (l0 : Nat) (l3 : Int) : ∀ (n : Nat) (l1 : Int) (l5 : Int) (μ : am_M) (r : (Int × am_M) ⊕ (Int × Int × am_M)), L38_83 l0 l3 n l1 l5 μ = some r → (∀ q, r = .inl q → Q = am_E X C 38 q.1 q.2) → (∀ t, r = .inr t → am_W X C 38 Q 0 0 101 [(0, .inr (.inr (3, l0))), (1, .inr (.inl t.1))] [] t.2.2) → am_W X C 38 Q 0 0 83 [(0, .inr (.inr (3, l0))), (1, .inr (.inl l1)), (3, .inl l3), (5, .inl l5)] [] μ := by
  intro n
  induction n with
  | zero => intro l1 l5 μ r h; cases h
  | succ n ih =>
    intro l1 l5 μ r h hI hX
    unfold L38_83 at h
    exact (am_c_iload hG (pc := 83) d38_83 rfl (am_c_iload_n hG (pc := 85) d38_85 rfl (x_icmp_ge (tgt := 101) hG (pc := 86) d38_86 rfl h (fun h => (am_lvw (lv2 := [(0, .inr (.inr (3, l0))), (1, .inr (.inl l1))]) [0, 1] rfl (hX (l1, l5, μ) (Option.some.inj h).symm))) (fun h => (am_c_lload_n hG (pc := 89) d38_89 rfl (am_c_ldc2 hG (pc := 90) d38_90 (v := 10) (by decide +kernel) (am_c_lmul hG (pc := 93) d38_93 (x_lstore_n (lv' := [(1, .inr (.inl (w64 (l1 * 10)))), (0, .inr (.inr (3, l0))), (3, .inl l3), (5, .inl l5)]) hG (pc := 94) d38_94 (ml38 _ (by decide)) rfl (x_iinc (lv' := [(5, .inl (w32 (l5 + 1))), (1, .inr (.inl (w64 (l1 * 10)))), (0, .inr (.inr (3, l0))), (3, .inl l3)]) hG (pc := 95) d38_95 rfl (ml38 _ (by decide)) rfl (x_goto (tgt := 83) hG (pc := 98) d38_98 rfl (am_lvw (lv2 := [(0, .inr (.inr (3, l0))), (1, .inr (.inl (w64 (l1 * 10)))), (3, .inl l3), (5, .inl (w32 (l5 + 1)))]) [2, 1, 3, 0] rfl (ih _ _ _ _ h hI hX))))))))))))
def fn38 (o : Nat) (μ : am_M) : Option (Int × am_M) := (am_op (L38_10 o am_fuel 0 3 0 0 μ) (fun s => am_lp s (fun q1 => some q1) (fun t1 => (am_op (L38_83 o t1.2.1 am_fuel t1.1 0 t1.2.2.2.2) (fun s => am_lp s (fun q2 => some q2) (fun t2 => (am_op (fn30 o 0 t2.2.2) (fun z3 => (if z3.1 = 45 then some (w64 (-t2.1), z3.2) else some (t2.1, z3.2))))))))))
def sp38 : am_F := fun vs μ => am_aR 3 vs fun o vs => am_a0 vs (fn38 o μ)
theorem e38 (o : Nat) (μ : am_M) : sp38 [.inr (.inr (3, o))] μ = fn38 o μ := am_aR_c.trans am_a0_c
theorem sd38 : am_Sd 38 sp38 := by
  refine am_Sd_of (by decide) (fun vs μ μ' x h hv hM => ?_)
  obtain ⟨o, vs0, rfl, h0⟩ := am_aR_s h
  obtain ⟨rfl, hz⟩ := am_a0_s h0
  refine ⟨Nat.le_of_ble_eq_true rfl, fun X C hG hr => ?_⟩
  have h := hz
  unfold fn38 at h
  exact (show am_W X C 38 _ 0 0 0 [(0, .inr (.inr (3, o)))] [] μ from (am_c_lconst hG (pc := 0) d38_0 (x_lstore_n (lv' := [(1, .inr (.inl 0)), (0, .inr (.inr (3, o)))]) hG (pc := 1) d38_1 (ml38 _ (by decide)) rfl (am_c_iconst hG (pc := 2) d38_2 (by decide) (x_istore_n (lv' := [(3, .inl 3), (1, .inr (.inl 0)), (0, .inr (.inr (3, o)))]) hG (pc := 3) d38_3 (ml38 _ (by decide)) rfl (am_c_iconst hG (pc := 4) d38_4 (by decide) (x_istore (lv' := [(4, .inl 0), (3, .inl 3), (1, .inr (.inl 0)), (0, .inr (.inr (3, o)))]) hG (pc := 5) d38_5 (ml38 _ (by decide)) rfl (am_c_iconst hG (pc := 7) d38_7 (by decide) (x_istore (lv' := [(5, .inl 0), (4, .inl 0), (3, .inl 3), (1, .inr (.inl 0)), (0, .inr (.inr (3, o)))]) hG (pc := 8) d38_8 (ml38 _ (by decide)) rfl (x_lp h (fun r h1 h2 => (am_lvw (lv2 := [(0, .inr (.inr (3, o))), (1, .inr (.inl 0)), (3, .inl 3), (4, .inl 0), (5, .inl 0)]) [4, 3, 2, 1, 0] rfl (w38_10 hG hr _ _ _ _ _ _ _ _ h1 (fun q1 e => am_q1 e h2 (fun h => am_q0 h)) (fun t1 e => am_q2 e h2 (fun h => (am_c_iconst hG (pc := 80) d38_80 (by decide) (x_istore (lv' := [(5, .inl 0), (0, .inr (.inr (3, o))), (1, .inr (.inl t1.1)), (3, .inl t1.2.1)]) hG (pc := 81) d38_81 (ml38 _ (by decide)) rfl (x_lp h (fun r h1 h2 => (am_lvw (lv2 := [(0, .inr (.inr (3, o))), (1, .inr (.inl t1.1)), (3, .inl t1.2.1), (5, .inl 0)]) [1, 2, 3, 0] rfl (w38_83 hG hr _ _ _ _ _ _ _ h1 (fun q2 e => am_q1 e h2 (fun h => am_q0 h)) (fun t2 e => am_q2 e h2 (fun h => (am_c_aload_n hG (pc := 101) d38_101 rfl (am_c_iconst hG (pc := 102) d38_102 (by decide) (x_virtual_i (t := 3) (o := o) (as2 := [.inl 0]) (rest := []) hG (pc := 103) d38_103 mo38 m3_20 (by decide) dp38_30 rfl rfl (Nat.le_of_ble_eq_true rfl) (Nat.le_of_ble_eq_true rfl) rg30 sd30 (e30 _ _ _) h (fun z3 h => (am_c_bipush hG (pc := 106) d38_106 (by decide) (x_icmp_ne (tgt := 116) hG (pc := 108) d38_108 rfl h (fun h => (am_c_lload_n hG (pc := 116) d38_116 rfl (xq_lret hG (by decide) hr (pc := 117) d38_117 rk38 (am_q0 h)))) (fun h => (am_c_lload_n hG (pc := 111) d38_111 rfl (am_c_lneg hG (pc := 112) d38_112 (x_goto (tgt := 117) hG (pc := 113) d38_113 rfl (xq_lret hG (by decide) hr (pc := 117) d38_117 rk38 (am_q0 h)))))))))))))))))))))))))))))))))))
/-! ChartPress$Letters.day()J -/
theorem D39 (k : Nat) {pc : Nat} {i : Instr} (h : tbi39[k]? = some (pc, i)) (hs : am_isw i = false) {n : Nat} (hn : am_il i = n) : decode (am_mc 39) pc = .ok (i, n) := am_d2 (by decide) (by decide) rfl h hs hn
theorem d39_0 : decode (am_mc 39) 0 = .ok (.aload_n 0, 1) := D39 0 rfl rfl rfl
theorem d39_1 : decode (am_mc 39) 1 = .ok (.iconst 0, 1) := D39 1 rfl rfl rfl
theorem d39_2 : decode (am_mc 39) 2 = .ok (.iconst 4, 1) := D39 2 rfl rfl rfl
theorem d39_3 : decode (am_mc 39) 3 = .ok (.invokevirtual 49, 3) := D39 3 rfl rfl rfl
theorem d39_6 : decode (am_mc 39) 6 = .ok (.i2l, 1) := D39 4 rfl rfl rfl
theorem d39_7 : decode (am_mc 39) 7 = .ok (.ldc2_w 60, 3) := D39 5 rfl rfl rfl
theorem d39_10 : decode (am_mc 39) 10 = .ok (.lmul, 1) := D39 6 rfl rfl rfl
theorem d39_11 : decode (am_mc 39) 11 = .ok (.aload_n 0, 1) := D39 7 rfl rfl rfl
theorem d39_12 : decode (am_mc 39) 12 = .ok (.iconst 5, 1) := D39 8 rfl rfl rfl
theorem d39_13 : decode (am_mc 39) 13 = .ok (.iconst 2, 1) := D39 9 rfl rfl rfl
theorem d39_14 : decode (am_mc 39) 14 = .ok (.invokevirtual 49, 3) := D39 10 rfl rfl rfl
theorem d39_17 : decode (am_mc 39) 17 = .ok (.i2l, 1) := D39 11 rfl rfl rfl
theorem d39_18 : decode (am_mc 39) 18 = .ok (.ldc2_w 62, 3) := D39 12 rfl rfl rfl
theorem d39_21 : decode (am_mc 39) 21 = .ok (.lmul, 1) := D39 13 rfl rfl rfl
theorem d39_22 : decode (am_mc 39) 22 = .ok (.ladd, 1) := D39 14 rfl rfl rfl
theorem d39_23 : decode (am_mc 39) 23 = .ok (.aload_n 0, 1) := D39 15 rfl rfl rfl
theorem d39_24 : decode (am_mc 39) 24 = .ok (.bipush 8, 2) := D39 16 rfl rfl rfl
theorem d39_26 : decode (am_mc 39) 26 = .ok (.iconst 2, 1) := D39 17 rfl rfl rfl
theorem d39_27 : decode (am_mc 39) 27 = .ok (.invokevirtual 49, 3) := D39 18 rfl rfl rfl
theorem d39_30 : decode (am_mc 39) 30 = .ok (.i2l, 1) := D39 19 rfl rfl rfl
theorem d39_31 : decode (am_mc 39) 31 = .ok (.ladd, 1) := D39 20 rfl rfl rfl
theorem d39_32 : decode (am_mc 39) 32 = .ok (.lreturn, 1) := D39 21 rfl rfl rfl
theorem ml39 : ∀ n, n < 1 → n < am_ml 39 := fun _ h => h
theorem mo39 : am_mo 39 = 3 := by decide +kernel
theorem rk39 : am_rk 39 = 2 := by decide +kernel
theorem rg39 : am_rcg 39 = 4 := by decide +kernel
theorem dp39_34 : am_md 34 + 1 ≤ am_md 39 ∧ 8 + (am_ml 34 + 11) + am_lr 34 ≤ am_lr 39 := by decide +kernel
def fn39 (o : Nat) (μ : am_M) : Option (Int × am_M) := (am_op (fn34 o 0 4 μ) (fun z1 => (am_op (fn34 o 5 2 z1.2) (fun z2 => (am_op (fn34 o 8 2 z2.2) (fun z3 => some (w64 ((w64 ((w64 (z1.1 * 10000)) + (w64 (z2.1 * 100)))) + z3.1), z3.2)))))))
def sp39 : am_F := fun vs μ => am_aR 3 vs fun o vs => am_a0 vs (fn39 o μ)
theorem e39 (o : Nat) (μ : am_M) : sp39 [.inr (.inr (3, o))] μ = fn39 o μ := am_aR_c.trans am_a0_c
theorem sd39 : am_Sd 39 sp39 := by
  refine am_Sd_of (by decide) (fun vs μ μ' x h hv hM => ?_)
  obtain ⟨o, vs0, rfl, h0⟩ := am_aR_s h
  obtain ⟨rfl, hz⟩ := am_a0_s h0
  refine ⟨Nat.le_of_ble_eq_true rfl, fun X C hG hr => ?_⟩
  have h := hz
  unfold fn39 at h
  exact (show am_W X C 39 _ 0 0 0 [(0, .inr (.inr (3, o)))] [] μ from (am_c_aload_n hG (pc := 0) d39_0 rfl (am_c_iconst hG (pc := 1) d39_1 (by decide) (am_c_iconst hG (pc := 2) d39_2 (by decide) (x_virtual_i (t := 3) (o := o) (as2 := [.inl 0, .inl 4]) (rest := []) hG (pc := 3) d39_3 mo39 m3_49 (by decide) dp39_34 rfl rfl (Nat.le_of_ble_eq_true rfl) (Nat.le_of_ble_eq_true rfl) rg34 sd34 (e34 _ _ _ _) h (fun z1 h => (am_c_i2l hG (pc := 6) d39_6 (am_c_ldc2 hG (pc := 7) d39_7 (v := 10000) (by decide +kernel) (am_c_lmul hG (pc := 10) d39_10 (am_c_aload_n hG (pc := 11) d39_11 rfl (am_c_iconst hG (pc := 12) d39_12 (by decide) (am_c_iconst hG (pc := 13) d39_13 (by decide) (x_virtual_i (t := 3) (o := o) (as2 := [.inl 5, .inl 2]) (rest := [.inr (.inl (w64 (z1.1 * 10000)))]) hG (pc := 14) d39_14 mo39 m3_49 (by decide) dp39_34 rfl rfl (Nat.le_of_ble_eq_true rfl) (Nat.le_of_ble_eq_true rfl) rg34 sd34 (e34 _ _ _ _) h (fun z2 h => (am_c_i2l hG (pc := 17) d39_17 (am_c_ldc2 hG (pc := 18) d39_18 (v := 100) (by decide +kernel) (am_c_lmul hG (pc := 21) d39_21 (am_c_ladd hG (pc := 22) d39_22 (am_c_aload_n hG (pc := 23) d39_23 rfl (am_c_bipush hG (pc := 24) d39_24 (by decide) (am_c_iconst hG (pc := 26) d39_26 (by decide) (x_virtual_i (t := 3) (o := o) (as2 := [.inl 8, .inl 2]) (rest := [.inr (.inl (w64 ((w64 (z1.1 * 10000)) + (w64 (z2.1 * 100)))))]) hG (pc := 27) d39_27 mo39 m3_49 (by decide) dp39_34 rfl rfl (Nat.le_of_ble_eq_true rfl) (Nat.le_of_ble_eq_true rfl) rg34 sd34 (e34 _ _ _ _) h (fun z3 h => (am_c_i2l hG (pc := 30) d39_30 (am_c_ladd hG (pc := 31) d39_31 (xq_lret hG (by decide) hr (pc := 32) d39_32 rk39 (am_q0 h)))))))))))))))))))))))))))
/-! ChartPress$Table.worthAs(ILChartPress$Letters;)J -/
theorem D40 (k : Nat) {pc : Nat} {i : Instr} (h : tbi40[k]? = some (pc, i)) (hs : am_isw i = false) {n : Nat} (hn : am_il i = n) : decode (am_mc 40) pc = .ok (i, n) := am_d2 (by decide) (by decide) rfl h hs hn
theorem d40_0 : decode (am_mc 40) 0 = .ok (.aload_n 1, 1) := D40 0 rfl rfl rfl
theorem d40_1 : decode (am_mc 40) 1 = .ok (.invokevirtual 120, 3) := D40 1 rfl rfl rfl
theorem d40_4 : decode (am_mc 40) 4 = .ok (.ifCond .ne 8, 3) := D40 2 rfl rfl rfl
theorem d40_7 : decode (am_mc 40) 7 = .ok (.iload_n 0, 1) := D40 3 rfl rfl rfl
theorem d40_8 : decode (am_mc 40) 8 = .ok (.iconst 3, 1) := D40 4 rfl rfl rfl
theorem d40_9 : decode (am_mc 40) 9 = .ok (.if_icmp .ne 5, 3) := D40 5 rfl rfl rfl
theorem d40_12 : decode (am_mc 40) 12 = .ok (.lconst 0, 1) := D40 6 rfl rfl rfl
theorem d40_13 : decode (am_mc 40) 13 = .ok (.lreturn, 1) := D40 7 rfl rfl rfl
theorem d40_14 : decode (am_mc 40) 14 = .ok (.iload_n 0, 1) := D40 8 rfl rfl rfl
theorem d40_15 : decode (am_mc 40) 15 = .ok (.iconst 1, 1) := D40 9 rfl rfl rfl
theorem d40_16 : decode (am_mc 40) 16 = .ok (.if_icmp .ne 10, 3) := D40 10 rfl rfl rfl
theorem d40_19 : decode (am_mc 40) 19 = .ok (.aload_n 1, 1) := D40 11 rfl rfl rfl
theorem d40_20 : decode (am_mc 40) 20 = .ok (.invokevirtual 138, 3) := D40 12 rfl rfl rfl
theorem d40_23 : decode (am_mc 40) 23 = .ok (.goto 7, 3) := D40 13 rfl rfl rfl
theorem d40_26 : decode (am_mc 40) 26 = .ok (.aload_n 1, 1) := D40 14 rfl rfl rfl
theorem d40_27 : decode (am_mc 40) 27 = .ok (.invokevirtual 142, 3) := D40 15 rfl rfl rfl
theorem d40_30 : decode (am_mc 40) 30 = .ok (.lreturn, 1) := D40 16 rfl rfl rfl
theorem ml40 : ∀ n, n < 2 → n < am_ml 40 := fun _ h => h
theorem mo40 : am_mo 40 = 2 := by decide +kernel
theorem rk40 : am_rk 40 = 2 := by decide +kernel
theorem rg40 : am_rcg 40 = 0 := by decide +kernel
theorem m2_138 : tb_m 2 138 = some (38, 1, 2, 0) := by decide +kernel
theorem m2_142 : tb_m 2 142 = some (39, 1, 2, 0) := by decide +kernel
theorem dp40_29 : am_md 29 + 1 ≤ am_md 40 ∧ 8 + (am_ml 29 + 11) + am_lr 29 ≤ am_lr 40 := by decide +kernel
theorem dp40_38 : am_md 38 + 1 ≤ am_md 40 ∧ 8 + (am_ml 38 + 11) + am_lr 38 ≤ am_lr 40 := by decide +kernel
theorem dp40_39 : am_md 39 + 1 ≤ am_md 40 ∧ 8 + (am_ml 39 + 11) + am_lr 39 ≤ am_lr 40 := by decide +kernel
def fn40 (a : Int) (b : Nat) (μ : am_M) : Option (Int × am_M) := (am_op (fn29 b μ) (fun z1 => (if z1.1 = 0 then (if a = 3 then some (0, z1.2) else (if a = 1 then (am_op (fn38 b z1.2) (fun z3 => some (z3.1, z3.2))) else (am_op (fn39 b z1.2) (fun z2 => some (z2.1, z2.2))))) else some (0, z1.2))))
def sp40 : am_F := fun vs μ => am_aI vs fun a vs => am_aR 3 vs fun b vs => am_a0 vs (fn40 a b μ)
theorem e40 (a : Int) (b : Nat) (μ : am_M) : sp40 [.inl a, .inr (.inr (3, b))] μ = fn40 a b μ := am_aI_c.trans (am_aR_c.trans am_a0_c)
theorem sd40 : am_Sd 40 sp40 := by
  refine am_Sd_of (by decide) (fun vs μ μ' x h hv hM => ?_)
  obtain ⟨a, vs0, rfl, h0⟩ := am_aI_s h
  obtain ⟨b, vs1, rfl, h1⟩ := am_aR_s h0
  obtain ⟨rfl, hz⟩ := am_a0_s h1
  refine ⟨Nat.le_of_ble_eq_true rfl, fun X C hG hr => ?_⟩
  have h := hz
  unfold fn40 at h
  exact (show am_W X C 40 _ 0 0 0 [(0, .inl a), (1, .inr (.inr (3, b)))] [] μ from (am_c_aload_n hG (pc := 0) d40_0 rfl (x_virtual_i (t := 3) (o := b) (as2 := []) (rest := []) hG (pc := 1) d40_1 mo40 m2_120 (by decide) dp40_29 rfl rfl (Nat.le_of_ble_eq_true rfl) (Nat.le_of_ble_eq_true rfl) rg29 sd29 (e29 _ _) h (fun z1 h => (x_if_ne (tgt := 12) hG (pc := 4) d40_4 rfl h (fun h => (am_c_lconst hG (pc := 12) d40_12 (xq_lret hG (by decide) hr (pc := 13) d40_13 rk40 (am_q0 h)))) (fun h => (am_c_iload_n hG (pc := 7) d40_7 rfl (am_c_iconst hG (pc := 8) d40_8 (by decide) (x_icmp_ne (tgt := 14) hG (pc := 9) d40_9 rfl h (fun h => (am_c_iload_n hG (pc := 14) d40_14 rfl (am_c_iconst hG (pc := 15) d40_15 (by decide) (x_icmp_ne (tgt := 26) hG (pc := 16) d40_16 rfl h (fun h => (am_c_aload_n hG (pc := 26) d40_26 rfl (x_virtual_l (t := 3) (o := b) (as2 := []) (rest := []) hG (pc := 27) d40_27 mo40 m2_142 (by decide) dp40_39 rfl rfl (Nat.le_of_ble_eq_true rfl) (Nat.le_of_ble_eq_true rfl) rg39 sd39 (e39 _ _) h (fun z2 h => (xq_lret hG (by decide) hr (pc := 30) d40_30 rk40 (am_q0 h)))))) (fun h => (am_c_aload_n hG (pc := 19) d40_19 rfl (x_virtual_l (t := 3) (o := b) (as2 := []) (rest := []) hG (pc := 20) d40_20 mo40 m2_138 (by decide) dp40_38 rfl rfl (Nat.le_of_ble_eq_true rfl) (Nat.le_of_ble_eq_true rfl) rg38 sd38 (e38 _ _) h (fun z3 h => (x_goto (tgt := 30) hG (pc := 23) d40_23 rfl (xq_lret hG (by decide) hr (pc := 30) d40_30 rk40 (am_q0 h))))))))))) (fun h => (am_c_lconst hG (pc := 12) d40_12 (xq_lret hG (by decide) hr (pc := 13) d40_13 rk40 (am_q0 h)))))))))))))
/-! ChartPress$Table.weigh(I)V -/
theorem D41 (k : Nat) {pc : Nat} {i : Instr} (h : tbi41[k]? = some (pc, i)) (hs : am_isw i = false) {n : Nat} (hn : am_il i = n) : decode (am_mc 41) pc = .ok (i, n) := am_d2 (by decide) (by decide) rfl h hs hn
theorem d41_0 : decode (am_mc 41) 0 = .ok (.iconst 0, 1) := D41 0 rfl rfl rfl
theorem d41_1 : decode (am_mc 41) 1 = .ok (.istore_n 2, 1) := D41 1 rfl rfl rfl
theorem d41_2 : decode (am_mc 41) 2 = .ok (.iload_n 2, 1) := D41 2 rfl rfl rfl
theorem d41_3 : decode (am_mc 41) 3 = .ok (.aload_n 0, 1) := D41 3 rfl rfl rfl
theorem d41_4 : decode (am_mc 41) 4 = .ok (.invokevirtual 113, 3) := D41 4 rfl rfl rfl
theorem d41_7 : decode (am_mc 41) 7 = .ok (.if_icmp .ge 42, 3) := D41 5 rfl rfl rfl
theorem d41_10 : decode (am_mc 41) 10 = .ok (.aload_n 0, 1) := D41 6 rfl rfl rfl
theorem d41_11 : decode (am_mc 41) 11 = .ok (.iload_n 2, 1) := D41 7 rfl rfl rfl
theorem d41_12 : decode (am_mc 41) 12 = .ok (.iload_n 1, 1) := D41 8 rfl rfl rfl
theorem d41_13 : decode (am_mc 41) 13 = .ok (.invokevirtual 130, 3) := D41 9 rfl rfl rfl
theorem d41_16 : decode (am_mc 41) 16 = .ok (.istore_n 3, 1) := D41 10 rfl rfl rfl
theorem d41_17 : decode (am_mc 41) 17 = .ok (.iload_n 3, 1) := D41 11 rfl rfl rfl
theorem d41_18 : decode (am_mc 41) 18 = .ok (.iconst (-1), 1) := D41 12 rfl rfl rfl
theorem d41_19 : decode (am_mc 41) 19 = .ok (.if_icmp .eq 24, 3) := D41 13 rfl rfl rfl
theorem d41_22 : decode (am_mc 41) 22 = .ok (.aload_n 0, 1) := D41 14 rfl rfl rfl
theorem d41_23 : decode (am_mc 41) 23 = .ok (.getfield 24, 3) := D41 15 rfl rfl rfl
theorem d41_26 : decode (am_mc 41) 26 = .ok (.iload_n 3, 1) := D41 16 rfl rfl rfl
theorem d41_27 : decode (am_mc 41) 27 = .ok (.aload_n 0, 1) := D41 17 rfl rfl rfl
theorem d41_28 : decode (am_mc 41) 28 = .ok (.getfield 28, 3) := D41 18 rfl rfl rfl
theorem d41_31 : decode (am_mc 41) 31 = .ok (.iload_n 1, 1) := D41 19 rfl rfl rfl
theorem d41_32 : decode (am_mc 41) 32 = .ok (.iaload, 1) := D41 20 rfl rfl rfl
theorem d41_33 : decode (am_mc 41) 33 = .ok (.aload_n 0, 1) := D41 21 rfl rfl rfl
theorem d41_34 : decode (am_mc 41) 34 = .ok (.getfield 11, 3) := D41 22 rfl rfl rfl
theorem d41_37 : decode (am_mc 41) 37 = .ok (.iload_n 3, 1) := D41 23 rfl rfl rfl
theorem d41_38 : decode (am_mc 41) 38 = .ok (.aaload, 1) := D41 24 rfl rfl rfl
theorem d41_39 : decode (am_mc 41) 39 = .ok (.invokestatic 134, 3) := D41 25 rfl rfl rfl
theorem d41_42 : decode (am_mc 41) 42 = .ok (.lastore, 1) := D41 26 rfl rfl rfl
theorem d41_43 : decode (am_mc 41) 43 = .ok (.iinc 2 1, 3) := D41 27 rfl rfl rfl
theorem d41_46 : decode (am_mc 41) 46 = .ok (.goto (-44), 3) := D41 28 rfl rfl rfl
theorem d41_49 : decode (am_mc 41) 49 = .ok (.return_, 1) := D41 29 rfl rfl rfl
theorem ml41 : ∀ n, n < 4 → n < am_ml 41 := fun _ h => h
theorem mo41 : am_mo 41 = 2 := by decide +kernel
theorem rk41 : am_rk 41 = 0 := by decide +kernel
theorem rg41 : am_rcg 41 = 3 := by decide +kernel
theorem f2_24 : tb_f 2 24 = some (2, 2, 5, 17) := by decide +kernel
theorem f2_28 : tb_f 2 28 = some (2, 3, 5, 16) := by decide +kernel
theorem m2_134 : tb_m 2 134 = some (40, 2, 2, 0) := by decide +kernel
theorem dp41_26 : am_md 26 + 1 ≤ am_md 41 ∧ 8 + (am_ml 26 + 11) + am_lr 26 ≤ am_lr 41 := by decide +kernel
theorem dp41_27 : am_md 27 + 1 ≤ am_md 41 ∧ 8 + (am_ml 27 + 11) + am_lr 27 ≤ am_lr 41 := by decide +kernel
theorem dp41_40 : am_md 40 + 1 ≤ am_md 41 ∧ 8 + (am_ml 40 + 11) + am_lr 40 ≤ am_lr 41 := by decide +kernel
def L41_2 (l0 : Nat) (l1 : Int) : Nat → Int → am_M → Option ((Int × am_M) ⊕ (Int × am_M))
  | 0, _, _ => none
  | n + 1, l2, μ => (am_op (fn26 l0 μ) (fun z1 => (if l2 < z1.1 then (am_op (fn27 l0 l2 l1 z1.2) (fun z2 => (if z2.1 = (-1) then (L41_2 l0 l1 n (w32 (l2 + 1)) z2.2) else (if (0 : Int) ≤ l1 ∧ l1 < ((am_len (am_ref l0 3) : Nat) : Int) then (if (0 : Int) ≤ z2.1 ∧ z2.1 < ((am_len (am_ref l0 0) : Nat) : Int) then (am_op (fn40 (z2.2 (am_ref l0 3) (l1 : Int).toNat) (am_ref (am_ref l0 0) (z2.1 : Int).toNat) z2.2) (fun z3 => (if (0 : Int) ≤ z2.1 ∧ z2.1 < ((am_len (am_ref l0 2) : Nat) : Int) then (L41_2 l0 l1 n (w32 (l2 + 1)) (am_up z3.2 (am_ref l0 2) (z2.1 : Int).toNat z3.1)) else none))) else none) else none)))) else (some (.inr (l2, z1.2))))))
theorem w41_2 {X : am_K} {C : am_C} {Q : State → Prop} (hG : am_G X C 41 0 0 (0, fun _ => 0)) (hr : match X with | (_, _, _, _, _, _, _, _, meth, _) => meth.sig.returnType = am_mr 41 ∧ meth.locks = false) (l0 : Nat) (l1 : Int) : ∀ (n : Nat) (l2 : Int) (μ : am_M) (r : (Int × am_M) ⊕ (Int × am_M)), L41_2 l0 l1 n l2 μ = some r → (∀ q, r = .inl q → Q = am_E X C 41 q.1 q.2) → (∀ t, r = .inr t → am_W X C 41 Q 0 0 49 [] [] t.2) → am_W X C 41 Q 0 0 2 [(0, .inr (.inr (2, l0))), (1, .inl l1), (2, .inl l2)] [] μ := by
  intro n
  induction n with
  | zero => intro l2 μ r h; cases h
  | succ n ih =>
    intro l2 μ r h hI hX
    unfold L41_2 at h
    exact (am_c_iload_n hG (pc := 2) d41_2 rfl (am_c_aload_n hG (pc := 3) d41_3 rfl (x_virtual_i (t := 2) (o := l0) (as2 := []) (rest := [.inl l2]) hG (pc := 4) d41_4 mo41 m2_113 (by decide) dp41_26 rfl rfl (Nat.le_of_ble_eq_true rfl) (Nat.le_of_ble_eq_true rfl) rg26 sd26 (e26 _ _) h (fun z1 h => (x_icmp_ge (tgt := 49) hG (pc := 7) d41_7 rfl h (fun h => (am_lvw (lv2 := []) [] rfl (hX (l2, z1.2) (Option.some.inj h).symm))) (fun h => (am_c_aload_n hG (pc := 10) d41_10 rfl (am_c_iload_n hG (pc := 11) d41_11 rfl (am_c_iload_n hG (pc := 12) d41_12 rfl (x_virtual_i (t := 2) (o := l0) (as2 := [.inl l2, .inl l1]) (rest := []) hG (pc := 13) d41_13 mo41 m2_130 (by decide) dp41_27 rfl rfl (Nat.le_of_ble_eq_true rfl) (Nat.le_of_ble_eq_true rfl) rg27 sd27 (e27 _ _ _ _) h (fun z2 h => (x_istore_n (lv' := [(3, .inl z2.1), (0, .inr (.inr (2, l0))), (1, .inl l1), (2, .inl l2)]) hG (pc := 16) d41_16 (ml41 _ (by decide)) rfl (am_c_iload_n hG (pc := 17) d41_17 rfl (am_c_iconst hG (pc := 18) d41_18 (by decide) (x_icmp_eq (tgt := 43) hG (pc := 19) d41_19 rfl h (fun h => (x_iinc (lv' := [(2, .inl (w32 (l2 + 1))), (3, .inl z2.1), (0, .inr (.inr (2, l0))), (1, .inl l1)]) hG (pc := 43) d41_43 rfl (ml41 _ (by decide)) rfl (x_goto (tgt := 2) hG (pc := 46) d41_46 rfl (am_lvw (lv2 := [(0, .inr (.inr (2, l0))), (1, .inl l1), (2, .inl (w32 (l2 + 1)))]) [2, 3, 0] rfl (ih _ _ _ h hI hX))))) (fun h => (am_c_aload_n hG (pc := 22) d41_22 rfl (x_get_n (v := .inr (.inr (17, am_ref l0 2))) hG (pc := 23) d41_23 mo41 f2_24 rfl (am_c_iload_n hG (pc := 26) d41_26 rfl (am_c_aload_n hG (pc := 27) d41_27 rfl (x_get_n (v := .inr (.inr (16, am_ref l0 3))) hG (pc := 28) d41_28 mo41 f2_28 rfl (am_c_iload_n hG (pc := 31) d41_31 rfl (x_iaload hG (pc := 32) d41_32 h (fun h => (am_c_aload_n hG (pc := 33) d41_33 rfl (x_get_n (v := .inr (.inr (21, am_ref l0 0))) hG (pc := 34) d41_34 mo41 f2_11 rfl (am_c_iload_n hG (pc := 37) d41_37 rfl (x_aaload_L hG (pc := 38) d41_38 h (fun h => (x_static_l (as := [.inl (z2.2 (am_ref l0 3) (l1 : Int).toNat), .inr (.inr (3, am_ref (am_ref l0 0) (z2.1 : Int).toNat))]) (rest := [.inl z2.1, .inr (.inr (17, am_ref l0 2))]) hG (pc := 39) d41_39 mo41 m2_134 (by decide) dp41_40 rfl rfl (Nat.le_of_ble_eq_true rfl) (Nat.le_of_ble_eq_true rfl) rg40 sd40 (e40 _ _ _) h (fun z3 h => (x_lastore hG (pc := 42) d41_42 h (fun h => (x_iinc (lv' := [(2, .inl (w32 (l2 + 1))), (3, .inl z2.1), (0, .inr (.inr (2, l0))), (1, .inl l1)]) hG (pc := 43) d41_43 rfl (ml41 _ (by decide)) rfl (x_goto (tgt := 2) hG (pc := 46) d41_46 rfl (am_lvw (lv2 := [(0, .inr (.inr (2, l0))), (1, .inl l1), (2, .inl (w32 (l2 + 1)))]) [2, 3, 0] rfl (ih _ _ _ h hI hX)))))))))))))))))))))))))))))))))))))
def fn41 (o : Nat) (a : Int) (μ : am_M) : Option (Int × am_M) := (am_op (L41_2 o a am_fuel 0 μ) (fun s => am_lp s (fun q1 => some q1) (fun t1 => some (0, t1.2))))
def sp41 : am_F := fun vs μ => am_aR 2 vs fun o vs => am_aI vs fun a vs => am_a0 vs (fn41 o a μ)
theorem e41 (o : Nat) (a : Int) (μ : am_M) : sp41 [.inr (.inr (2, o)), .inl a] μ = fn41 o a μ := am_aR_c.trans (am_aI_c.trans am_a0_c)
theorem sd41 : am_Sd 41 sp41 := by
  refine am_Sd_of (by decide) (fun vs μ μ' x h hv hM => ?_)
  obtain ⟨o, vs0, rfl, h0⟩ := am_aR_s h
  obtain ⟨a, vs1, rfl, h1⟩ := am_aI_s h0
  obtain ⟨rfl, hz⟩ := am_a0_s h1
  refine ⟨Nat.le_of_ble_eq_true rfl, fun X C hG hr => ?_⟩
  have h := hz
  unfold fn41 at h
  exact (show am_W X C 41 _ 0 0 0 [(0, .inr (.inr (2, o))), (1, .inl a)] [] μ from (am_c_iconst hG (pc := 0) d41_0 (by decide) (x_istore_n (lv' := [(2, .inl 0), (0, .inr (.inr (2, o))), (1, .inl a)]) hG (pc := 1) d41_1 (ml41 _ (by decide)) rfl (x_lp h (fun r h1 h2 => (am_lvw (lv2 := [(0, .inr (.inr (2, o))), (1, .inl a), (2, .inl 0)]) [1, 2, 0] rfl (w41_2 hG hr _ _ _ _ _ _ h1 (fun q1 e => am_q1 e h2 (fun h => am_q0 h)) (fun t1 e => am_q2 e h2 (fun h => (xq_vret hG (by decide) hr (pc := 49) d41_49 rk41 (am_q0 h)))))))))))
/-! ChartPress$Table.read(LChartPress$Script;)V -/
theorem D42 (k : Nat) {pc : Nat} {i : Instr} (h : tbi42[k]? = some (pc, i)) (hs : am_isw i = false) {n : Nat} (hn : am_il i = n) : decode (am_mc 42) pc = .ok (i, n) := am_d2 (by decide) (by decide) rfl h hs hn
theorem d42_0 : decode (am_mc 42) 0 = .ok (.aload_n 0, 1) := D42 0 rfl rfl rfl
theorem d42_1 : decode (am_mc 42) 1 = .ok (.invokevirtual 32, 3) := D42 1 rfl rfl rfl
theorem d42_4 : decode (am_mc 42) 4 = .ok (.iconst 0, 1) := D42 2 rfl rfl rfl
theorem d42_5 : decode (am_mc 42) 5 = .ok (.istore_n 2, 1) := D42 3 rfl rfl rfl
theorem d42_6 : decode (am_mc 42) 6 = .ok (.iload_n 2, 1) := D42 4 rfl rfl rfl
theorem d42_7 : decode (am_mc 42) 7 = .ok (.sipush 400, 3) := D42 5 rfl rfl rfl
theorem d42_10 : decode (am_mc 42) 10 = .ok (.if_icmp .gt 26, 3) := D42 6 rfl rfl rfl
theorem d42_13 : decode (am_mc 42) 13 = .ok (.aload_n 0, 1) := D42 7 rfl rfl rfl
theorem d42_14 : decode (am_mc 42) 14 = .ok (.getfield 35, 3) := D42 8 rfl rfl rfl
theorem d42_17 : decode (am_mc 42) 17 = .ok (.ifCond .ne 19, 3) := D42 9 rfl rfl rfl
theorem d42_20 : decode (am_mc 42) 20 = .ok (.aload_n 0, 1) := D42 10 rfl rfl rfl
theorem d42_21 : decode (am_mc 42) 21 = .ok (.aload_n 1, 1) := D42 11 rfl rfl rfl
theorem d42_22 : decode (am_mc 42) 22 = .ok (.invokevirtual 39, 3) := D42 12 rfl rfl rfl
theorem d42_25 : decode (am_mc 42) 25 = .ok (.aload_n 0, 1) := D42 13 rfl rfl rfl
theorem d42_26 : decode (am_mc 42) 26 = .ok (.aload_n 1, 1) := D42 14 rfl rfl rfl
theorem d42_27 : decode (am_mc 42) 27 = .ok (.invokevirtual 43, 3) := D42 15 rfl rfl rfl
theorem d42_30 : decode (am_mc 42) 30 = .ok (.iinc 2 1, 3) := D42 16 rfl rfl rfl
theorem d42_33 : decode (am_mc 42) 33 = .ok (.goto (-27), 3) := D42 17 rfl rfl rfl
theorem d42_36 : decode (am_mc 42) 36 = .ok (.aload_n 0, 1) := D42 18 rfl rfl rfl
theorem d42_37 : decode (am_mc 42) 37 = .ok (.aload_n 0, 1) := D42 19 rfl rfl rfl
theorem d42_38 : decode (am_mc 42) 38 = .ok (.getfield 46, 3) := D42 20 rfl rfl rfl
theorem d42_41 : decode (am_mc 42) 41 = .ok (.ifCond .eq 31, 3) := D42 21 rfl rfl rfl
theorem d42_44 : decode (am_mc 42) 44 = .ok (.aload_n 0, 1) := D42 22 rfl rfl rfl
theorem d42_45 : decode (am_mc 42) 45 = .ok (.getfield 49, 3) := D42 23 rfl rfl rfl
theorem d42_48 : decode (am_mc 42) 48 = .ok (.ifCond .eq 24, 3) := D42 24 rfl rfl rfl
theorem d42_51 : decode (am_mc 42) 51 = .ok (.aload_n 0, 1) := D42 25 rfl rfl rfl
theorem d42_52 : decode (am_mc 42) 52 = .ok (.getfield 52, 3) := D42 26 rfl rfl rfl
theorem d42_55 : decode (am_mc 42) 55 = .ok (.iconst 5, 1) := D42 27 rfl rfl rfl
theorem d42_56 : decode (am_mc 42) 56 = .ok (.if_icmp .gt 16, 3) := D42 28 rfl rfl rfl
theorem d42_59 : decode (am_mc 42) 59 = .ok (.aload_n 0, 1) := D42 29 rfl rfl rfl
theorem d42_60 : decode (am_mc 42) 60 = .ok (.getfield 56, 3) := D42 30 rfl rfl rfl
theorem d42_63 : decode (am_mc 42) 63 = .ok (.bipush 13, 2) := D42 31 rfl rfl rfl
theorem d42_65 : decode (am_mc 42) 65 = .ok (.if_icmp .gt 7, 3) := D42 32 rfl rfl rfl
theorem d42_68 : decode (am_mc 42) 68 = .ok (.iconst 1, 1) := D42 33 rfl rfl rfl
theorem d42_69 : decode (am_mc 42) 69 = .ok (.goto 4, 3) := D42 34 rfl rfl rfl
theorem d42_72 : decode (am_mc 42) 72 = .ok (.iconst 0, 1) := D42 35 rfl rfl rfl
theorem d42_73 : decode (am_mc 42) 73 = .ok (.putfield 49, 3) := D42 36 rfl rfl rfl
theorem d42_76 : decode (am_mc 42) 76 = .ok (.aload_n 0, 1) := D42 37 rfl rfl rfl
theorem d42_77 : decode (am_mc 42) 77 = .ok (.getfield 49, 3) := D42 38 rfl rfl rfl
theorem d42_80 : decode (am_mc 42) 80 = .ok (.ifCond .eq 35, 3) := D42 39 rfl rfl rfl
theorem d42_83 : decode (am_mc 42) 83 = .ok (.iconst 0, 1) := D42 40 rfl rfl rfl
theorem d42_84 : decode (am_mc 42) 84 = .ok (.istore_n 2, 1) := D42 41 rfl rfl rfl
theorem d42_85 : decode (am_mc 42) 85 = .ok (.iload_n 2, 1) := D42 42 rfl rfl rfl
theorem d42_86 : decode (am_mc 42) 86 = .ok (.aload_n 0, 1) := D42 43 rfl rfl rfl
theorem d42_87 : decode (am_mc 42) 87 = .ok (.getfield 52, 3) := D42 44 rfl rfl rfl
theorem d42_90 : decode (am_mc 42) 90 = .ok (.if_icmp .ge 25, 3) := D42 45 rfl rfl rfl
theorem d42_93 : decode (am_mc 42) 93 = .ok (.aload_n 0, 1) := D42 46 rfl rfl rfl
theorem d42_94 : decode (am_mc 42) 94 = .ok (.getfield 28, 3) := D42 47 rfl rfl rfl
theorem d42_97 : decode (am_mc 42) 97 = .ok (.iload_n 2, 1) := D42 48 rfl rfl rfl
theorem d42_98 : decode (am_mc 42) 98 = .ok (.aload_n 0, 1) := D42 49 rfl rfl rfl
theorem d42_99 : decode (am_mc 42) 99 = .ok (.iload_n 2, 1) := D42 50 rfl rfl rfl
theorem d42_100 : decode (am_mc 42) 100 = .ok (.invokevirtual 59, 3) := D42 51 rfl rfl rfl
theorem d42_103 : decode (am_mc 42) 103 = .ok (.iastore, 1) := D42 52 rfl rfl rfl
theorem d42_104 : decode (am_mc 42) 104 = .ok (.aload_n 0, 1) := D42 53 rfl rfl rfl
theorem d42_105 : decode (am_mc 42) 105 = .ok (.iload_n 2, 1) := D42 54 rfl rfl rfl
theorem d42_106 : decode (am_mc 42) 106 = .ok (.invokevirtual 63, 3) := D42 55 rfl rfl rfl
theorem d42_109 : decode (am_mc 42) 109 = .ok (.iinc 2 1, 3) := D42 56 rfl rfl rfl
theorem d42_112 : decode (am_mc 42) 112 = .ok (.goto (-27), 3) := D42 57 rfl rfl rfl
theorem d42_115 : decode (am_mc 42) 115 = .ok (.return_, 1) := D42 58 rfl rfl rfl
theorem ml42 : ∀ n, n < 3 → n < am_ml 42 := fun _ h => h
theorem mo42 : am_mo 42 = 2 := by decide +kernel
theorem rk42 : am_rk 42 = 0 := by decide +kernel
theorem rg42 : am_rcg 42 = 3 := by decide +kernel
theorem m2_32 : tb_m 2 32 = some (13, 1, 0, 0) := by decide +kernel
theorem m2_39 : tb_m 2 39 = some (22, 2, 0, 0) := by decide +kernel
theorem m2_43 : tb_m 2 43 = some (25, 2, 0, 0) := by decide +kernel
theorem m2_59 : tb_m 2 59 = some (37, 2, 1, 0) := by decide +kernel
theorem m2_63 : tb_m 2 63 = some (41, 2, 0, 0) := by decide +kernel
theorem dp42_13 : am_md 13 + 1 ≤ am_md 42 ∧ 8 + (am_ml 13 + 11) + am_lr 13 ≤ am_lr 42 := by decide +kernel
theorem dp42_22 : am_md 22 + 1 ≤ am_md 42 ∧ 8 + (am_ml 22 + 11) + am_lr 22 ≤ am_lr 42 := by decide +kernel
theorem dp42_25 : am_md 25 + 1 ≤ am_md 42 ∧ 8 + (am_ml 25 + 11) + am_lr 25 ≤ am_lr 42 := by decide +kernel
theorem dp42_37 : am_md 37 + 1 ≤ am_md 42 ∧ 8 + (am_ml 37 + 11) + am_lr 37 ≤ am_lr 42 := by decide +kernel
theorem dp42_41 : am_md 41 + 1 ≤ am_md 42 ∧ 8 + (am_ml 41 + 11) + am_lr 41 ≤ am_lr 42 := by decide +kernel
def L42_6 (l0 : Nat) (l1 : Nat) : Nat → Int → am_M → Option ((Int × am_M) ⊕ (Int × am_M))
  | 0, _, _ => none
  | n + 1, l2, μ => (if 400 < l2 then (some (.inr (l2, μ))) else (if μ l0 9 = 0 then (am_op (fn22 l0 l1 μ) (fun z2 => (am_op (fn25 l0 l1 z2.2) (fun z3 => (L42_6 l0 l1 n (w32 (l2 + 1)) z3.2))))) else (some (.inr (l2, μ)))))
theorem w42_6 {X : am_K} {C : am_C} {Q : State → Prop} (hG : am_G X C 42 0 0 (0, fun _ => 0)) (hr : match X with | (_, _, _, _, _, _, _, _, meth, _) => meth.sig.returnType = am_mr 42 ∧ meth.locks = false) (l0 : Nat) (l1 : Nat) : ∀ (n : Nat) (l2 : Int) (μ : am_M) (r : (Int × am_M) ⊕ (Int × am_M)), L42_6 l0 l1 n l2 μ = some r → (∀ q, r = .inl q → Q = am_E X C 42 q.1 q.2) → (∀ t, r = .inr t → am_W X C 42 Q 0 0 36 [(0, .inr (.inr (2, l0)))] [] t.2) → am_W X C 42 Q 0 0 6 [(0, .inr (.inr (2, l0))), (1, .inr (.inr (1, l1))), (2, .inl l2)] [] μ := by
  intro n
  induction n with
  | zero => intro l2 μ r h; cases h
  | succ n ih =>
    intro l2 μ r h hI hX
    unfold L42_6 at h
    exact (am_c_iload_n hG (pc := 6) d42_6 rfl (am_c_sipush hG (pc := 7) d42_7 (by decide) (x_icmp_gt (tgt := 36) hG (pc := 10) d42_10 rfl h (fun h => (am_lvw (lv2 := [(0, .inr (.inr (2, l0)))]) [0] rfl (hX (l2, μ) (Option.some.inj h).symm))) (fun h => (am_c_aload_n hG (pc := 13) d42_13 rfl (x_get_n (v := .inl (μ l0 9)) hG (pc := 14) d42_14 mo42 f2_35 rfl (x_if_ne (tgt := 36) hG (pc := 17) d42_17 rfl h (fun h => (am_lvw (lv2 := [(0, .inr (.inr (2, l0)))]) [0] rfl (hX (l2, μ) (Option.some.inj h).symm))) (fun h => (am_c_aload_n hG (pc := 20) d42_20 rfl (am_c_aload_n hG (pc := 21) d42_21 rfl (x_virtual_v (t := 2) (o := l0) (as2 := [.inr (.inr (1, l1))]) (rest := []) hG (pc := 22) d42_22 mo42 m2_39 (by decide) dp42_22 rfl rfl (Nat.le_of_ble_eq_true rfl) (Nat.le_of_ble_eq_true rfl) rg22 sd22 (e22 _ _ _) h (fun z2 h => (am_c_aload_n hG (pc := 25) d42_25 rfl (am_c_aload_n hG (pc := 26) d42_26 rfl (x_virtual_v (t := 2) (o := l0) (as2 := [.inr (.inr (1, l1))]) (rest := []) hG (pc := 27) d42_27 mo42 m2_43 (by decide) dp42_25 rfl rfl (Nat.le_of_ble_eq_true rfl) (Nat.le_of_ble_eq_true rfl) rg25 sd25 (e25 _ _ _) h (fun z3 h => (x_iinc (lv' := [(2, .inl (w32 (l2 + 1))), (0, .inr (.inr (2, l0))), (1, .inr (.inr (1, l1)))]) hG (pc := 30) d42_30 rfl (ml42 _ (by decide)) rfl (x_goto (tgt := 6) hG (pc := 33) d42_33 rfl (am_lvw (lv2 := [(0, .inr (.inr (2, l0))), (1, .inr (.inr (1, l1))), (2, .inl (w32 (l2 + 1)))]) [1, 2, 0] rfl (ih _ _ _ h hI hX))))))))))))))))))))
def L42_85 (l0 : Nat) : Nat → Int → am_M → Option ((Int × am_M) ⊕ (Int × am_M))
  | 0, _, _ => none
  | n + 1, l2, μ => (if l2 < μ l0 5 then (am_op (fn37 l0 l2 μ) (fun z4 => (if (0 : Int) ≤ l2 ∧ l2 < ((am_len (am_ref l0 3) : Nat) : Int) then (am_op (fn41 l0 l2 (am_up z4.2 (am_ref l0 3) (l2 : Int).toNat z4.1)) (fun z5 => (L42_85 l0 n (w32 (l2 + 1)) z5.2))) else none))) else (some (.inr (l2, μ))))
theorem w42_85 {X : am_K} {C : am_C} {Q : State → Prop} (hG : am_G X C 42 0 0 (0, fun _ => 0)) (hr : match X with | (_, _, _, _, _, _, _, _, meth, _) => meth.sig.returnType = am_mr 42 ∧ meth.locks = false) (l0 : Nat) : ∀ (n : Nat) (l2 : Int) (μ : am_M) (r : (Int × am_M) ⊕ (Int × am_M)), L42_85 l0 n l2 μ = some r → (∀ q, r = .inl q → Q = am_E X C 42 q.1 q.2) → (∀ t, r = .inr t → am_W X C 42 Q 0 0 115 [] [] t.2) → am_W X C 42 Q 0 0 85 [(0, .inr (.inr (2, l0))), (2, .inl l2)] [] μ := by
  intro n
  induction n with
  | zero => intro l2 μ r h; cases h
  | succ n ih =>
    intro l2 μ r h hI hX
    unfold L42_85 at h
    exact (am_c_iload_n hG (pc := 85) d42_85 rfl (am_c_aload_n hG (pc := 86) d42_86 rfl (x_get_n (v := .inl (μ l0 5)) hG (pc := 87) d42_87 mo42 f2_52 rfl (x_icmp_ge (tgt := 115) hG (pc := 90) d42_90 rfl h (fun h => (am_lvw (lv2 := []) [] rfl (hX (l2, μ) (Option.some.inj h).symm))) (fun h => (am_c_aload_n hG (pc := 93) d42_93 rfl (x_get_n (v := .inr (.inr (16, am_ref l0 3))) hG (pc := 94) d42_94 mo42 f2_28 rfl (am_c_iload_n hG (pc := 97) d42_97 rfl (am_c_aload_n hG (pc := 98) d42_98 rfl (am_c_iload_n hG (pc := 99) d42_99 rfl (x_virtual_i (t := 2) (o := l0) (as2 := [.inl l2]) (rest := [.inl l2, .inr (.inr (16, am_ref l0 3))]) hG (pc := 100) d42_100 mo42 m2_59 (by decide) dp42_37 rfl rfl (Nat.le_of_ble_eq_true rfl) (Nat.le_of_ble_eq_true rfl) rg37 sd37 (e37 _ _ _) h (fun z4 h => (x_iastore hG (pc := 103) d42_103 h (fun h => (am_c_aload_n hG (pc := 104) d42_104 rfl (am_c_iload_n hG (pc := 105) d42_105 rfl (x_virtual_v (t := 2) (o := l0) (as2 := [.inl l2]) (rest := []) hG (pc := 106) d42_106 mo42 m2_63 (by decide) dp42_41 rfl rfl (Nat.le_of_ble_eq_true rfl) (Nat.le_of_ble_eq_true rfl) rg41 sd41 (e41 _ _ _) h (fun z5 h => (x_iinc (lv' := [(2, .inl (w32 (l2 + 1))), (0, .inr (.inr (2, l0)))]) hG (pc := 109) d42_109 rfl (ml42 _ (by decide)) rfl (x_goto (tgt := 85) hG (pc := 112) d42_112 rfl (am_lvw (lv2 := [(0, .inr (.inr (2, l0))), (2, .inl (w32 (l2 + 1)))]) [1, 0] rfl (ih _ _ _ h hI hX))))))))))))))))))))))
def fn42 (o : Nat) (a : Nat) (μ : am_M) : Option (Int × am_M) := (am_op (fn13 o μ) (fun z1 => (am_op (L42_6 o a am_fuel 0 z1.2) (fun s => am_lp s (fun q1 => some q1) (fun t1 => (if t1.2 o 10 = 0 then (if (am_up t1.2 o 11 0) o 11 = 0 then some (0, am_up t1.2 o 11 0) else (am_op (L42_85 o am_fuel 0 (am_up t1.2 o 11 0)) (fun s => am_lp s (fun q2 => some q2) (fun t2 => some (0, t2.2))))) else (if t1.2 o 11 = 0 then (if (am_up t1.2 o 11 0) o 11 = 0 then some (0, am_up t1.2 o 11 0) else (am_op (L42_85 o am_fuel 0 (am_up t1.2 o 11 0)) (fun s => am_lp s (fun q3 => some q3) (fun t3 => some (0, t3.2))))) else (if 5 < t1.2 o 5 then (if (am_up t1.2 o 11 0) o 11 = 0 then some (0, am_up t1.2 o 11 0) else (am_op (L42_85 o am_fuel 0 (am_up t1.2 o 11 0)) (fun s => am_lp s (fun q4 => some q4) (fun t4 => some (0, t4.2))))) else (if 13 < t1.2 o 6 then (if (am_up t1.2 o 11 0) o 11 = 0 then some (0, am_up t1.2 o 11 0) else (am_op (L42_85 o am_fuel 0 (am_up t1.2 o 11 0)) (fun s => am_lp s (fun q5 => some q5) (fun t5 => some (0, t5.2))))) else (if (am_up t1.2 o 11 1) o 11 = 0 then some (0, am_up t1.2 o 11 1) else (am_op (L42_85 o am_fuel 0 (am_up t1.2 o 11 1)) (fun s => am_lp s (fun q6 => some q6) (fun t6 => some (0, t6.2))))))))))))))
def sp42 : am_F := fun vs μ => am_aR 2 vs fun o vs => am_aR 1 vs fun a vs => am_a0 vs (fn42 o a μ)
theorem e42 (o : Nat) (a : Nat) (μ : am_M) : sp42 [.inr (.inr (2, o)), .inr (.inr (1, a))] μ = fn42 o a μ := am_aR_c.trans (am_aR_c.trans am_a0_c)
theorem sd42 : am_Sd 42 sp42 := by
  refine am_Sd_of (by decide) (fun vs μ μ' x h hv hM => ?_)
  obtain ⟨o, vs0, rfl, h0⟩ := am_aR_s h
  obtain ⟨a, vs1, rfl, h1⟩ := am_aR_s h0
  obtain ⟨rfl, hz⟩ := am_a0_s h1
  refine ⟨Nat.le_of_ble_eq_true rfl, fun X C hG hr => ?_⟩
  have h := hz
  unfold fn42 at h
  exact (show am_W X C 42 _ 0 0 0 [(0, .inr (.inr (2, o))), (1, .inr (.inr (1, a)))] [] μ from (am_c_aload_n hG (pc := 0) d42_0 rfl (x_virtual_v (t := 2) (o := o) (as2 := []) (rest := []) hG (pc := 1) d42_1 mo42 m2_32 (by decide) dp42_13 rfl rfl (Nat.le_of_ble_eq_true rfl) (Nat.le_of_ble_eq_true rfl) rg13 sd13 (e13 _ _) h (fun z1 h => (am_c_iconst hG (pc := 4) d42_4 (by decide) (x_istore_n (lv' := [(2, .inl 0), (0, .inr (.inr (2, o))), (1, .inr (.inr (1, a)))]) hG (pc := 5) d42_5 (ml42 _ (by decide)) rfl (x_lp h (fun r h1 h2 => (am_lvw (lv2 := [(0, .inr (.inr (2, o))), (1, .inr (.inr (1, a))), (2, .inl 0)]) [1, 2, 0] rfl (w42_6 hG hr _ _ _ _ _ _ h1 (fun q1 e => am_q1 e h2 (fun h => am_q0 h)) (fun t1 e => am_q2 e h2 (fun h => (am_c_aload_n hG (pc := 36) d42_36 rfl (am_c_aload_n hG (pc := 37) d42_37 rfl (x_get_n (v := .inl (t1.2 o 10)) hG (pc := 38) d42_38 mo42 f2_46 rfl (x_if_eq (tgt := 72) hG (pc := 41) d42_41 rfl h (fun h => (am_c_iconst hG (pc := 72) d42_72 (by decide) (x_put_0 hG (pc := 73) d42_73 mo42 f2_49 (by decide) (am_c_aload_n hG (pc := 76) d42_76 rfl (x_get_n (v := .inl ((am_up t1.2 o 11 0) o 11)) hG (pc := 77) d42_77 mo42 f2_49 rfl (x_if_eq (tgt := 115) hG (pc := 80) d42_80 rfl h (fun h => (xq_vret hG (by decide) hr (pc := 115) d42_115 rk42 (am_q0 h))) (fun h => (am_c_iconst hG (pc := 83) d42_83 (by decide) (x_istore_n (lv' := [(2, .inl 0), (0, .inr (.inr (2, o)))]) hG (pc := 84) d42_84 (ml42 _ (by decide)) rfl (x_lp h (fun r h1 h2 => (am_lvw (lv2 := [(0, .inr (.inr (2, o))), (2, .inl 0)]) [1, 0] rfl (w42_85 hG hr _ _ _ _ _ h1 (fun q2 e => am_q1 e h2 (fun h => am_q0 h)) (fun t2 e => am_q2 e h2 (fun h => (xq_vret hG (by decide) hr (pc := 115) d42_115 rk42 (am_q0 h))))))))))))))))) (fun h => (am_c_aload_n hG (pc := 44) d42_44 rfl (x_get_n (v := .inl (t1.2 o 11)) hG (pc := 45) d42_45 mo42 f2_49 rfl (x_if_eq (tgt := 72) hG (pc := 48) d42_48 rfl h (fun h => (am_c_iconst hG (pc := 72) d42_72 (by decide) (x_put_0 hG (pc := 73) d42_73 mo42 f2_49 (by decide) (am_c_aload_n hG (pc := 76) d42_76 rfl (x_get_n (v := .inl ((am_up t1.2 o 11 0) o 11)) hG (pc := 77) d42_77 mo42 f2_49 rfl (x_if_eq (tgt := 115) hG (pc := 80) d42_80 rfl h (fun h => (xq_vret hG (by decide) hr (pc := 115) d42_115 rk42 (am_q0 h))) (fun h => (am_c_iconst hG (pc := 83) d42_83 (by decide) (x_istore_n (lv' := [(2, .inl 0), (0, .inr (.inr (2, o)))]) hG (pc := 84) d42_84 (ml42 _ (by decide)) rfl (x_lp h (fun r h1 h2 => (am_lvw (lv2 := [(0, .inr (.inr (2, o))), (2, .inl 0)]) [1, 0] rfl (w42_85 hG hr _ _ _ _ _ h1 (fun q3 e => am_q1 e h2 (fun h => am_q0 h)) (fun t3 e => am_q2 e h2 (fun h => (xq_vret hG (by decide) hr (pc := 115) d42_115 rk42 (am_q0 h))))))))))))))))) (fun h => (am_c_aload_n hG (pc := 51) d42_51 rfl (x_get_n (v := .inl (t1.2 o 5)) hG (pc := 52) d42_52 mo42 f2_52 rfl (am_c_iconst hG (pc := 55) d42_55 (by decide) (x_icmp_gt (tgt := 72) hG (pc := 56) d42_56 rfl h (fun h => (am_c_iconst hG (pc := 72) d42_72 (by decide) (x_put_0 hG (pc := 73) d42_73 mo42 f2_49 (by decide) (am_c_aload_n hG (pc := 76) d42_76 rfl (x_get_n (v := .inl ((am_up t1.2 o 11 0) o 11)) hG (pc := 77) d42_77 mo42 f2_49 rfl (x_if_eq (tgt := 115) hG (pc := 80) d42_80 rfl h (fun h => (xq_vret hG (by decide) hr (pc := 115) d42_115 rk42 (am_q0 h))) (fun h => (am_c_iconst hG (pc := 83) d42_83 (by decide) (x_istore_n (lv' := [(2, .inl 0), (0, .inr (.inr (2, o)))]) hG (pc := 84) d42_84 (ml42 _ (by decide)) rfl (x_lp h (fun r h1 h2 => (am_lvw (lv2 := [(0, .inr (.inr (2, o))), (2, .inl 0)]) [1, 0] rfl (w42_85 hG hr _ _ _ _ _ h1 (fun q4 e => am_q1 e h2 (fun h => am_q0 h)) (fun t4 e => am_q2 e h2 (fun h => (xq_vret hG (by decide) hr (pc := 115) d42_115 rk42 (am_q0 h))))))))))))))))) (fun h => (am_c_aload_n hG (pc := 59) d42_59 rfl (x_get_n (v := .inl (t1.2 o 6)) hG (pc := 60) d42_60 mo42 f2_56 rfl (am_c_bipush hG (pc := 63) d42_63 (by decide) (x_icmp_gt (tgt := 72) hG (pc := 65) d42_65 rfl h (fun h => (am_c_iconst hG (pc := 72) d42_72 (by decide) (x_put_0 hG (pc := 73) d42_73 mo42 f2_49 (by decide) (am_c_aload_n hG (pc := 76) d42_76 rfl (x_get_n (v := .inl ((am_up t1.2 o 11 0) o 11)) hG (pc := 77) d42_77 mo42 f2_49 rfl (x_if_eq (tgt := 115) hG (pc := 80) d42_80 rfl h (fun h => (xq_vret hG (by decide) hr (pc := 115) d42_115 rk42 (am_q0 h))) (fun h => (am_c_iconst hG (pc := 83) d42_83 (by decide) (x_istore_n (lv' := [(2, .inl 0), (0, .inr (.inr (2, o)))]) hG (pc := 84) d42_84 (ml42 _ (by decide)) rfl (x_lp h (fun r h1 h2 => (am_lvw (lv2 := [(0, .inr (.inr (2, o))), (2, .inl 0)]) [1, 0] rfl (w42_85 hG hr _ _ _ _ _ h1 (fun q5 e => am_q1 e h2 (fun h => am_q0 h)) (fun t5 e => am_q2 e h2 (fun h => (xq_vret hG (by decide) hr (pc := 115) d42_115 rk42 (am_q0 h))))))))))))))))) (fun h => (am_c_iconst hG (pc := 68) d42_68 (by decide) (x_goto (tgt := 73) hG (pc := 69) d42_69 rfl (x_put_1 hG (pc := 73) d42_73 mo42 f2_49 (by decide) (am_c_aload_n hG (pc := 76) d42_76 rfl (x_get_n (v := .inl ((am_up t1.2 o 11 1) o 11)) hG (pc := 77) d42_77 mo42 f2_49 rfl (x_if_eq (tgt := 115) hG (pc := 80) d42_80 rfl h (fun h => (xq_vret hG (by decide) hr (pc := 115) d42_115 rk42 (am_q0 h))) (fun h => (am_c_iconst hG (pc := 83) d42_83 (by decide) (x_istore_n (lv' := [(2, .inl 0), (0, .inr (.inr (2, o)))]) hG (pc := 84) d42_84 (ml42 _ (by decide)) rfl (x_lp h (fun r h1 h2 => (am_lvw (lv2 := [(0, .inr (.inr (2, o))), (2, .inl 0)]) [1, 0] rfl (w42_85 hG hr _ _ _ _ _ h1 (fun q6 e => am_q1 e h2 (fun h => am_q0 h)) (fun t6 e => am_q2 e h2 (fun h => (xq_vret hG (by decide) hr (pc := 115) d42_115 rk42 (am_q0 h))))))))))))))))))))))))))))))))))))))))))))))))
/-! ChartPress$Table.isWithinLimits()Z -/
theorem D43 (k : Nat) {pc : Nat} {i : Instr} (h : tbi43[k]? = some (pc, i)) (hs : am_isw i = false) {n : Nat} (hn : am_il i = n) : decode (am_mc 43) pc = .ok (i, n) := am_d2 (by decide) (by decide) rfl h hs hn
theorem d43_0 : decode (am_mc 43) 0 = .ok (.aload_n 0, 1) := D43 0 rfl rfl rfl
theorem d43_1 : decode (am_mc 43) 1 = .ok (.getfield 49, 3) := D43 1 rfl rfl rfl
theorem d43_4 : decode (am_mc 43) 4 = .ok (.ireturn, 1) := D43 2 rfl rfl rfl
theorem ml43 : ∀ n, n < 1 → n < am_ml 43 := fun _ h => h
theorem mo43 : am_mo 43 = 2 := by decide +kernel
theorem mr43 : am_mr 43 = some .boolean := by decide +kernel
theorem rg43 : am_rcg 43 = 3 := by decide +kernel
def fn43 (o : Nat) (μ : am_M) : Option (Int × am_M) := (if μ o 11 = 0 ∨ μ o 11 = 1 then some (μ o 11, μ) else none)
def sp43 : am_F := fun vs μ => am_aR 2 vs fun o vs => am_a0 vs (fn43 o μ)
theorem e43 (o : Nat) (μ : am_M) : sp43 [.inr (.inr (2, o))] μ = fn43 o μ := am_aR_c.trans am_a0_c
theorem sd43 : am_Sd 43 sp43 := by
  refine am_Sd_of (by decide) (fun vs μ μ' x h hv hM => ?_)
  obtain ⟨o, vs0, rfl, h0⟩ := am_aR_s h
  obtain ⟨rfl, hz⟩ := am_a0_s h0
  refine ⟨Nat.le_of_ble_eq_true rfl, fun X C hG hr => ?_⟩
  have h := hz
  unfold fn43 at h
  exact (show am_W X C 43 _ 0 0 0 [(0, .inr (.inr (2, o)))] [] μ from (am_c_aload_n hG (pc := 0) d43_0 rfl (x_get_n (v := .inl (μ o 11)) hG (pc := 1) d43_1 mo43 f2_49 rfl (xq_zret hG (by decide) hr (pc := 4) d43_4 mr43 h (fun h => (am_q0 h))))))
/-! ChartPress$Table.columns()I -/
theorem D44 (k : Nat) {pc : Nat} {i : Instr} (h : tbi44[k]? = some (pc, i)) (hs : am_isw i = false) {n : Nat} (hn : am_il i = n) : decode (am_mc 44) pc = .ok (i, n) := am_d2 (by decide) (by decide) rfl h hs hn
theorem d44_0 : decode (am_mc 44) 0 = .ok (.aload_n 0, 1) := D44 0 rfl rfl rfl
theorem d44_1 : decode (am_mc 44) 1 = .ok (.getfield 52, 3) := D44 1 rfl rfl rfl
theorem d44_4 : decode (am_mc 44) 4 = .ok (.ireturn, 1) := D44 2 rfl rfl rfl
theorem ml44 : ∀ n, n < 1 → n < am_ml 44 := fun _ h => h
theorem mo44 : am_mo 44 = 2 := by decide +kernel
theorem mr44 : am_mr 44 = some .int := by decide +kernel
theorem rg44 : am_rcg 44 = 3 := by decide +kernel
def fn44 (o : Nat) (μ : am_M) : Option (Int × am_M) := some (μ o 5, μ)
def sp44 : am_F := fun vs μ => am_aR 2 vs fun o vs => am_a0 vs (fn44 o μ)
theorem e44 (o : Nat) (μ : am_M) : sp44 [.inr (.inr (2, o))] μ = fn44 o μ := am_aR_c.trans am_a0_c
theorem sd44 : am_Sd 44 sp44 := by
  refine am_Sd_of (by decide) (fun vs μ μ' x h hv hM => ?_)
  obtain ⟨o, vs0, rfl, h0⟩ := am_aR_s h
  obtain ⟨rfl, hz⟩ := am_a0_s h0
  refine ⟨Nat.le_of_ble_eq_true rfl, fun X C hG hr => ?_⟩
  have h := hz
  unfold fn44 at h
  exact (show am_W X C 44 _ 0 0 0 [(0, .inr (.inr (2, o)))] [] μ from (am_c_aload_n hG (pc := 0) d44_0 rfl (x_get_n (v := .inl (μ o 5)) hG (pc := 1) d44_1 mo44 f2_52 rfl (xq_iret hG (by decide) hr (pc := 4) d44_4 mr44 (am_q0 h)))))
/-! ChartPress$Table.typeOf(I)I -/
theorem D45 (k : Nat) {pc : Nat} {i : Instr} (h : tbi45[k]? = some (pc, i)) (hs : am_isw i = false) {n : Nat} (hn : am_il i = n) : decode (am_mc 45) pc = .ok (i, n) := am_d2 (by decide) (by decide) rfl h hs hn
theorem d45_0 : decode (am_mc 45) 0 = .ok (.iload_n 1, 1) := D45 0 rfl rfl rfl
theorem d45_1 : decode (am_mc 45) 1 = .ok (.ifCond .lt 21, 3) := D45 1 rfl rfl rfl
theorem d45_4 : decode (am_mc 45) 4 = .ok (.iload_n 1, 1) := D45 2 rfl rfl rfl
theorem d45_5 : decode (am_mc 45) 5 = .ok (.aload_n 0, 1) := D45 3 rfl rfl rfl
theorem d45_6 : decode (am_mc 45) 6 = .ok (.getfield 28, 3) := D45 4 rfl rfl rfl
theorem d45_9 : decode (am_mc 45) 9 = .ok (.arraylength, 1) := D45 5 rfl rfl rfl
theorem d45_10 : decode (am_mc 45) 10 = .ok (.if_icmp .ge 12, 3) := D45 6 rfl rfl rfl
theorem d45_13 : decode (am_mc 45) 13 = .ok (.aload_n 0, 1) := D45 7 rfl rfl rfl
theorem d45_14 : decode (am_mc 45) 14 = .ok (.getfield 28, 3) := D45 8 rfl rfl rfl
theorem d45_17 : decode (am_mc 45) 17 = .ok (.iload_n 1, 1) := D45 9 rfl rfl rfl
theorem d45_18 : decode (am_mc 45) 18 = .ok (.iaload, 1) := D45 10 rfl rfl rfl
theorem d45_19 : decode (am_mc 45) 19 = .ok (.goto 4, 3) := D45 11 rfl rfl rfl
theorem d45_22 : decode (am_mc 45) 22 = .ok (.iconst 0, 1) := D45 12 rfl rfl rfl
theorem d45_23 : decode (am_mc 45) 23 = .ok (.ireturn, 1) := D45 13 rfl rfl rfl
theorem ml45 : ∀ n, n < 2 → n < am_ml 45 := fun _ h => h
theorem mo45 : am_mo 45 = 2 := by decide +kernel
theorem mr45 : am_mr 45 = some .int := by decide +kernel
theorem rg45 : am_rcg 45 = 3 := by decide +kernel
def fn45 (o : Nat) (a : Int) (μ : am_M) : Option (Int × am_M) := (if a < 0 then some (0, μ) else (if a < ((am_len (am_ref o 3) : Nat) : Int) then (if (0 : Int) ≤ a ∧ a < ((am_len (am_ref o 3) : Nat) : Int) then some (μ (am_ref o 3) (a : Int).toNat, μ) else none) else some (0, μ)))
def sp45 : am_F := fun vs μ => am_aR 2 vs fun o vs => am_aI vs fun a vs => am_a0 vs (fn45 o a μ)
theorem e45 (o : Nat) (a : Int) (μ : am_M) : sp45 [.inr (.inr (2, o)), .inl a] μ = fn45 o a μ := am_aR_c.trans (am_aI_c.trans am_a0_c)
theorem sd45 : am_Sd 45 sp45 := by
  refine am_Sd_of (by decide) (fun vs μ μ' x h hv hM => ?_)
  obtain ⟨o, vs0, rfl, h0⟩ := am_aR_s h
  obtain ⟨a, vs1, rfl, h1⟩ := am_aI_s h0
  obtain ⟨rfl, hz⟩ := am_a0_s h1
  refine ⟨Nat.le_of_ble_eq_true rfl, fun X C hG hr => ?_⟩
  have h := hz
  unfold fn45 at h
  exact (show am_W X C 45 _ 0 0 0 [(0, .inr (.inr (2, o))), (1, .inl a)] [] μ from (am_c_iload_n hG (pc := 0) d45_0 rfl (x_if_lt (tgt := 22) hG (pc := 1) d45_1 rfl h (fun h => (am_c_iconst hG (pc := 22) d45_22 (by decide) (xq_iret hG (by decide) hr (pc := 23) d45_23 mr45 (am_q0 h)))) (fun h => (am_c_iload_n hG (pc := 4) d45_4 rfl (am_c_aload_n hG (pc := 5) d45_5 rfl (x_get_n (v := .inr (.inr (16, am_ref o 3))) hG (pc := 6) d45_6 mo45 f2_28 rfl (am_c_len hG (pc := 9) d45_9 (by decide) (x_icmp_ge (tgt := 22) hG (pc := 10) d45_10 rfl h (fun h => (am_c_iconst hG (pc := 22) d45_22 (by decide) (xq_iret hG (by decide) hr (pc := 23) d45_23 mr45 (am_q0 h)))) (fun h => (am_c_aload_n hG (pc := 13) d45_13 rfl (x_get_n (v := .inr (.inr (16, am_ref o 3))) hG (pc := 14) d45_14 mo45 f2_28 rfl (am_c_iload_n hG (pc := 17) d45_17 rfl (x_iaload hG (pc := 18) d45_18 h (fun h => (x_goto (tgt := 23) hG (pc := 19) d45_19 rfl (xq_iret hG (by decide) hr (pc := 23) d45_23 mr45 (am_q0 h))))))))))))))))))
/-! ChartPress.column(I)I -/
theorem D46 (k : Nat) {pc : Nat} {i : Instr} (h : tbi46[k]? = some (pc, i)) (hs : am_isw i = false) {n : Nat} (hn : am_il i = n) : decode (am_mc 46) pc = .ok (i, n) := am_d2 (by decide) (by decide) rfl h hs hn
theorem d46_0 : decode (am_mc 46) 0 = .ok (.aload_n 0, 1) := D46 0 rfl rfl rfl
theorem d46_1 : decode (am_mc 46) 1 = .ok (.getfield 24, 3) := D46 1 rfl rfl rfl
theorem d46_4 : decode (am_mc 46) 4 = .ok (.aload_n 0, 1) := D46 2 rfl rfl rfl
theorem d46_5 : decode (am_mc 46) 5 = .ok (.getfield 14, 3) := D46 3 rfl rfl rfl
theorem d46_8 : decode (am_mc 46) 8 = .ok (.invokevirtual 94, 3) := D46 4 rfl rfl rfl
theorem d46_11 : decode (am_mc 46) 11 = .ok (.aload_n 0, 1) := D46 5 rfl rfl rfl
theorem d46_12 : decode (am_mc 46) 12 = .ok (.getfield 24, 3) := D46 6 rfl rfl rfl
theorem d46_15 : decode (am_mc 46) 15 = .ok (.invokevirtual 109, 3) := D46 7 rfl rfl rfl
theorem d46_18 : decode (am_mc 46) 18 = .ok (.ifCond .eq 29, 3) := D46 8 rfl rfl rfl
theorem d46_21 : decode (am_mc 46) 21 = .ok (.iload_n 1, 1) := D46 9 rfl rfl rfl
theorem d46_22 : decode (am_mc 46) 22 = .ok (.ifCond .lt 25, 3) := D46 10 rfl rfl rfl
theorem d46_25 : decode (am_mc 46) 25 = .ok (.iload_n 1, 1) := D46 11 rfl rfl rfl
theorem d46_26 : decode (am_mc 46) 26 = .ok (.aload_n 0, 1) := D46 12 rfl rfl rfl
theorem d46_27 : decode (am_mc 46) 27 = .ok (.getfield 24, 3) := D46 13 rfl rfl rfl
theorem d46_30 : decode (am_mc 46) 30 = .ok (.invokevirtual 166, 3) := D46 14 rfl rfl rfl
theorem d46_33 : decode (am_mc 46) 33 = .ok (.if_icmp .ge 14, 3) := D46 15 rfl rfl rfl
theorem d46_36 : decode (am_mc 46) 36 = .ok (.aload_n 0, 1) := D46 16 rfl rfl rfl
theorem d46_37 : decode (am_mc 46) 37 = .ok (.getfield 24, 3) := D46 17 rfl rfl rfl
theorem d46_40 : decode (am_mc 46) 40 = .ok (.iload_n 1, 1) := D46 18 rfl rfl rfl
theorem d46_41 : decode (am_mc 46) 41 = .ok (.invokevirtual 169, 3) := D46 19 rfl rfl rfl
theorem d46_44 : decode (am_mc 46) 44 = .ok (.goto 4, 3) := D46 20 rfl rfl rfl
theorem d46_47 : decode (am_mc 46) 47 = .ok (.iconst 0, 1) := D46 21 rfl rfl rfl
theorem d46_48 : decode (am_mc 46) 48 = .ok (.ireturn, 1) := D46 22 rfl rfl rfl
theorem ml46 : ∀ n, n < 2 → n < am_ml 46 := fun _ h => h
theorem mo46 : am_mo 46 = 0 := by decide +kernel
theorem mr46 : am_mr 46 = some .int := by decide +kernel
theorem rg46 : am_rcg 46 = 1 := by decide +kernel
theorem f0_24 : tb_f 0 24 = some (0, 2, 5, 2) := by decide +kernel
theorem m0_94 : tb_m 0 94 = some (42, 2, 0, 0) := by decide +kernel
theorem m0_109 : tb_m 0 109 = some (43, 1, 1, 0) := by decide +kernel
theorem m0_166 : tb_m 0 166 = some (44, 1, 1, 0) := by decide +kernel
theorem m0_169 : tb_m 0 169 = some (45, 2, 1, 0) := by decide +kernel
theorem dp46_42 : am_md 42 + 1 ≤ am_md 46 ∧ 8 + (am_ml 42 + 11) + am_lr 42 ≤ am_lr 46 := by decide +kernel
theorem dp46_43 : am_md 43 + 1 ≤ am_md 46 ∧ 8 + (am_ml 43 + 11) + am_lr 43 ≤ am_lr 46 := by decide +kernel
theorem dp46_44 : am_md 44 + 1 ≤ am_md 46 ∧ 8 + (am_ml 44 + 11) + am_lr 44 ≤ am_lr 46 := by decide +kernel
theorem dp46_45 : am_md 45 + 1 ≤ am_md 46 ∧ 8 + (am_ml 45 + 11) + am_lr 45 ≤ am_lr 46 := by decide +kernel
def fn46 (o : Nat) (a : Int) (μ : am_M) : Option (Int × am_M) := (am_op (fn42 (am_ref o 2) (am_ref o 0) μ) (fun z1 => (am_op (fn43 (am_ref o 2) z1.2) (fun z2 => (if z2.1 = 0 then some (0, z2.2) else (if a < 0 then some (0, z2.2) else (am_op (fn44 (am_ref o 2) z2.2) (fun z3 => (if a < z3.1 then (am_op (fn45 (am_ref o 2) a z3.2) (fun z4 => some (z4.1, z4.2))) else some (0, z3.2))))))))))
def sp46 : am_F := fun vs μ => am_aR 0 vs fun o vs => am_aI vs fun a vs => am_a0 vs (fn46 o a μ)
theorem e46 (o : Nat) (a : Int) (μ : am_M) : sp46 [.inr (.inr (0, o)), .inl a] μ = fn46 o a μ := am_aR_c.trans (am_aI_c.trans am_a0_c)
theorem sd46 : am_Sd 46 sp46 := by
  refine am_Sd_of (by decide) (fun vs μ μ' x h hv hM => ?_)
  obtain ⟨o, vs0, rfl, h0⟩ := am_aR_s h
  obtain ⟨a, vs1, rfl, h1⟩ := am_aI_s h0
  obtain ⟨rfl, hz⟩ := am_a0_s h1
  refine ⟨Nat.le_of_ble_eq_true rfl, fun X C hG hr => ?_⟩
  have h := hz
  unfold fn46 at h
  exact (show am_W X C 46 _ 0 0 0 [(0, .inr (.inr (0, o))), (1, .inl a)] [] μ from (am_c_aload_n hG (pc := 0) d46_0 rfl (x_get_n (v := .inr (.inr (2, am_ref o 2))) hG (pc := 1) d46_1 mo46 f0_24 rfl (am_c_aload_n hG (pc := 4) d46_4 rfl (x_get_n (v := .inr (.inr (1, am_ref o 0))) hG (pc := 5) d46_5 mo46 f0_14 rfl (x_virtual_v (t := 2) (o := am_ref o 2) (as2 := [.inr (.inr (1, am_ref o 0))]) (rest := []) hG (pc := 8) d46_8 mo46 m0_94 (by decide) dp46_42 rfl rfl (Nat.le_of_ble_eq_true rfl) (Nat.le_of_ble_eq_true rfl) rg42 sd42 (e42 _ _ _) h (fun z1 h => (am_c_aload_n hG (pc := 11) d46_11 rfl (x_get_n (v := .inr (.inr (2, am_ref o 2))) hG (pc := 12) d46_12 mo46 f0_24 rfl (x_virtual_i (t := 2) (o := am_ref o 2) (as2 := []) (rest := []) hG (pc := 15) d46_15 mo46 m0_109 (by decide) dp46_43 rfl rfl (Nat.le_of_ble_eq_true rfl) (Nat.le_of_ble_eq_true rfl) rg43 sd43 (e43 _ _) h (fun z2 h => (x_if_eq (tgt := 47) hG (pc := 18) d46_18 rfl h (fun h => (am_c_iconst hG (pc := 47) d46_47 (by decide) (xq_iret hG (by decide) hr (pc := 48) d46_48 mr46 (am_q0 h)))) (fun h => (am_c_iload_n hG (pc := 21) d46_21 rfl (x_if_lt (tgt := 47) hG (pc := 22) d46_22 rfl h (fun h => (am_c_iconst hG (pc := 47) d46_47 (by decide) (xq_iret hG (by decide) hr (pc := 48) d46_48 mr46 (am_q0 h)))) (fun h => (am_c_iload_n hG (pc := 25) d46_25 rfl (am_c_aload_n hG (pc := 26) d46_26 rfl (x_get_n (v := .inr (.inr (2, am_ref o 2))) hG (pc := 27) d46_27 mo46 f0_24 rfl (x_virtual_i (t := 2) (o := am_ref o 2) (as2 := []) (rest := [.inl a]) hG (pc := 30) d46_30 mo46 m0_166 (by decide) dp46_44 rfl rfl (Nat.le_of_ble_eq_true rfl) (Nat.le_of_ble_eq_true rfl) rg44 sd44 (e44 _ _) h (fun z3 h => (x_icmp_ge (tgt := 47) hG (pc := 33) d46_33 rfl h (fun h => (am_c_iconst hG (pc := 47) d46_47 (by decide) (xq_iret hG (by decide) hr (pc := 48) d46_48 mr46 (am_q0 h)))) (fun h => (am_c_aload_n hG (pc := 36) d46_36 rfl (x_get_n (v := .inr (.inr (2, am_ref o 2))) hG (pc := 37) d46_37 mo46 f0_24 rfl (am_c_iload_n hG (pc := 40) d46_40 rfl (x_virtual_i (t := 2) (o := am_ref o 2) (as2 := [.inl a]) (rest := []) hG (pc := 41) d46_41 mo46 m0_169 (by decide) dp46_45 rfl rfl (Nat.le_of_ble_eq_true rfl) (Nat.le_of_ble_eq_true rfl) rg45 sd45 (e45 _ _ _) h (fun z4 h => (x_goto (tgt := 48) hG (pc := 44) d46_44 rfl (xq_iret hG (by decide) hr (pc := 48) d46_48 mr46 (am_q0 h)))))))))))))))))))))))))))))))
/-! ChartPress.value(I)J -/
theorem D47 (k : Nat) {pc : Nat} {i : Instr} (h : tbi47[k]? = some (pc, i)) (hs : am_isw i = false) {n : Nat} (hn : am_il i = n) : decode (am_mc 47) pc = .ok (i, n) := am_d2 (by decide) (by decide) rfl h hs hn
theorem d47_0 : decode (am_mc 47) 0 = .ok (.aload_n 0, 1) := D47 0 rfl rfl rfl
theorem d47_1 : decode (am_mc 47) 1 = .ok (.getfield 79, 3) := D47 1 rfl rfl rfl
theorem d47_4 : decode (am_mc 47) 4 = .ok (.ifCond .eq 37, 3) := D47 2 rfl rfl rfl
theorem d47_7 : decode (am_mc 47) 7 = .ok (.iload_n 1, 1) := D47 3 rfl rfl rfl
theorem d47_8 : decode (am_mc 47) 8 = .ok (.ifCond .lt 33, 3) := D47 4 rfl rfl rfl
theorem d47_11 : decode (am_mc 47) 11 = .ok (.iload_n 1, 1) := D47 5 rfl rfl rfl
theorem d47_12 : decode (am_mc 47) 12 = .ok (.i2l, 1) := D47 6 rfl rfl rfl
theorem d47_13 : decode (am_mc 47) 13 = .ok (.aload_n 0, 1) := D47 7 rfl rfl rfl
theorem d47_14 : decode (am_mc 47) 14 = .ok (.getfield 72, 3) := D47 8 rfl rfl rfl
theorem d47_17 : decode (am_mc 47) 17 = .ok (.iconst 0, 1) := D47 9 rfl rfl rfl
theorem d47_18 : decode (am_mc 47) 18 = .ok (.laload, 1) := D47 10 rfl rfl rfl
theorem d47_19 : decode (am_mc 47) 19 = .ok (.lcmp, 1) := D47 11 rfl rfl rfl
theorem d47_20 : decode (am_mc 47) 20 = .ok (.ifCond .ge 21, 3) := D47 12 rfl rfl rfl
theorem d47_23 : decode (am_mc 47) 23 = .ok (.iload_n 1, 1) := D47 13 rfl rfl rfl
theorem d47_24 : decode (am_mc 47) 24 = .ok (.aload_n 0, 1) := D47 14 rfl rfl rfl
theorem d47_25 : decode (am_mc 47) 25 = .ok (.getfield 76, 3) := D47 15 rfl rfl rfl
theorem d47_28 : decode (am_mc 47) 28 = .ok (.arraylength, 1) := D47 16 rfl rfl rfl
theorem d47_29 : decode (am_mc 47) 29 = .ok (.if_icmp .ge 12, 3) := D47 17 rfl rfl rfl
theorem d47_32 : decode (am_mc 47) 32 = .ok (.aload_n 0, 1) := D47 18 rfl rfl rfl
theorem d47_33 : decode (am_mc 47) 33 = .ok (.getfield 76, 3) := D47 19 rfl rfl rfl
theorem d47_36 : decode (am_mc 47) 36 = .ok (.iload_n 1, 1) := D47 20 rfl rfl rfl
theorem d47_37 : decode (am_mc 47) 37 = .ok (.laload, 1) := D47 21 rfl rfl rfl
theorem d47_38 : decode (am_mc 47) 38 = .ok (.goto 4, 3) := D47 22 rfl rfl rfl
theorem d47_41 : decode (am_mc 47) 41 = .ok (.lconst 0, 1) := D47 23 rfl rfl rfl
theorem d47_42 : decode (am_mc 47) 42 = .ok (.lreturn, 1) := D47 24 rfl rfl rfl
theorem ml47 : ∀ n, n < 2 → n < am_ml 47 := fun _ h => h
theorem mo47 : am_mo 47 = 0 := by decide +kernel
theorem rk47 : am_rk 47 = 2 := by decide +kernel
theorem rg47 : am_rcg 47 = 1 := by decide +kernel
theorem f0_76 : tb_f 0 76 = some (0, 10, 5, 17) := by decide +kernel
def fn47 (o : Nat) (a : Int) (μ : am_M) : Option (Int × am_M) := (if μ o 11 = 0 then some (0, μ) else (if a < 0 then some (0, μ) else (if (0 : Int) ≤ 0 ∧ 0 < ((am_len (am_ref o 9) : Nat) : Int) then (if o_cmp a (μ (am_ref o 9) (0 : Int).toNat) < 0 then (if a < ((am_len (am_ref o 10) : Nat) : Int) then (if (0 : Int) ≤ a ∧ a < ((am_len (am_ref o 10) : Nat) : Int) then some (μ (am_ref o 10) (a : Int).toNat, μ) else none) else some (0, μ)) else some (0, μ)) else none)))
def sp47 : am_F := fun vs μ => am_aR 0 vs fun o vs => am_aI vs fun a vs => am_a0 vs (fn47 o a μ)
theorem e47 (o : Nat) (a : Int) (μ : am_M) : sp47 [.inr (.inr (0, o)), .inl a] μ = fn47 o a μ := am_aR_c.trans (am_aI_c.trans am_a0_c)
theorem sd47 : am_Sd 47 sp47 := by
  refine am_Sd_of (by decide) (fun vs μ μ' x h hv hM => ?_)
  obtain ⟨o, vs0, rfl, h0⟩ := am_aR_s h
  obtain ⟨a, vs1, rfl, h1⟩ := am_aI_s h0
  obtain ⟨rfl, hz⟩ := am_a0_s h1
  refine ⟨Nat.le_of_ble_eq_true rfl, fun X C hG hr => ?_⟩
  have h := hz
  unfold fn47 at h
  exact (show am_W X C 47 _ 0 0 0 [(0, .inr (.inr (0, o))), (1, .inl a)] [] μ from (am_c_aload_n hG (pc := 0) d47_0 rfl (x_get_n (v := .inl (μ o 11)) hG (pc := 1) d47_1 mo47 f0_79 rfl (x_if_eq (tgt := 41) hG (pc := 4) d47_4 rfl h (fun h => (am_c_lconst hG (pc := 41) d47_41 (xq_lret hG (by decide) hr (pc := 42) d47_42 rk47 (am_q0 h)))) (fun h => (am_c_iload_n hG (pc := 7) d47_7 rfl (x_if_lt (tgt := 41) hG (pc := 8) d47_8 rfl h (fun h => (am_c_lconst hG (pc := 41) d47_41 (xq_lret hG (by decide) hr (pc := 42) d47_42 rk47 (am_q0 h)))) (fun h => (am_c_iload_n hG (pc := 11) d47_11 rfl (am_c_i2l hG (pc := 12) d47_12 (am_c_aload_n hG (pc := 13) d47_13 rfl (x_get_n (v := .inr (.inr (17, am_ref o 9))) hG (pc := 14) d47_14 mo47 f0_72 rfl (am_c_iconst hG (pc := 17) d47_17 (by decide) (x_laload hG (pc := 18) d47_18 h (fun h => (am_c_lcmp hG (pc := 19) d47_19 (x_if_ge (tgt := 41) hG (pc := 20) d47_20 rfl h (fun h => (am_c_lconst hG (pc := 41) d47_41 (xq_lret hG (by decide) hr (pc := 42) d47_42 rk47 (am_q0 h)))) (fun h => (am_c_iload_n hG (pc := 23) d47_23 rfl (am_c_aload_n hG (pc := 24) d47_24 rfl (x_get_n (v := .inr (.inr (17, am_ref o 10))) hG (pc := 25) d47_25 mo47 f0_76 rfl (am_c_len hG (pc := 28) d47_28 (by decide) (x_icmp_ge (tgt := 41) hG (pc := 29) d47_29 rfl h (fun h => (am_c_lconst hG (pc := 41) d47_41 (xq_lret hG (by decide) hr (pc := 42) d47_42 rk47 (am_q0 h)))) (fun h => (am_c_aload_n hG (pc := 32) d47_32 rfl (x_get_n (v := .inr (.inr (17, am_ref o 10))) hG (pc := 33) d47_33 mo47 f0_76 rfl (am_c_iload_n hG (pc := 36) d47_36 rfl (x_laload hG (pc := 37) d47_37 h (fun h => (x_goto (tgt := 42) hG (pc := 38) d47_38 rfl (xq_lret hG (by decide) hr (pc := 42) d47_42 rk47 (am_q0 h))))))))))))))))))))))))))))))))
/-! ChartPress$Table.isWellFormed()Z -/
theorem D48 (k : Nat) {pc : Nat} {i : Instr} (h : tbi48[k]? = some (pc, i)) (hs : am_isw i = false) {n : Nat} (hn : am_il i = n) : decode (am_mc 48) pc = .ok (i, n) := am_d2 (by decide) (by decide) rfl h hs hn
theorem d48_0 : decode (am_mc 48) 0 = .ok (.aload_n 0, 1) := D48 0 rfl rfl rfl
theorem d48_1 : decode (am_mc 48) 1 = .ok (.getfield 46, 3) := D48 1 rfl rfl rfl
theorem d48_4 : decode (am_mc 48) 4 = .ok (.ireturn, 1) := D48 2 rfl rfl rfl
theorem ml48 : ∀ n, n < 1 → n < am_ml 48 := fun _ h => h
theorem mo48 : am_mo 48 = 2 := by decide +kernel
theorem mr48 : am_mr 48 = some .boolean := by decide +kernel
theorem rg48 : am_rcg 48 = 3 := by decide +kernel
def fn48 (o : Nat) (μ : am_M) : Option (Int × am_M) := (if μ o 10 = 0 ∨ μ o 10 = 1 then some (μ o 10, μ) else none)
def sp48 : am_F := fun vs μ => am_aR 2 vs fun o vs => am_a0 vs (fn48 o μ)
theorem e48 (o : Nat) (μ : am_M) : sp48 [.inr (.inr (2, o))] μ = fn48 o μ := am_aR_c.trans am_a0_c
theorem sd48 : am_Sd 48 sp48 := by
  refine am_Sd_of (by decide) (fun vs μ μ' x h hv hM => ?_)
  obtain ⟨o, vs0, rfl, h0⟩ := am_aR_s h
  obtain ⟨rfl, hz⟩ := am_a0_s h0
  refine ⟨Nat.le_of_ble_eq_true rfl, fun X C hG hr => ?_⟩
  have h := hz
  unfold fn48 at h
  exact (show am_W X C 48 _ 0 0 0 [(0, .inr (.inr (2, o)))] [] μ from (am_c_aload_n hG (pc := 0) d48_0 rfl (x_get_n (v := .inl (μ o 10)) hG (pc := 1) d48_1 mo48 f2_46 rfl (xq_zret hG (by decide) hr (pc := 4) d48_4 mr48 h (fun h => (am_q0 h))))))
/-! ChartPress$Request.forget()V -/
theorem D49 (k : Nat) {pc : Nat} {i : Instr} (h : tbi49[k]? = some (pc, i)) (hs : am_isw i = false) {n : Nat} (hn : am_il i = n) : decode (am_mc 49) pc = .ok (i, n) := am_d2 (by decide) (by decide) rfl h hs hn
theorem d49_0 : decode (am_mc 49) 0 = .ok (.aload_n 0, 1) := D49 0 rfl rfl rfl
theorem d49_1 : decode (am_mc 49) 1 = .ok (.iconst 0, 1) := D49 1 rfl rfl rfl
theorem d49_2 : decode (am_mc 49) 2 = .ok (.putfield 38, 3) := D49 2 rfl rfl rfl
theorem d49_5 : decode (am_mc 49) 5 = .ok (.aload_n 0, 1) := D49 3 rfl rfl rfl
theorem d49_6 : decode (am_mc 49) 6 = .ok (.iconst 0, 1) := D49 4 rfl rfl rfl
theorem d49_7 : decode (am_mc 49) 7 = .ok (.putfield 53, 3) := D49 5 rfl rfl rfl
theorem d49_10 : decode (am_mc 49) 10 = .ok (.aload_n 0, 1) := D49 6 rfl rfl rfl
theorem d49_11 : decode (am_mc 49) 11 = .ok (.iconst (-1), 1) := D49 7 rfl rfl rfl
theorem d49_12 : decode (am_mc 49) 12 = .ok (.putfield 68, 3) := D49 8 rfl rfl rfl
theorem d49_15 : decode (am_mc 49) 15 = .ok (.aload_n 0, 1) := D49 9 rfl rfl rfl
theorem d49_16 : decode (am_mc 49) 16 = .ok (.iconst (-1), 1) := D49 10 rfl rfl rfl
theorem d49_17 : decode (am_mc 49) 17 = .ok (.putfield 71, 3) := D49 11 rfl rfl rfl
theorem d49_20 : decode (am_mc 49) 20 = .ok (.aload_n 0, 1) := D49 12 rfl rfl rfl
theorem d49_21 : decode (am_mc 49) 21 = .ok (.iconst (-1), 1) := D49 13 rfl rfl rfl
theorem d49_22 : decode (am_mc 49) 22 = .ok (.putfield 74, 3) := D49 14 rfl rfl rfl
theorem d49_25 : decode (am_mc 49) 25 = .ok (.aload_n 0, 1) := D49 15 rfl rfl rfl
theorem d49_26 : decode (am_mc 49) 26 = .ok (.iconst (-1), 1) := D49 16 rfl rfl rfl
theorem d49_27 : decode (am_mc 49) 27 = .ok (.putfield 77, 3) := D49 17 rfl rfl rfl
theorem d49_30 : decode (am_mc 49) 30 = .ok (.aload_n 0, 1) := D49 18 rfl rfl rfl
theorem d49_31 : decode (am_mc 49) 31 = .ok (.iconst 0, 1) := D49 19 rfl rfl rfl
theorem d49_32 : decode (am_mc 49) 32 = .ok (.putfield 59, 3) := D49 20 rfl rfl rfl
theorem d49_35 : decode (am_mc 49) 35 = .ok (.aload_n 0, 1) := D49 21 rfl rfl rfl
theorem d49_36 : decode (am_mc 49) 36 = .ok (.iconst 0, 1) := D49 22 rfl rfl rfl
theorem d49_37 : decode (am_mc 49) 37 = .ok (.putfield 80, 3) := D49 23 rfl rfl rfl
theorem d49_40 : decode (am_mc 49) 40 = .ok (.aload_n 0, 1) := D49 24 rfl rfl rfl
theorem d49_41 : decode (am_mc 49) 41 = .ok (.iconst (-1), 1) := D49 25 rfl rfl rfl
theorem d49_42 : decode (am_mc 49) 42 = .ok (.putfield 83, 3) := D49 26 rfl rfl rfl
theorem d49_45 : decode (am_mc 49) 45 = .ok (.aload_n 0, 1) := D49 27 rfl rfl rfl
theorem d49_46 : decode (am_mc 49) 46 = .ok (.iconst 0, 1) := D49 28 rfl rfl rfl
theorem d49_47 : decode (am_mc 49) 47 = .ok (.putfield 86, 3) := D49 29 rfl rfl rfl
theorem d49_50 : decode (am_mc 49) 50 = .ok (.return_, 1) := D49 30 rfl rfl rfl
theorem ml49 : ∀ n, n < 1 → n < am_ml 49 := fun _ h => h
theorem mo49 : am_mo 49 = 4 := by decide +kernel
theorem rk49 : am_rk 49 = 0 := by decide +kernel
theorem rg49 : am_rcg 49 = 5 := by decide +kernel
theorem f4_38 : tb_f 4 38 = some (4, 3, 0, 0) := by decide +kernel
theorem f4_53 : tb_f 4 53 = some (4, 4, 0, 0) := by decide +kernel
theorem f4_59 : tb_f 4 59 = some (4, 9, 0, 0) := by decide +kernel
theorem f4_68 : tb_f 4 68 = some (4, 5, 0, 0) := by decide +kernel
theorem f4_71 : tb_f 4 71 = some (4, 6, 0, 0) := by decide +kernel
theorem f4_74 : tb_f 4 74 = some (4, 7, 0, 0) := by decide +kernel
theorem f4_77 : tb_f 4 77 = some (4, 8, 0, 0) := by decide +kernel
theorem f4_80 : tb_f 4 80 = some (4, 10, 0, 0) := by decide +kernel
theorem f4_83 : tb_f 4 83 = some (4, 11, 0, 0) := by decide +kernel
theorem f4_86 : tb_f 4 86 = some (4, 12, 0, 0) := by decide +kernel
def fn49 (o : Nat) (μ : am_M) : Option (Int × am_M) := some (0, am_up (am_up (am_up (am_up (am_up (am_up (am_up (am_up (am_up (am_up μ o 3 0) o 4 0) o 5 ((-1))) o 6 ((-1))) o 7 ((-1))) o 8 ((-1))) o 9 0) o 10 0) o 11 ((-1))) o 12 0)
def sp49 : am_F := fun vs μ => am_aR 4 vs fun o vs => am_a0 vs (fn49 o μ)
theorem e49 (o : Nat) (μ : am_M) : sp49 [.inr (.inr (4, o))] μ = fn49 o μ := am_aR_c.trans am_a0_c
theorem sd49 : am_Sd 49 sp49 := by
  refine am_Sd_of (by decide) (fun vs μ μ' x h hv hM => ?_)
  obtain ⟨o, vs0, rfl, h0⟩ := am_aR_s h
  obtain ⟨rfl, hz⟩ := am_a0_s h0
  refine ⟨Nat.le_of_ble_eq_true rfl, fun X C hG hr => ?_⟩
  have h := hz
  unfold fn49 at h
  exact (show am_W X C 49 _ 0 0 0 [(0, .inr (.inr (4, o)))] [] μ from (am_c_aload_n hG (pc := 0) d49_0 rfl (am_c_iconst hG (pc := 1) d49_1 (by decide) (x_put_i hG (pc := 2) d49_2 mo49 f4_38 (by decide) (am_c_aload_n hG (pc := 5) d49_5 rfl (am_c_iconst hG (pc := 6) d49_6 (by decide) (x_put_i hG (pc := 7) d49_7 mo49 f4_53 (by decide) (am_c_aload_n hG (pc := 10) d49_10 rfl (am_c_iconst hG (pc := 11) d49_11 (by decide) (x_put_i hG (pc := 12) d49_12 mo49 f4_68 (by decide) (am_c_aload_n hG (pc := 15) d49_15 rfl (am_c_iconst hG (pc := 16) d49_16 (by decide) (x_put_i hG (pc := 17) d49_17 mo49 f4_71 (by decide) (am_c_aload_n hG (pc := 20) d49_20 rfl (am_c_iconst hG (pc := 21) d49_21 (by decide) (x_put_i hG (pc := 22) d49_22 mo49 f4_74 (by decide) (am_c_aload_n hG (pc := 25) d49_25 rfl (am_c_iconst hG (pc := 26) d49_26 (by decide) (x_put_i hG (pc := 27) d49_27 mo49 f4_77 (by decide) (am_c_aload_n hG (pc := 30) d49_30 rfl (am_c_iconst hG (pc := 31) d49_31 (by decide) (x_put_i hG (pc := 32) d49_32 mo49 f4_59 (by decide) (am_c_aload_n hG (pc := 35) d49_35 rfl (am_c_iconst hG (pc := 36) d49_36 (by decide) (x_put_i hG (pc := 37) d49_37 mo49 f4_80 (by decide) (am_c_aload_n hG (pc := 40) d49_40 rfl (am_c_iconst hG (pc := 41) d49_41 (by decide) (x_put_i hG (pc := 42) d49_42 mo49 f4_83 (by decide) (am_c_aload_n hG (pc := 45) d49_45 rfl (am_c_iconst hG (pc := 46) d49_46 (by decide) (x_put_i hG (pc := 47) d49_47 mo49 f4_86 (by decide) (xq_vret hG (by decide) hr (pc := 50) d49_50 rk49 (am_q0 h)))))))))))))))))))))))))))))))))
/-! ChartPress$Request.beginWord()V -/
theorem D50 (k : Nat) {pc : Nat} {i : Instr} (h : tbi50[k]? = some (pc, i)) (hs : am_isw i = false) {n : Nat} (hn : am_il i = n) : decode (am_mc 50) pc = .ok (i, n) := am_d2 (by decide) (by decide) rfl h hs hn
theorem d50_0 : decode (am_mc 50) 0 = .ok (.aload_n 0, 1) := D50 0 rfl rfl rfl
theorem d50_1 : decode (am_mc 50) 1 = .ok (.getfield 38, 3) := D50 1 rfl rfl rfl
theorem d50_4 : decode (am_mc 50) 4 = .ok (.aload_n 0, 1) := D50 2 rfl rfl rfl
theorem d50_5 : decode (am_mc 50) 5 = .ok (.getfield 13, 3) := D50 3 rfl rfl rfl
theorem d50_8 : decode (am_mc 50) 8 = .ok (.arraylength, 1) := D50 4 rfl rfl rfl
theorem d50_9 : decode (am_mc 50) 9 = .ok (.if_icmp .ge 15, 3) := D50 5 rfl rfl rfl
theorem d50_12 : decode (am_mc 50) 12 = .ok (.aload_n 0, 1) := D50 6 rfl rfl rfl
theorem d50_13 : decode (am_mc 50) 13 = .ok (.getfield 13, 3) := D50 7 rfl rfl rfl
theorem d50_16 : decode (am_mc 50) 16 = .ok (.aload_n 0, 1) := D50 8 rfl rfl rfl
theorem d50_17 : decode (am_mc 50) 17 = .ok (.getfield 38, 3) := D50 9 rfl rfl rfl
theorem d50_20 : decode (am_mc 50) 20 = .ok (.aaload, 1) := D50 10 rfl rfl rfl
theorem d50_21 : decode (am_mc 50) 21 = .ok (.invokevirtual 106, 3) := D50 11 rfl rfl rfl
theorem d50_24 : decode (am_mc 50) 24 = .ok (.aload_n 0, 1) := D50 12 rfl rfl rfl
theorem d50_25 : decode (am_mc 50) 25 = .ok (.dup, 1) := D50 13 rfl rfl rfl
theorem d50_26 : decode (am_mc 50) 26 = .ok (.getfield 38, 3) := D50 14 rfl rfl rfl
theorem d50_29 : decode (am_mc 50) 29 = .ok (.iconst 1, 1) := D50 15 rfl rfl rfl
theorem d50_30 : decode (am_mc 50) 30 = .ok (.iadd, 1) := D50 16 rfl rfl rfl
theorem d50_31 : decode (am_mc 50) 31 = .ok (.putfield 38, 3) := D50 17 rfl rfl rfl
theorem d50_34 : decode (am_mc 50) 34 = .ok (.return_, 1) := D50 18 rfl rfl rfl
theorem ml50 : ∀ n, n < 1 → n < am_ml 50 := fun _ h => h
theorem mo50 : am_mo 50 = 4 := by decide +kernel
theorem rk50 : am_rk 50 = 0 := by decide +kernel
theorem rg50 : am_rcg 50 = 5 := by decide +kernel
theorem f4_13 : tb_f 4 13 = some (4, 0, 5, 21) := by decide +kernel
theorem m4_106 : tb_m 4 106 = some (14, 1, 0, 0) := by decide +kernel
theorem dp50_14 : am_md 14 + 1 ≤ am_md 50 ∧ 8 + (am_ml 14 + 11) + am_lr 14 ≤ am_lr 50 := by decide +kernel
def fn50 (o : Nat) (μ : am_M) : Option (Int × am_M) := (if μ o 3 < ((am_len (am_ref o 0) : Nat) : Int) then (if (0 : Int) ≤ μ o 3 ∧ μ o 3 < ((am_len (am_ref o 0) : Nat) : Int) then (am_op (fn14 (am_ref (am_ref o 0) (μ o 3 : Int).toNat) μ) (fun z1 => some (0, am_up z1.2 o 3 (w32 ((z1.2 o 3) + 1))))) else none) else some (0, am_up μ o 3 (w32 ((μ o 3) + 1))))
def sp50 : am_F := fun vs μ => am_aR 4 vs fun o vs => am_a0 vs (fn50 o μ)
theorem e50 (o : Nat) (μ : am_M) : sp50 [.inr (.inr (4, o))] μ = fn50 o μ := am_aR_c.trans am_a0_c
theorem sd50 : am_Sd 50 sp50 := by
  refine am_Sd_of (by decide) (fun vs μ μ' x h hv hM => ?_)
  obtain ⟨o, vs0, rfl, h0⟩ := am_aR_s h
  obtain ⟨rfl, hz⟩ := am_a0_s h0
  refine ⟨Nat.le_of_ble_eq_true rfl, fun X C hG hr => ?_⟩
  have h := hz
  unfold fn50 at h
  exact (show am_W X C 50 _ 0 0 0 [(0, .inr (.inr (4, o)))] [] μ from (am_c_aload_n hG (pc := 0) d50_0 rfl (x_get_n (v := .inl (μ o 3)) hG (pc := 1) d50_1 mo50 f4_38 rfl (am_c_aload_n hG (pc := 4) d50_4 rfl (x_get_n (v := .inr (.inr (21, am_ref o 0))) hG (pc := 5) d50_5 mo50 f4_13 rfl (am_c_len hG (pc := 8) d50_8 (by decide) (x_icmp_ge (tgt := 24) hG (pc := 9) d50_9 rfl h (fun h => (am_c_aload_n hG (pc := 24) d50_24 rfl (am_c_dup hG (pc := 25) d50_25 rfl (x_get_n (v := .inl (μ o 3)) hG (pc := 26) d50_26 mo50 f4_38 rfl (am_c_iconst hG (pc := 29) d50_29 (by decide) (am_c_iadd hG (pc := 30) d50_30 (x_put_i hG (pc := 31) d50_31 mo50 f4_38 (by decide) (xq_vret hG (by decide) hr (pc := 34) d50_34 rk50 (am_q0 h))))))))) (fun h => (am_c_aload_n hG (pc := 12) d50_12 rfl (x_get_n (v := .inr (.inr (21, am_ref o 0))) hG (pc := 13) d50_13 mo50 f4_13 rfl (am_c_aload_n hG (pc := 16) d50_16 rfl (x_get_n (v := .inl (μ o 3)) hG (pc := 17) d50_17 mo50 f4_38 rfl (x_aaload_L hG (pc := 20) d50_20 h (fun h => (x_virtual_v (t := 3) (o := am_ref (am_ref o 0) (μ o 3 : Int).toNat) (as2 := []) (rest := []) hG (pc := 21) d50_21 mo50 m4_106 (by decide) dp50_14 rfl rfl (Nat.le_of_ble_eq_true rfl) (Nat.le_of_ble_eq_true rfl) rg14 sd14 (e14 _ _) h (fun z1 h => (am_c_aload_n hG (pc := 24) d50_24 rfl (am_c_dup hG (pc := 25) d50_25 rfl (x_get_n (v := .inl (z1.2 o 3)) hG (pc := 26) d50_26 mo50 f4_38 rfl (am_c_iconst hG (pc := 29) d50_29 (by decide) (am_c_iadd hG (pc := 30) d50_30 (x_put_i hG (pc := 31) d50_31 mo50 f4_38 (by decide) (xq_vret hG (by decide) hr (pc := 34) d50_34 rk50 (am_q0 h))))))))))))))))))))))))
/-! ChartPress$Request.addToWord(C)V -/
theorem D51 (k : Nat) {pc : Nat} {i : Instr} (h : tbi51[k]? = some (pc, i)) (hs : am_isw i = false) {n : Nat} (hn : am_il i = n) : decode (am_mc 51) pc = .ok (i, n) := am_d2 (by decide) (by decide) rfl h hs hn
theorem d51_0 : decode (am_mc 51) 0 = .ok (.aload_n 0, 1) := D51 0 rfl rfl rfl
theorem d51_1 : decode (am_mc 51) 1 = .ok (.getfield 38, 3) := D51 1 rfl rfl rfl
theorem d51_4 : decode (am_mc 51) 4 = .ok (.iconst 1, 1) := D51 2 rfl rfl rfl
theorem d51_5 : decode (am_mc 51) 5 = .ok (.if_icmp .lt 30, 3) := D51 3 rfl rfl rfl
theorem d51_8 : decode (am_mc 51) 8 = .ok (.aload_n 0, 1) := D51 4 rfl rfl rfl
theorem d51_9 : decode (am_mc 51) 9 = .ok (.getfield 38, 3) := D51 5 rfl rfl rfl
theorem d51_12 : decode (am_mc 51) 12 = .ok (.aload_n 0, 1) := D51 6 rfl rfl rfl
theorem d51_13 : decode (am_mc 51) 13 = .ok (.getfield 13, 3) := D51 7 rfl rfl rfl
theorem d51_16 : decode (am_mc 51) 16 = .ok (.arraylength, 1) := D51 8 rfl rfl rfl
theorem d51_17 : decode (am_mc 51) 17 = .ok (.if_icmp .gt 18, 3) := D51 9 rfl rfl rfl
theorem d51_20 : decode (am_mc 51) 20 = .ok (.aload_n 0, 1) := D51 10 rfl rfl rfl
theorem d51_21 : decode (am_mc 51) 21 = .ok (.getfield 13, 3) := D51 11 rfl rfl rfl
theorem d51_24 : decode (am_mc 51) 24 = .ok (.aload_n 0, 1) := D51 12 rfl rfl rfl
theorem d51_25 : decode (am_mc 51) 25 = .ok (.getfield 38, 3) := D51 13 rfl rfl rfl
theorem d51_28 : decode (am_mc 51) 28 = .ok (.iconst 1, 1) := D51 14 rfl rfl rfl
theorem d51_29 : decode (am_mc 51) 29 = .ok (.isub, 1) := D51 15 rfl rfl rfl
theorem d51_30 : decode (am_mc 51) 30 = .ok (.aaload, 1) := D51 16 rfl rfl rfl
theorem d51_31 : decode (am_mc 51) 31 = .ok (.iload_n 1, 1) := D51 17 rfl rfl rfl
theorem d51_32 : decode (am_mc 51) 32 = .ok (.invokevirtual 109, 3) := D51 18 rfl rfl rfl
theorem d51_35 : decode (am_mc 51) 35 = .ok (.return_, 1) := D51 19 rfl rfl rfl
theorem ml51 : ∀ n, n < 2 → n < am_ml 51 := fun _ h => h
theorem mo51 : am_mo 51 = 4 := by decide +kernel
theorem rk51 : am_rk 51 = 0 := by decide +kernel
theorem rg51 : am_rcg 51 = 5 := by decide +kernel
theorem m4_109 : tb_m 4 109 = some (17, 2, 0, 0) := by decide +kernel
theorem dp51_17 : am_md 17 + 1 ≤ am_md 51 ∧ 8 + (am_ml 17 + 11) + am_lr 17 ≤ am_lr 51 := by decide +kernel
def fn51 (o : Nat) (a : Int) (μ : am_M) : Option (Int × am_M) := (if μ o 3 < 1 then some (0, μ) else (if ((am_len (am_ref o 0) : Nat) : Int) < μ o 3 then some (0, μ) else (if (0 : Int) ≤ w32 ((μ o 3) - 1) ∧ w32 ((μ o 3) - 1) < ((am_len (am_ref o 0) : Nat) : Int) then (am_op (fn17 (am_ref (am_ref o 0) (w32 ((μ o 3) - 1) : Int).toNat) a μ) (fun z1 => some (0, z1.2))) else none)))
def sp51 : am_F := fun vs μ => am_aR 4 vs fun o vs => am_aI vs fun a vs => am_a0 vs (fn51 o a μ)
theorem e51 (o : Nat) (a : Int) (μ : am_M) : sp51 [.inr (.inr (4, o)), .inl a] μ = fn51 o a μ := am_aR_c.trans (am_aI_c.trans am_a0_c)
theorem sd51 : am_Sd 51 sp51 := by
  refine am_Sd_of (by decide) (fun vs μ μ' x h hv hM => ?_)
  obtain ⟨o, vs0, rfl, h0⟩ := am_aR_s h
  obtain ⟨a, vs1, rfl, h1⟩ := am_aI_s h0
  obtain ⟨rfl, hz⟩ := am_a0_s h1
  refine ⟨Nat.le_of_ble_eq_true rfl, fun X C hG hr => ?_⟩
  have h := hz
  unfold fn51 at h
  exact (show am_W X C 51 _ 0 0 0 [(0, .inr (.inr (4, o))), (1, .inl a)] [] μ from (am_c_aload_n hG (pc := 0) d51_0 rfl (x_get_n (v := .inl (μ o 3)) hG (pc := 1) d51_1 mo51 f4_38 rfl (am_c_iconst hG (pc := 4) d51_4 (by decide) (x_icmp_lt (tgt := 35) hG (pc := 5) d51_5 rfl h (fun h => (xq_vret hG (by decide) hr (pc := 35) d51_35 rk51 (am_q0 h))) (fun h => (am_c_aload_n hG (pc := 8) d51_8 rfl (x_get_n (v := .inl (μ o 3)) hG (pc := 9) d51_9 mo51 f4_38 rfl (am_c_aload_n hG (pc := 12) d51_12 rfl (x_get_n (v := .inr (.inr (21, am_ref o 0))) hG (pc := 13) d51_13 mo51 f4_13 rfl (am_c_len hG (pc := 16) d51_16 (by decide) (x_icmp_gt (tgt := 35) hG (pc := 17) d51_17 rfl h (fun h => (xq_vret hG (by decide) hr (pc := 35) d51_35 rk51 (am_q0 h))) (fun h => (am_c_aload_n hG (pc := 20) d51_20 rfl (x_get_n (v := .inr (.inr (21, am_ref o 0))) hG (pc := 21) d51_21 mo51 f4_13 rfl (am_c_aload_n hG (pc := 24) d51_24 rfl (x_get_n (v := .inl (μ o 3)) hG (pc := 25) d51_25 mo51 f4_38 rfl (am_c_iconst hG (pc := 28) d51_28 (by decide) (am_c_isub hG (pc := 29) d51_29 (x_aaload_L hG (pc := 30) d51_30 h (fun h => (am_c_iload_n hG (pc := 31) d51_31 rfl (x_virtual_v (t := 3) (o := am_ref (am_ref o 0) (w32 ((μ o 3) - 1) : Int).toNat) (as2 := [.inl a]) (rest := []) hG (pc := 32) d51_32 mo51 m4_109 (by decide) dp51_17 rfl rfl (Nat.le_of_ble_eq_true rfl) (Nat.le_of_ble_eq_true rfl) rg17 sd17 (e17 _ _ _) h (fun z1 h => (xq_vret hG (by decide) hr (pc := 35) d51_35 rk51 (am_q0 h))))))))))))))))))))))))))
/-! ChartPress$Request.splitWords(LChartPress$Script;)V -/
theorem D52 (k : Nat) {pc : Nat} {i : Instr} (h : tbi52[k]? = some (pc, i)) (hs : am_isw i = false) {n : Nat} (hn : am_il i = n) : decode (am_mc 52) pc = .ok (i, n) := am_d2 (by decide) (by decide) rfl h hs hn
theorem d52_0 : decode (am_mc 52) 0 = .ok (.iconst 0, 1) := D52 0 rfl rfl rfl
theorem d52_1 : decode (am_mc 52) 1 = .ok (.istore_n 2, 1) := D52 1 rfl rfl rfl
theorem d52_2 : decode (am_mc 52) 2 = .ok (.iconst 0, 1) := D52 2 rfl rfl rfl
theorem d52_3 : decode (am_mc 52) 3 = .ok (.istore_n 3, 1) := D52 3 rfl rfl rfl
theorem d52_4 : decode (am_mc 52) 4 = .ok (.iload_n 3, 1) := D52 4 rfl rfl rfl
theorem d52_5 : decode (am_mc 52) 5 = .ok (.aload_n 1, 1) := D52 5 rfl rfl rfl
theorem d52_6 : decode (am_mc 52) 6 = .ok (.invokevirtual 89, 3) := D52 6 rfl rfl rfl
theorem d52_9 : decode (am_mc 52) 9 = .ok (.if_icmp .ge 44, 3) := D52 7 rfl rfl rfl
theorem d52_12 : decode (am_mc 52) 12 = .ok (.aload_n 1, 1) := D52 8 rfl rfl rfl
theorem d52_13 : decode (am_mc 52) 13 = .ok (.iload_n 3, 1) := D52 9 rfl rfl rfl
theorem d52_14 : decode (am_mc 52) 14 = .ok (.invokevirtual 95, 3) := D52 10 rfl rfl rfl
theorem d52_17 : decode (am_mc 52) 17 = .ok (.istore 4, 2) := D52 11 rfl rfl rfl
theorem d52_19 : decode (am_mc 52) 19 = .ok (.iload 4, 2) := D52 12 rfl rfl rfl
theorem d52_21 : decode (am_mc 52) 21 = .ok (.bipush 32, 2) := D52 13 rfl rfl rfl
theorem d52_23 : decode (am_mc 52) 23 = .ok (.if_icmp .ne 8, 3) := D52 14 rfl rfl rfl
theorem d52_26 : decode (am_mc 52) 26 = .ok (.iconst 0, 1) := D52 15 rfl rfl rfl
theorem d52_27 : decode (am_mc 52) 27 = .ok (.istore_n 2, 1) := D52 16 rfl rfl rfl
theorem d52_28 : decode (am_mc 52) 28 = .ok (.goto 19, 3) := D52 17 rfl rfl rfl
theorem d52_31 : decode (am_mc 52) 31 = .ok (.iload_n 2, 1) := D52 18 rfl rfl rfl
theorem d52_32 : decode (am_mc 52) 32 = .ok (.ifCond .ne 7, 3) := D52 19 rfl rfl rfl
theorem d52_35 : decode (am_mc 52) 35 = .ok (.aload_n 0, 1) := D52 20 rfl rfl rfl
theorem d52_36 : decode (am_mc 52) 36 = .ok (.invokevirtual 99, 3) := D52 21 rfl rfl rfl
theorem d52_39 : decode (am_mc 52) 39 = .ok (.iconst 1, 1) := D52 22 rfl rfl rfl
theorem d52_40 : decode (am_mc 52) 40 = .ok (.istore_n 2, 1) := D52 23 rfl rfl rfl
theorem d52_41 : decode (am_mc 52) 41 = .ok (.aload_n 0, 1) := D52 24 rfl rfl rfl
theorem d52_42 : decode (am_mc 52) 42 = .ok (.iload 4, 2) := D52 25 rfl rfl rfl
theorem d52_44 : decode (am_mc 52) 44 = .ok (.invokevirtual 102, 3) := D52 26 rfl rfl rfl
theorem d52_47 : decode (am_mc 52) 47 = .ok (.iinc 3 1, 3) := D52 27 rfl rfl rfl
theorem d52_50 : decode (am_mc 52) 50 = .ok (.goto (-46), 3) := D52 28 rfl rfl rfl
theorem d52_53 : decode (am_mc 52) 53 = .ok (.return_, 1) := D52 29 rfl rfl rfl
theorem ml52 : ∀ n, n < 5 → n < am_ml 52 := fun _ h => h
theorem mo52 : am_mo 52 = 4 := by decide +kernel
theorem rk52 : am_rk 52 = 0 := by decide +kernel
theorem rg52 : am_rcg 52 = 5 := by decide +kernel
theorem m4_89 : tb_m 4 89 = some (16, 1, 1, 0) := by decide +kernel
theorem m4_95 : tb_m 4 95 = some (15, 2, 1, 0) := by decide +kernel
theorem m4_99 : tb_m 4 99 = some (50, 1, 0, 0) := by decide +kernel
theorem m4_102 : tb_m 4 102 = some (51, 2, 0, 0) := by decide +kernel
theorem dp52_15 : am_md 15 + 1 ≤ am_md 52 ∧ 8 + (am_ml 15 + 11) + am_lr 15 ≤ am_lr 52 := by decide +kernel
theorem dp52_16 : am_md 16 + 1 ≤ am_md 52 ∧ 8 + (am_ml 16 + 11) + am_lr 16 ≤ am_lr 52 := by decide +kernel
theorem dp52_50 : am_md 50 + 1 ≤ am_md 52 ∧ 8 + (am_ml 50 + 11) + am_lr 50 ≤ am_lr 52 := by decide +kernel
theorem dp52_51 : am_md 51 + 1 ≤ am_md 52 ∧ 8 + (am_ml 51 + 11) + am_lr 51 ≤ am_lr 52 := by decide +kernel
def L52_4 (l0 : Nat) (l1 : Nat) : Nat → Int → Int → am_M → Option ((Int × am_M) ⊕ (Int × Int × am_M))
  | 0, _, _, _ => none
  | n + 1, l2, l3, μ => (am_op (fn16 l1 μ) (fun z1 => (if l3 < z1.1 then (am_op (fn15 l1 l3 z1.2) (fun z2 => (if z2.1 = 32 then (L52_4 l0 l1 n 0 (w32 (l3 + 1)) z2.2) else (if l2 = 0 then (am_op (fn50 l0 z2.2) (fun z4 => (am_op (fn51 l0 z2.1 z4.2) (fun z5 => (L52_4 l0 l1 n 1 (w32 (l3 + 1)) z5.2))))) else (am_op (fn51 l0 z2.1 z2.2) (fun z3 => (L52_4 l0 l1 n 1 (w32 (l3 + 1)) z3.2))))))) else (some (.inr (l2, l3, z1.2))))))
theorem w52_4 {X : am_K} {C : am_C} {Q : State → Prop} (hG : am_G X C 52 0 0 (0, fun _ => 0)) (hr : match X with | (_, _, _, _, _, _, _, _, meth, _) => meth.sig.returnType = am_mr 52 ∧ meth.locks = false) (l0 : Nat) (l1 : Nat) : ∀ (n : Nat) (l2 : Int) (l3 : Int) (μ : am_M) (r : (Int × am_M) ⊕ (Int × Int × am_M)), L52_4 l0 l1 n l2 l3 μ = some r → (∀ q, r = .inl q → Q = am_E X C 52 q.1 q.2) → (∀ t, r = .inr t → am_W X C 52 Q 0 0 53 [] [] t.2.2) → am_W X C 52 Q 0 0 4 [(0, .inr (.inr (4, l0))), (1, .inr (.inr (1, l1))), (2, .inl l2), (3, .inl l3)] [] μ := by
  intro n
  induction n with
  | zero => intro l2 l3 μ r h; cases h
  | succ n ih =>
    intro l2 l3 μ r h hI hX
    unfold L52_4 at h
    exact (am_c_iload_n hG (pc := 4) d52_4 rfl (am_c_aload_n hG (pc := 5) d52_5 rfl (x_virtual_i (t := 1) (o := l1) (as2 := []) (rest := [.inl l3]) hG (pc := 6) d52_6 mo52 m4_89 (by decide) dp52_16 rfl rfl (Nat.le_of_ble_eq_true rfl) (Nat.le_of_ble_eq_true rfl) rg16 sd16 (e16 _ _) h (fun z1 h => (x_icmp_ge (tgt := 53) hG (pc := 9) d52_9 rfl h (fun h => (am_lvw (lv2 := []) [] rfl (hX (l2, l3, z1.2) (Option.some.inj h).symm))) (fun h => (am_c_aload_n hG (pc := 12) d52_12 rfl (am_c_iload_n hG (pc := 13) d52_13 rfl (x_virtual_i (t := 1) (o := l1) (as2 := [.inl l3]) (rest := []) hG (pc := 14) d52_14 mo52 m4_95 (by decide) dp52_15 rfl rfl (Nat.le_of_ble_eq_true rfl) (Nat.le_of_ble_eq_true rfl) rg15 sd15 (e15 _ _ _) h (fun z2 h => (x_istore (lv' := [(4, .inl z2.1), (0, .inr (.inr (4, l0))), (1, .inr (.inr (1, l1))), (2, .inl l2), (3, .inl l3)]) hG (pc := 17) d52_17 (ml52 _ (by decide)) rfl (am_c_iload hG (pc := 19) d52_19 rfl (am_c_bipush hG (pc := 21) d52_21 (by decide) (x_icmp_ne (tgt := 31) hG (pc := 23) d52_23 rfl h (fun h => (am_c_iload_n hG (pc := 31) d52_31 rfl (x_if_ne (tgt := 39) hG (pc := 32) d52_32 rfl h (fun h => (am_c_iconst hG (pc := 39) d52_39 (by decide) (x_istore_n (lv' := [(2, .inl 1), (4, .inl z2.1), (0, .inr (.inr (4, l0))), (1, .inr (.inr (1, l1))), (3, .inl l3)]) hG (pc := 40) d52_40 (ml52 _ (by decide)) rfl (am_c_aload_n hG (pc := 41) d52_41 rfl (am_c_iload hG (pc := 42) d52_42 rfl (x_virtual_v (t := 4) (o := l0) (as2 := [.inl z2.1]) (rest := []) hG (pc := 44) d52_44 mo52 m4_102 (by decide) dp52_51 rfl rfl (Nat.le_of_ble_eq_true rfl) (Nat.le_of_ble_eq_true rfl) rg51 sd51 (e51 _ _ _) h (fun z3 h => (x_iinc (lv' := [(3, .inl (w32 (l3 + 1))), (2, .inl 1), (4, .inl z2.1), (0, .inr (.inr (4, l0))), (1, .inr (.inr (1, l1)))]) hG (pc := 47) d52_47 rfl (ml52 _ (by decide)) rfl (x_goto (tgt := 4) hG (pc := 50) d52_50 rfl (am_lvw (lv2 := [(0, .inr (.inr (4, l0))), (1, .inr (.inr (1, l1))), (2, .inl 1), (3, .inl (w32 (l3 + 1)))]) [3, 4, 1, 0] rfl (ih _ _ _ _ h hI hX))))))))))) (fun h => (am_c_aload_n hG (pc := 35) d52_35 rfl (x_virtual_v (t := 4) (o := l0) (as2 := []) (rest := []) hG (pc := 36) d52_36 mo52 m4_99 (by decide) dp52_50 rfl rfl (Nat.le_of_ble_eq_true rfl) (Nat.le_of_ble_eq_true rfl) rg50 sd50 (e50 _ _) h (fun z4 h => (am_c_iconst hG (pc := 39) d52_39 (by decide) (x_istore_n (lv' := [(2, .inl 1), (4, .inl z2.1), (0, .inr (.inr (4, l0))), (1, .inr (.inr (1, l1))), (3, .inl l3)]) hG (pc := 40) d52_40 (ml52 _ (by decide)) rfl (am_c_aload_n hG (pc := 41) d52_41 rfl (am_c_iload hG (pc := 42) d52_42 rfl (x_virtual_v (t := 4) (o := l0) (as2 := [.inl z2.1]) (rest := []) hG (pc := 44) d52_44 mo52 m4_102 (by decide) dp52_51 rfl rfl (Nat.le_of_ble_eq_true rfl) (Nat.le_of_ble_eq_true rfl) rg51 sd51 (e51 _ _ _) h (fun z5 h => (x_iinc (lv' := [(3, .inl (w32 (l3 + 1))), (2, .inl 1), (4, .inl z2.1), (0, .inr (.inr (4, l0))), (1, .inr (.inr (1, l1)))]) hG (pc := 47) d52_47 rfl (ml52 _ (by decide)) rfl (x_goto (tgt := 4) hG (pc := 50) d52_50 rfl (am_lvw (lv2 := [(0, .inr (.inr (4, l0))), (1, .inr (.inr (1, l1))), (2, .inl 1), (3, .inl (w32 (l3 + 1)))]) [3, 4, 1, 0] rfl (ih _ _ _ _ h hI hX))))))))))))))))) (fun h => (am_c_iconst hG (pc := 26) d52_26 (by decide) (x_istore_n (lv' := [(2, .inl 0), (4, .inl z2.1), (0, .inr (.inr (4, l0))), (1, .inr (.inr (1, l1))), (3, .inl l3)]) hG (pc := 27) d52_27 (ml52 _ (by decide)) rfl (x_goto (tgt := 47) hG (pc := 28) d52_28 rfl (x_iinc (lv' := [(3, .inl (w32 (l3 + 1))), (2, .inl 0), (4, .inl z2.1), (0, .inr (.inr (4, l0))), (1, .inr (.inr (1, l1)))]) hG (pc := 47) d52_47 rfl (ml52 _ (by decide)) rfl (x_goto (tgt := 4) hG (pc := 50) d52_50 rfl (am_lvw (lv2 := [(0, .inr (.inr (4, l0))), (1, .inr (.inr (1, l1))), (2, .inl 0), (3, .inl (w32 (l3 + 1)))]) [3, 4, 1, 0] rfl (ih _ _ _ _ h hI hX))))))))))))))))))))))
def fn52 (o : Nat) (a : Nat) (μ : am_M) : Option (Int × am_M) := (am_op (L52_4 o a am_fuel 0 0 μ) (fun s => am_lp s (fun q1 => some q1) (fun t1 => some (0, t1.2.2))))
def sp52 : am_F := fun vs μ => am_aR 4 vs fun o vs => am_aR 1 vs fun a vs => am_a0 vs (fn52 o a μ)
theorem e52 (o : Nat) (a : Nat) (μ : am_M) : sp52 [.inr (.inr (4, o)), .inr (.inr (1, a))] μ = fn52 o a μ := am_aR_c.trans (am_aR_c.trans am_a0_c)
theorem sd52 : am_Sd 52 sp52 := by
  refine am_Sd_of (by decide) (fun vs μ μ' x h hv hM => ?_)
  obtain ⟨o, vs0, rfl, h0⟩ := am_aR_s h
  obtain ⟨a, vs1, rfl, h1⟩ := am_aR_s h0
  obtain ⟨rfl, hz⟩ := am_a0_s h1
  refine ⟨Nat.le_of_ble_eq_true rfl, fun X C hG hr => ?_⟩
  have h := hz
  unfold fn52 at h
  exact (show am_W X C 52 _ 0 0 0 [(0, .inr (.inr (4, o))), (1, .inr (.inr (1, a)))] [] μ from (am_c_iconst hG (pc := 0) d52_0 (by decide) (x_istore_n (lv' := [(2, .inl 0), (0, .inr (.inr (4, o))), (1, .inr (.inr (1, a)))]) hG (pc := 1) d52_1 (ml52 _ (by decide)) rfl (am_c_iconst hG (pc := 2) d52_2 (by decide) (x_istore_n (lv' := [(3, .inl 0), (2, .inl 0), (0, .inr (.inr (4, o))), (1, .inr (.inr (1, a)))]) hG (pc := 3) d52_3 (ml52 _ (by decide)) rfl (x_lp h (fun r h1 h2 => (am_lvw (lv2 := [(0, .inr (.inr (4, o))), (1, .inr (.inr (1, a))), (2, .inl 0), (3, .inl 0)]) [2, 3, 1, 0] rfl (w52_4 hG hr _ _ _ _ _ _ _ h1 (fun q1 e => am_q1 e h2 (fun h => am_q0 h)) (fun t1 e => am_q2 e h2 (fun h => (xq_vret hG (by decide) hr (pc := 53) d52_53 rk52 (am_q0 h)))))))))))))
/-! ChartPress$Request.takeWord()LChartPress$Letters; -/
theorem D53 (k : Nat) {pc : Nat} {i : Instr} (h : tbi53[k]? = some (pc, i)) (hs : am_isw i = false) {n : Nat} (hn : am_il i = n) : decode (am_mc 53) pc = .ok (i, n) := am_d2 (by decide) (by decide) rfl h hs hn
theorem d53_0 : decode (am_mc 53) 0 = .ok (.aload_n 0, 1) := D53 0 rfl rfl rfl
theorem d53_1 : decode (am_mc 53) 1 = .ok (.getfield 53, 3) := D53 1 rfl rfl rfl
theorem d53_4 : decode (am_mc 53) 4 = .ok (.aload_n 0, 1) := D53 2 rfl rfl rfl
theorem d53_5 : decode (am_mc 53) 5 = .ok (.getfield 38, 3) := D53 3 rfl rfl rfl
theorem d53_8 : decode (am_mc 53) 8 = .ok (.if_icmp .ge 15, 3) := D53 4 rfl rfl rfl
theorem d53_11 : decode (am_mc 53) 11 = .ok (.aload_n 0, 1) := D53 5 rfl rfl rfl
theorem d53_12 : decode (am_mc 53) 12 = .ok (.getfield 53, 3) := D53 6 rfl rfl rfl
theorem d53_15 : decode (am_mc 53) 15 = .ok (.aload_n 0, 1) := D53 7 rfl rfl rfl
theorem d53_16 : decode (am_mc 53) 16 = .ok (.getfield 13, 3) := D53 8 rfl rfl rfl
theorem d53_19 : decode (am_mc 53) 19 = .ok (.arraylength, 1) := D53 9 rfl rfl rfl
theorem d53_20 : decode (am_mc 53) 20 = .ok (.if_icmp .lt 8, 3) := D53 10 rfl rfl rfl
theorem d53_23 : decode (am_mc 53) 23 = .ok (.aload_n 0, 1) := D53 11 rfl rfl rfl
theorem d53_24 : decode (am_mc 53) 24 = .ok (.getfield 20, 3) := D53 12 rfl rfl rfl
theorem d53_27 : decode (am_mc 53) 27 = .ok (.areturn, 1) := D53 13 rfl rfl rfl
theorem d53_28 : decode (am_mc 53) 28 = .ok (.aload_n 0, 1) := D53 14 rfl rfl rfl
theorem d53_29 : decode (am_mc 53) 29 = .ok (.dup, 1) := D53 15 rfl rfl rfl
theorem d53_30 : decode (am_mc 53) 30 = .ok (.getfield 53, 3) := D53 16 rfl rfl rfl
theorem d53_33 : decode (am_mc 53) 33 = .ok (.iconst 1, 1) := D53 17 rfl rfl rfl
theorem d53_34 : decode (am_mc 53) 34 = .ok (.iadd, 1) := D53 18 rfl rfl rfl
theorem d53_35 : decode (am_mc 53) 35 = .ok (.putfield 53, 3) := D53 19 rfl rfl rfl
theorem d53_38 : decode (am_mc 53) 38 = .ok (.aload_n 0, 1) := D53 20 rfl rfl rfl
theorem d53_39 : decode (am_mc 53) 39 = .ok (.getfield 13, 3) := D53 21 rfl rfl rfl
theorem d53_42 : decode (am_mc 53) 42 = .ok (.aload_n 0, 1) := D53 22 rfl rfl rfl
theorem d53_43 : decode (am_mc 53) 43 = .ok (.getfield 53, 3) := D53 23 rfl rfl rfl
theorem d53_46 : decode (am_mc 53) 46 = .ok (.iconst 1, 1) := D53 24 rfl rfl rfl
theorem d53_47 : decode (am_mc 53) 47 = .ok (.isub, 1) := D53 25 rfl rfl rfl
theorem d53_48 : decode (am_mc 53) 48 = .ok (.aaload, 1) := D53 26 rfl rfl rfl
theorem d53_49 : decode (am_mc 53) 49 = .ok (.areturn, 1) := D53 27 rfl rfl rfl
theorem ml53 : ∀ n, n < 1 → n < am_ml 53 := fun _ h => h
theorem mo53 : am_mo 53 = 4 := by decide +kernel
theorem rk53 : am_rk 53 = 3 := by decide +kernel
theorem rtg53 : am_rtg 53 = 3 := by decide +kernel
theorem rg53 : am_rcg 53 = 5 := by decide +kernel
theorem f4_20 : tb_f 4 20 = some (4, 1, 5, 3) := by decide +kernel
def fn53 (o : Nat) (μ : am_M) : Option (Int × am_M) := (if μ o 4 < μ o 3 then (if μ o 4 < ((am_len (am_ref o 0) : Nat) : Int) then (if (0 : Int) ≤ w32 (((am_up μ o 4 (w32 ((μ o 4) + 1))) o 4) - 1) ∧ w32 (((am_up μ o 4 (w32 ((μ o 4) + 1))) o 4) - 1) < ((am_len (am_ref o 0) : Nat) : Int) then some (((am_ref (am_ref o 0) (w32 (((am_up μ o 4 (w32 ((μ o 4) + 1))) o 4) - 1) : Int).toNat : Nat) : Int), am_up μ o 4 (w32 ((μ o 4) + 1))) else none) else some (((am_ref o 1 : Nat) : Int), μ)) else some (((am_ref o 1 : Nat) : Int), μ))
def sp53 : am_F := fun vs μ => am_aR 4 vs fun o vs => am_a0 vs (fn53 o μ)
theorem e53 (o : Nat) (μ : am_M) : sp53 [.inr (.inr (4, o))] μ = fn53 o μ := am_aR_c.trans am_a0_c
theorem sd53 : am_Sd 53 sp53 := by
  refine am_Sd_of (by decide) (fun vs μ μ' x h hv hM => ?_)
  obtain ⟨o, vs0, rfl, h0⟩ := am_aR_s h
  obtain ⟨rfl, hz⟩ := am_a0_s h0
  refine ⟨Nat.le_of_ble_eq_true rfl, fun X C hG hr => ?_⟩
  have h := hz
  unfold fn53 at h
  exact (show am_W X C 53 _ 0 0 0 [(0, .inr (.inr (4, o)))] [] μ from (am_c_aload_n hG (pc := 0) d53_0 rfl (x_get_n (v := .inl (μ o 4)) hG (pc := 1) d53_1 mo53 f4_53 rfl (am_c_aload_n hG (pc := 4) d53_4 rfl (x_get_n (v := .inl (μ o 3)) hG (pc := 5) d53_5 mo53 f4_38 rfl (x_icmp_ge (tgt := 23) hG (pc := 8) d53_8 rfl h (fun h => (am_c_aload_n hG (pc := 23) d53_23 rfl (x_get_n (v := .inr (.inr (3, am_ref o 1))) hG (pc := 24) d53_24 mo53 f4_20 rfl (xq_aret hG (by decide) hr (pc := 27) d53_27 rk53 rtg53 (am_q0 h))))) (fun h => (am_c_aload_n hG (pc := 11) d53_11 rfl (x_get_n (v := .inl (μ o 4)) hG (pc := 12) d53_12 mo53 f4_53 rfl (am_c_aload_n hG (pc := 15) d53_15 rfl (x_get_n (v := .inr (.inr (21, am_ref o 0))) hG (pc := 16) d53_16 mo53 f4_13 rfl (am_c_len hG (pc := 19) d53_19 (by decide) (x_icmp_lt (tgt := 28) hG (pc := 20) d53_20 rfl h (fun h => (am_c_aload_n hG (pc := 28) d53_28 rfl (am_c_dup hG (pc := 29) d53_29 rfl (x_get_n (v := .inl (μ o 4)) hG (pc := 30) d53_30 mo53 f4_53 rfl (am_c_iconst hG (pc := 33) d53_33 (by decide) (am_c_iadd hG (pc := 34) d53_34 (x_put_i hG (pc := 35) d53_35 mo53 f4_53 (by decide) (am_c_aload_n hG (pc := 38) d53_38 rfl (x_get_n (v := .inr (.inr (21, am_ref o 0))) hG (pc := 39) d53_39 mo53 f4_13 rfl (am_c_aload_n hG (pc := 42) d53_42 rfl (x_get_n (v := .inl ((am_up μ o 4 (w32 ((μ o 4) + 1))) o 4)) hG (pc := 43) d53_43 mo53 f4_53 rfl (am_c_iconst hG (pc := 46) d53_46 (by decide) (am_c_isub hG (pc := 47) d53_47 (x_aaload_L hG (pc := 48) d53_48 h (fun h => (xq_aret hG (by decide) hr (pc := 49) d53_49 rk53 rtg53 (am_q0 h))))))))))))))))) (fun h => (am_c_aload_n hG (pc := 23) d53_23 rfl (x_get_n (v := .inr (.inr (3, am_ref o 1))) hG (pc := 24) d53_24 mo53 f4_20 rfl (xq_aret hG (by decide) hr (pc := 27) d53_27 rk53 rtg53 (am_q0 h))))))))))))))))))
/-! java/lang/String.coder()B -/
theorem D54 (k : Nat) {pc : Nat} {i : Instr} (h : tbi54[k]? = some (pc, i)) (hs : am_isw i = false) {n : Nat} (hn : am_il i = n) : decode (am_mc 54) pc = .ok (i, n) := am_d2 (by decide) (by decide) rfl h hs hn
theorem d54_0 : decode (am_mc 54) 0 = .ok (.getstatic 38, 3) := D54 0 rfl rfl rfl
theorem d54_3 : decode (am_mc 54) 3 = .ok (.ifCond .eq 10, 3) := D54 1 rfl rfl rfl
theorem d54_6 : decode (am_mc 54) 6 = .ok (.aload_n 0, 1) := D54 2 rfl rfl rfl
theorem d54_7 : decode (am_mc 54) 7 = .ok (.getfield 15, 3) := D54 3 rfl rfl rfl
theorem d54_10 : decode (am_mc 54) 10 = .ok (.goto 4, 3) := D54 4 rfl rfl rfl
theorem d54_13 : decode (am_mc 54) 13 = .ok (.iconst 1, 1) := D54 5 rfl rfl rfl
theorem d54_14 : decode (am_mc 54) 14 = .ok (.ireturn, 1) := D54 6 rfl rfl rfl
theorem ml54 : ∀ n, n < 1 → n < am_ml 54 := fun _ h => h
theorem mo54 : am_mo 54 = 15 := by decide +kernel
theorem mr54 : am_mr 54 = some .byte := by decide +kernel
theorem rg54 : am_rcg 54 = 32 := by decide +kernel
def fn54 (o : Nat) (μ : am_M) : Option (Int × am_M) := (if (-128 : Int) ≤ 0 ∧ 0 ≤ 127 then some (0, μ) else none)
def sp54 : am_F := fun vs μ => am_aR 31 vs fun o vs => am_a0 vs (fn54 o μ)
theorem e54 (o : Nat) (μ : am_M) : sp54 [.inr (.inr (31, o))] μ = fn54 o μ := am_aR_c.trans am_a0_c
theorem sd54 : am_Sd 54 sp54 := by
  refine am_Sd_of (by decide) (fun vs μ μ' x h hv hM => ?_)
  obtain ⟨o, vs0, rfl, h0⟩ := am_aR_s h
  obtain ⟨rfl, hz⟩ := am_a0_s h0
  refine ⟨Nat.le_of_ble_eq_true rfl, fun X C hG hr => ?_⟩
  have h := hz
  unfold fn54 at h
  exact (show am_W X C 54 _ 0 0 0 [(0, .inr (.inr (31, o)))] [] μ from (am_c_getstatic hG (pc := 0) d54_0 (v := .inl 1) (by decide +kernel) (n_if_eq (tgt := 13) hG (pc := 3) d54_3 rfl (by decide) (am_c_aload_n hG (pc := 6) d54_6 rfl (am_c_strcod hG (pc := 7) d54_7 mo54 (x_goto (tgt := 14) hG (pc := 10) d54_10 rfl (xq_bret hG (by decide) hr (pc := 14) d54_14 mr54 h (fun h => (am_q0 h)))))))))
/-! java/lang/String.length()I -/
theorem D55 (k : Nat) {pc : Nat} {i : Instr} (h : tbi55[k]? = some (pc, i)) (hs : am_isw i = false) {n : Nat} (hn : am_il i = n) : decode (am_mc 55) pc = .ok (i, n) := am_d2 (by decide) (by decide) rfl h hs hn
theorem d55_0 : decode (am_mc 55) 0 = .ok (.aload_n 0, 1) := D55 0 rfl rfl rfl
theorem d55_1 : decode (am_mc 55) 1 = .ok (.getfield 9, 3) := D55 1 rfl rfl rfl
theorem d55_4 : decode (am_mc 55) 4 = .ok (.arraylength, 1) := D55 2 rfl rfl rfl
theorem d55_5 : decode (am_mc 55) 5 = .ok (.aload_n 0, 1) := D55 3 rfl rfl rfl
theorem d55_6 : decode (am_mc 55) 6 = .ok (.invokevirtual 335, 3) := D55 4 rfl rfl rfl
theorem d55_9 : decode (am_mc 55) 9 = .ok (.ishr, 1) := D55 5 rfl rfl rfl
theorem d55_10 : decode (am_mc 55) 10 = .ok (.ireturn, 1) := D55 6 rfl rfl rfl
theorem ml55 : ∀ n, n < 1 → n < am_ml 55 := fun _ h => h
theorem mo55 : am_mo 55 = 15 := by decide +kernel
theorem mr55 : am_mr 55 = some .int := by decide +kernel
theorem rg55 : am_rcg 55 = 32 := by decide +kernel
theorem m15_335 : tb_m 15 335 = some (54, 1, 1, 0) := by decide +kernel
theorem dp55_54 : am_md 54 + 1 ≤ am_md 55 ∧ 8 + (am_ml 54 + 11) + am_lr 54 ≤ am_lr 55 := by decide +kernel
def fn55 (o : Nat) (μ : am_M) : Option (Int × am_M) := (am_op (fn54 o μ) (fun z1 => some (o_shr (((am_slen o : Nat) : Int)) z1.1, z1.2)))
def sp55 : am_F := fun vs μ => am_aR 31 vs fun o vs => am_a0 vs (fn55 o μ)
theorem e55 (o : Nat) (μ : am_M) : sp55 [.inr (.inr (31, o))] μ = fn55 o μ := am_aR_c.trans am_a0_c
theorem sd55 : am_Sd 55 sp55 := by
  refine am_Sd_of (by decide) (fun vs μ μ' x h hv hM => ?_)
  obtain ⟨o, vs0, rfl, h0⟩ := am_aR_s h
  obtain ⟨rfl, hz⟩ := am_a0_s h0
  refine ⟨Nat.le_of_ble_eq_true rfl, fun X C hG hr => ?_⟩
  have h := hz
  unfold fn55 at h
  exact (show am_W X C 55 _ 0 0 0 [(0, .inr (.inr (31, o)))] [] μ from (am_c_aload_n hG (pc := 0) d55_0 rfl (am_c_strval hG (pc := 1) d55_1 mo55 (am_c_slen hG (pc := 4) d55_4 (am_c_aload_n hG (pc := 5) d55_5 rfl (x_virtual_i (t := 31) (o := o) (as2 := []) (rest := [.inl (((am_slen o : Nat) : Int))]) hG (pc := 6) d55_6 mo55 m15_335 (by decide) dp55_54 rfl rfl (Nat.le_of_ble_eq_true rfl) (Nat.le_of_ble_eq_true rfl) rg54 sd54 (e54 _ _) h (fun z1 h => (am_c_ishr hG (pc := 9) d55_9 (xq_iret hG (by decide) hr (pc := 10) d55_10 mr55 (am_q0 h))))))))))
/-! java/lang/String.isLatin1()Z -/
theorem D56 (k : Nat) {pc : Nat} {i : Instr} (h : tbi56[k]? = some (pc, i)) (hs : am_isw i = false) {n : Nat} (hn : am_il i = n) : decode (am_mc 56) pc = .ok (i, n) := am_d2 (by decide) (by decide) rfl h hs hn
theorem d56_0 : decode (am_mc 56) 0 = .ok (.getstatic 38, 3) := D56 0 rfl rfl rfl
theorem d56_3 : decode (am_mc 56) 3 = .ok (.ifCond .eq 14, 3) := D56 1 rfl rfl rfl
theorem d56_6 : decode (am_mc 56) 6 = .ok (.aload_n 0, 1) := D56 2 rfl rfl rfl
theorem d56_7 : decode (am_mc 56) 7 = .ok (.getfield 15, 3) := D56 3 rfl rfl rfl
theorem d56_10 : decode (am_mc 56) 10 = .ok (.ifCond .ne 7, 3) := D56 4 rfl rfl rfl
theorem d56_13 : decode (am_mc 56) 13 = .ok (.iconst 1, 1) := D56 5 rfl rfl rfl
theorem d56_14 : decode (am_mc 56) 14 = .ok (.goto 4, 3) := D56 6 rfl rfl rfl
theorem d56_17 : decode (am_mc 56) 17 = .ok (.iconst 0, 1) := D56 7 rfl rfl rfl
theorem d56_18 : decode (am_mc 56) 18 = .ok (.ireturn, 1) := D56 8 rfl rfl rfl
theorem ml56 : ∀ n, n < 1 → n < am_ml 56 := fun _ h => h
theorem mo56 : am_mo 56 = 15 := by decide +kernel
theorem mr56 : am_mr 56 = some .boolean := by decide +kernel
theorem rg56 : am_rcg 56 = 32 := by decide +kernel
def fn56 (o : Nat) (μ : am_M) : Option (Int × am_M) := some (1, μ)
def sp56 : am_F := fun vs μ => am_aR 31 vs fun o vs => am_a0 vs (fn56 o μ)
theorem e56 (o : Nat) (μ : am_M) : sp56 [.inr (.inr (31, o))] μ = fn56 o μ := am_aR_c.trans am_a0_c
theorem sd56 : am_Sd 56 sp56 := by
  refine am_Sd_of (by decide) (fun vs μ μ' x h hv hM => ?_)
  obtain ⟨o, vs0, rfl, h0⟩ := am_aR_s h
  obtain ⟨rfl, hz⟩ := am_a0_s h0
  refine ⟨Nat.le_of_ble_eq_true rfl, fun X C hG hr => ?_⟩
  have h := hz
  unfold fn56 at h
  exact (show am_W X C 56 _ 0 0 0 [(0, .inr (.inr (31, o)))] [] μ from (am_c_getstatic hG (pc := 0) d56_0 (v := .inl 1) (by decide +kernel) (n_if_eq (tgt := 17) hG (pc := 3) d56_3 rfl (by decide) (am_c_aload_n hG (pc := 6) d56_6 rfl (am_c_strcod hG (pc := 7) d56_7 mo56 (y_if_ne (tgt := 17) hG (pc := 10) d56_10 rfl (by decide) (am_c_iconst hG (pc := 13) d56_13 (by decide) (x_goto (tgt := 18) hG (pc := 14) d56_14 rfl (xq_zret1 hG (by decide) hr (pc := 18) d56_18 mr56 (am_q0 h))))))))))
/-! java/lang/StringLatin1.charAt([BI)C -/
theorem D58 (k : Nat) {pc : Nat} {i : Instr} (h : tbi58[k]? = some (pc, i)) (hs : am_isw i = false) {n : Nat} (hn : am_il i = n) : decode (am_mc 58) pc = .ok (i, n) := am_d2 (by decide) (by decide) rfl h hs hn
theorem d58_0 : decode (am_mc 58) 0 = .ok (.iload_n 1, 1) := D58 0 rfl rfl rfl
theorem d58_1 : decode (am_mc 58) 1 = .ok (.aload_n 0, 1) := D58 1 rfl rfl rfl
theorem d58_2 : decode (am_mc 58) 2 = .ok (.arraylength, 1) := D58 2 rfl rfl rfl
theorem d58_3 : decode (am_mc 58) 3 = .ok (.invokestatic 9, 3) := D58 3 rfl rfl rfl
theorem d58_6 : decode (am_mc 58) 6 = .ok (.aload_n 0, 1) := D58 4 rfl rfl rfl
theorem d58_7 : decode (am_mc 58) 7 = .ok (.iload_n 1, 1) := D58 5 rfl rfl rfl
theorem d58_8 : decode (am_mc 58) 8 = .ok (.baload, 1) := D58 6 rfl rfl rfl
theorem d58_9 : decode (am_mc 58) 9 = .ok (.sipush 255, 3) := D58 7 rfl rfl rfl
theorem d58_12 : decode (am_mc 58) 12 = .ok (.iand, 1) := D58 8 rfl rfl rfl
theorem d58_13 : decode (am_mc 58) 13 = .ok (.i2c, 1) := D58 9 rfl rfl rfl
theorem d58_14 : decode (am_mc 58) 14 = .ok (.ireturn, 1) := D58 10 rfl rfl rfl
theorem ml58 : ∀ n, n < 2 → n < am_ml 58 := fun _ h => h
theorem mo58 : am_mo 58 = 16 := by decide +kernel
theorem mr58 : am_mr 58 = some .char := by decide +kernel
theorem rg58 : am_rcg 58 = 0 := by decide +kernel
theorem m16_9 : tb_m 16 9 = some (57, 2, 0, 0) := by decide +kernel
theorem dp58_57 : am_md 57 + 1 ≤ am_md 58 ∧ 8 + (am_ml 57 + 11) + am_lr 57 ≤ am_lr 58 := by decide +kernel
def fn58 (a : Nat) (b : Int) (μ : am_M) : Option (Int × am_M) := (am_op (fn57 b (((am_slen a : Nat) : Int)) μ) (fun z1 => (if (0 : Int) ≤ b ∧ b < ((am_slen a : Nat) : Int) then (if (0 : Int) ≤ o_i2c (o_and (am_schr a (b : Int).toNat) 255) ∧ o_i2c (o_and (am_schr a (b : Int).toNat) 255) ≤ 65535 then some (o_i2c (o_and (am_schr a (b : Int).toNat) 255), z1.2) else none) else none)))
def sp58 : am_F := fun vs μ => am_aR 32 vs fun a vs => am_aI vs fun b vs => am_a0 vs (fn58 a b μ)
theorem e58 (a : Nat) (b : Int) (μ : am_M) : sp58 [.inr (.inr (32, a)), .inl b] μ = fn58 a b μ := am_aR_c.trans (am_aI_c.trans am_a0_c)
theorem sd58 : am_Sd 58 sp58 := by
  refine am_Sd_of (by decide) (fun vs μ μ' x h hv hM => ?_)
  obtain ⟨a, vs0, rfl, h0⟩ := am_aR_s h
  obtain ⟨b, vs1, rfl, h1⟩ := am_aI_s h0
  obtain ⟨rfl, hz⟩ := am_a0_s h1
  refine ⟨Nat.le_of_ble_eq_true rfl, fun X C hG hr => ?_⟩
  have h := hz
  unfold fn58 at h
  exact (show am_W X C 58 _ 0 0 0 [(0, .inr (.inr (32, a))), (1, .inl b)] [] μ from (am_c_iload_n hG (pc := 0) d58_0 rfl (am_c_aload_n hG (pc := 1) d58_1 rfl (am_c_slen hG (pc := 2) d58_2 (x_static_v (as := [.inl b, .inl (((am_slen a : Nat) : Int))]) (rest := []) hG (pc := 3) d58_3 mo58 m16_9 (by decide) dp58_57 rfl rfl (Nat.le_of_ble_eq_true rfl) (Nat.le_of_ble_eq_true rfl) rg57 sd57 (e57 _ _ _) h (fun z1 h => (am_c_aload_n hG (pc := 6) d58_6 rfl (am_c_iload_n hG (pc := 7) d58_7 rfl (x_saload hG (pc := 8) d58_8 h (fun h => (am_c_sipush hG (pc := 9) d58_9 (by decide) (am_c_iand hG (pc := 12) d58_12 (am_c_i2c hG (pc := 13) d58_13 (xq_cret hG (by decide) hr (pc := 14) d58_14 mr58 h (fun h => (am_q0 h))))))))))))))))
