/-! ChartPress.draw(): it answers, or throws (0 IllegalArgument, 1 UnsupportedOperation, 2 IllegalState, 3 Arithmetic, 4 IndexOutOfBounds). -/
theorem d232_0 : decode (am_mc 232) 0 = .ok (.aload_n 0, 1) := by decide +kernel
theorem d232_1 : decode (am_mc 232) 1 = .ok (.getfield 24, 3) := by decide +kernel
theorem d232_4 : decode (am_mc 232) 4 = .ok (.aload_n 0, 1) := by decide +kernel
theorem d232_5 : decode (am_mc 232) 5 = .ok (.getfield 14, 3) := by decide +kernel
theorem d232_8 : decode (am_mc 232) 8 = .ok (.invokevirtual 94, 3) := by decide +kernel
theorem d232_11 : decode (am_mc 232) 11 = .ok (.aload_n 0, 1) := by decide +kernel
theorem d232_12 : decode (am_mc 232) 12 = .ok (.getfield 24, 3) := by decide +kernel
theorem d232_15 : decode (am_mc 232) 15 = .ok (.invokevirtual 98, 3) := by decide +kernel
theorem d232_18 : decode (am_mc 232) 18 = .ok (.ifCond .ne 13, 3) := by decide +kernel
theorem d232_21 : decode (am_mc 232) 21 = .ok (.new 102, 3) := by decide +kernel
theorem d232_24 : decode (am_mc 232) 24 = .ok (.dup, 1) := by decide +kernel
theorem d232_25 : decode (am_mc 232) 25 = .ok (.ldc 104, 2) := by decide +kernel
theorem d232_27 : decode (am_mc 232) 27 = .ok (.invokespecial 106, 3) := by decide +kernel
theorem d232_30 : decode (am_mc 232) 30 = .ok (.athrow, 1) := by decide +kernel
theorem d232_31 : decode (am_mc 232) 31 = .ok (.aload_n 0, 1) := by decide +kernel
theorem d232_32 : decode (am_mc 232) 32 = .ok (.getfield 24, 3) := by decide +kernel
theorem d232_35 : decode (am_mc 232) 35 = .ok (.invokevirtual 109, 3) := by decide +kernel
theorem d232_38 : decode (am_mc 232) 38 = .ok (.ifCond .ne 13, 3) := by decide +kernel
theorem d232_41 : decode (am_mc 232) 41 = .ok (.new 112, 3) := by decide +kernel
theorem d232_44 : decode (am_mc 232) 44 = .ok (.dup, 1) := by decide +kernel
theorem d232_45 : decode (am_mc 232) 45 = .ok (.ldc 114, 2) := by decide +kernel
theorem d232_47 : decode (am_mc 232) 47 = .ok (.invokespecial 116, 3) := by decide +kernel
theorem d232_50 : decode (am_mc 232) 50 = .ok (.athrow, 1) := by decide +kernel
theorem d232_51 : decode (am_mc 232) 51 = .ok (.aload_n 0, 1) := by decide +kernel
theorem d232_52 : decode (am_mc 232) 52 = .ok (.getfield 31, 3) := by decide +kernel
theorem d232_55 : decode (am_mc 232) 55 = .ok (.aload_n 0, 1) := by decide +kernel
theorem d232_56 : decode (am_mc 232) 56 = .ok (.getfield 18, 3) := by decide +kernel
theorem d232_59 : decode (am_mc 232) 59 = .ok (.aload_n 0, 1) := by decide +kernel
theorem d232_60 : decode (am_mc 232) 60 = .ok (.getfield 24, 3) := by decide +kernel
theorem d232_63 : decode (am_mc 232) 63 = .ok (.invokevirtual 117, 3) := by decide +kernel
theorem d232_66 : decode (am_mc 232) 66 = .ok (.ifCond .ne 13, 3) := by decide +kernel
theorem d232_69 : decode (am_mc 232) 69 = .ok (.new 120, 3) := by decide +kernel
theorem d232_72 : decode (am_mc 232) 72 = .ok (.dup, 1) := by decide +kernel
theorem d232_73 : decode (am_mc 232) 73 = .ok (.ldc 122, 2) := by decide +kernel
theorem d232_75 : decode (am_mc 232) 75 = .ok (.invokespecial 124, 3) := by decide +kernel
theorem d232_78 : decode (am_mc 232) 78 = .ok (.athrow, 1) := by decide +kernel
theorem d232_79 : decode (am_mc 232) 79 = .ok (.aload_n 0, 1) := by decide +kernel
theorem d232_80 : decode (am_mc 232) 80 = .ok (.getfield 38, 3) := by decide +kernel
theorem d232_83 : decode (am_mc 232) 83 = .ok (.aload_n 0, 1) := by decide +kernel
theorem d232_84 : decode (am_mc 232) 84 = .ok (.getfield 24, 3) := by decide +kernel
theorem d232_87 : decode (am_mc 232) 87 = .ok (.aload_n 0, 1) := by decide +kernel
theorem d232_88 : decode (am_mc 232) 88 = .ok (.getfield 31, 3) := by decide +kernel
theorem d232_91 : decode (am_mc 232) 91 = .ok (.invokevirtual 125, 3) := by decide +kernel
theorem d232_94 : decode (am_mc 232) 94 = .ok (.aload_n 0, 1) := by decide +kernel
theorem d232_95 : decode (am_mc 232) 95 = .ok (.getfield 38, 3) := by decide +kernel
theorem d232_98 : decode (am_mc 232) 98 = .ok (.invokevirtual 129, 3) := by decide +kernel
theorem d232_101 : decode (am_mc 232) 101 = .ok (.iconst 1, 1) := by decide +kernel
theorem d232_102 : decode (am_mc 232) 102 = .ok (.if_icmp .lt 15, 3) := by decide +kernel
theorem d232_105 : decode (am_mc 232) 105 = .ok (.aload_n 0, 1) := by decide +kernel
theorem d232_106 : decode (am_mc 232) 106 = .ok (.getfield 38, 3) := by decide +kernel
theorem d232_109 : decode (am_mc 232) 109 = .ok (.invokevirtual 129, 3) := by decide +kernel
theorem d232_112 : decode (am_mc 232) 112 = .ok (.bipush 8, 2) := by decide +kernel
theorem d232_114 : decode (am_mc 232) 114 = .ok (.if_icmp .le 13, 3) := by decide +kernel
theorem d232_117 : decode (am_mc 232) 117 = .ok (.new 133, 3) := by decide +kernel
theorem d232_120 : decode (am_mc 232) 120 = .ok (.dup, 1) := by decide +kernel
theorem d232_121 : decode (am_mc 232) 121 = .ok (.ldc 135, 2) := by decide +kernel
theorem d232_123 : decode (am_mc 232) 123 = .ok (.invokespecial 137, 3) := by decide +kernel
theorem d232_126 : decode (am_mc 232) 126 = .ok (.athrow, 1) := by decide +kernel
theorem d232_127 : decode (am_mc 232) 127 = .ok (.aload_n 0, 1) := by decide +kernel
theorem d232_128 : decode (am_mc 232) 128 = .ok (.getfield 45, 3) := by decide +kernel
theorem d232_131 : decode (am_mc 232) 131 = .ok (.aload_n 0, 1) := by decide +kernel
theorem d232_132 : decode (am_mc 232) 132 = .ok (.getfield 38, 3) := by decide +kernel
theorem d232_135 : decode (am_mc 232) 135 = .ok (.aload_n 0, 1) := by decide +kernel
theorem d232_136 : decode (am_mc 232) 136 = .ok (.getfield 31, 3) := by decide +kernel
theorem d232_139 : decode (am_mc 232) 139 = .ok (.invokevirtual 138, 3) := by decide +kernel
theorem d232_142 : decode (am_mc 232) 142 = .ok (.aload_n 0, 1) := by decide +kernel
theorem d232_143 : decode (am_mc 232) 143 = .ok (.getfield 52, 3) := by decide +kernel
theorem d232_146 : decode (am_mc 232) 146 = .ok (.aload_n 0, 1) := by decide +kernel
theorem d232_147 : decode (am_mc 232) 147 = .ok (.getfield 38, 3) := by decide +kernel
theorem d232_150 : decode (am_mc 232) 150 = .ok (.aload_n 0, 1) := by decide +kernel
theorem d232_151 : decode (am_mc 232) 151 = .ok (.getfield 45, 3) := by decide +kernel
theorem d232_154 : decode (am_mc 232) 154 = .ok (.aload_n 0, 1) := by decide +kernel
theorem d232_155 : decode (am_mc 232) 155 = .ok (.getfield 59, 3) := by decide +kernel
theorem d232_158 : decode (am_mc 232) 158 = .ok (.aload_n 0, 1) := by decide +kernel
theorem d232_159 : decode (am_mc 232) 159 = .ok (.getfield 68, 3) := by decide +kernel
theorem d232_162 : decode (am_mc 232) 162 = .ok (.invokevirtual 142, 3) := by decide +kernel
theorem d232_165 : decode (am_mc 232) 165 = .ok (.ifCond .ne 13, 3) := by decide +kernel
theorem d232_168 : decode (am_mc 232) 168 = .ok (.new 146, 3) := by decide +kernel
theorem d232_171 : decode (am_mc 232) 171 = .ok (.dup, 1) := by decide +kernel
theorem d232_172 : decode (am_mc 232) 172 = .ok (.ldc 148, 2) := by decide +kernel
theorem d232_174 : decode (am_mc 232) 174 = .ok (.invokespecial 150, 3) := by decide +kernel
theorem d232_177 : decode (am_mc 232) 177 = .ok (.athrow, 1) := by decide +kernel
theorem d232_178 : decode (am_mc 232) 178 = .ok (.aload_n 0, 1) := by decide +kernel
theorem d232_179 : decode (am_mc 232) 179 = .ok (.invokevirtual 151, 3) := by decide +kernel
theorem d232_182 : decode (am_mc 232) 182 = .ok (.aload_n 0, 1) := by decide +kernel
theorem d232_183 : decode (am_mc 232) 183 = .ok (.invokevirtual 154, 3) := by decide +kernel
theorem d232_186 : decode (am_mc 232) 186 = .ok (.aload_n 0, 1) := by decide +kernel
theorem d232_187 : decode (am_mc 232) 187 = .ok (.getfield 38, 3) := by decide +kernel
theorem d232_190 : decode (am_mc 232) 190 = .ok (.invokevirtual 129, 3) := by decide +kernel
theorem d232_193 : decode (am_mc 232) 193 = .ok (.ireturn, 1) := by decide +kernel
theorem ml232 : ∀ n, n < 1 → n < am_ml 232 := fun _ h => h
theorem mo232 : am_mo 232 = 0 := by decide +kernel
theorem m0_98 : tb_m 0 98 = some (48, 1, 1, 0) := by decide +kernel
theorem m0_117 : tb_m 0 117 = some (77, 3, 1, 0) := by decide +kernel
theorem m0_125 : tb_m 0 125 = some (100, 3, 0, 0) := by decide +kernel
theorem m0_138 : tb_m 0 138 = some (114, 3, 0, 0) := by decide +kernel
theorem m0_142 : tb_m 0 142 = some (132, 5, 1, 0) := by decide +kernel
theorem m0_151 : tb_m 0 151 = some (158, 1, 0, 0) := by decide +kernel
theorem m0_154 : tb_m 0 154 = some (162, 1, 0, 0) := by decide +kernel
theorem dp232_42 : am_md 42 + 1 ≤ am_md 232 ∧ 8 + (am_ml 42 + 11) + am_lr 42 ≤ am_lr 232 := by decide +kernel
theorem dp232_43 : am_md 43 + 1 ≤ am_md 232 ∧ 8 + (am_ml 43 + 11) + am_lr 43 ≤ am_lr 232 := by decide +kernel
theorem dp232_48 : am_md 48 + 1 ≤ am_md 232 ∧ 8 + (am_ml 48 + 11) + am_lr 48 ≤ am_lr 232 := by decide +kernel
theorem dp232_77 : am_md 77 + 1 ≤ am_md 232 ∧ 8 + (am_ml 77 + 11) + am_lr 77 ≤ am_lr 232 := by decide +kernel
theorem dp232_100 : am_md 100 + 1 ≤ am_md 232 ∧ 8 + (am_ml 100 + 11) + am_lr 100 ≤ am_lr 232 := by decide +kernel
theorem dp232_101 : am_md 101 + 1 ≤ am_md 232 ∧ 8 + (am_ml 101 + 11) + am_lr 101 ≤ am_lr 232 := by decide +kernel
theorem dp232_114 : am_md 114 + 1 ≤ am_md 232 ∧ 8 + (am_ml 114 + 11) + am_lr 114 ≤ am_lr 232 := by decide +kernel
theorem dp232_132 : am_md 132 + 1 ≤ am_md 232 ∧ 8 + (am_ml 132 + 11) + am_lr 132 ≤ am_lr 232 := by decide +kernel
theorem dp232_158 : am_md 158 + 1 ≤ am_md 232 ∧ 8 + (am_ml 158 + 11) + am_lr 158 ≤ am_lr 232 := by decide +kernel
theorem dp232_162 : am_md 162 + 1 ≤ am_md 232 ∧ 8 + (am_ml 162 + 11) + am_lr 162 ≤ am_lr 232 := by decide +kernel
def fn232 (o : Nat) (μ : am_M) : Option ((Int × am_M) ⊕ (Nat × am_M)) := (am_op (fn42 (am_ref o 2) (am_ref o 0) μ) (fun z1 => (am_op (fn48 (am_ref o 2) z1.2) (fun z2 => (if z2.1 = 0 then (some (.inr (0, z2.2))) else (am_op (fn43 (am_ref o 2) z2.2) (fun z3 => (if z3.1 = 0 then (some (.inr (1, z3.2))) else (am_op (fn77 (am_ref o 3) (am_ref o 1) (am_ref o 2) z3.2) (fun z4 => (if z4.1 = 0 then (some (.inr (2, z4.2))) else (am_op (fn100 (am_ref o 4) (am_ref o 2) (am_ref o 3) z4.2) (fun z5 => (am_op (fn101 (am_ref o 4) z5.2) (fun z6 => (if z6.1 < 1 then (some (.inr (3, z6.2))) else (am_op (fn101 (am_ref o 4) z6.2) (fun z7 => (if 8 < z7.1 then (some (.inr (3, z7.2))) else (am_op (fn114 (am_ref o 5) (am_ref o 4) (am_ref o 3) z7.2) (fun z8 => (am_op (fn132 (am_ref o 6) (am_ref o 4) (am_ref o 5) (am_ref o 7) (am_ref o 8) z8.2) (fun z9 => (if z9.1 = 0 then (some (.inr (4, z9.2))) else (am_op (fn158 o z9.2) (fun z10 => (am_op (fn162 o z10.2) (fun z11 => (am_op (fn101 (am_ref o 4) z11.2) (fun z12 => (some (.inl (z12.1, z12.2)))))))))))))))))))))))))))))))))
theorem w232 {X : am_K} {C : am_C} {Q : State → Prop} (hG : am_G X C 232 0 0 (0, fun _ => 0)) {o : Nat} {μ : am_M} {r : (Int × am_M) ⊕ (Nat × am_M)} (hz : fn232 o μ = some r) (hI : ∀ x m2, r = .inl (x, m2) → am_W X C 232 Q 0 0 193 [(0, .inr (.inr (0, o)))] [.inl x] m2) (hT117 : ∀ m2, some (Sum.inr (3, m2)) = some r → am_W X C 232 Q 0 0 117 [(0, .inr (.inr (0, o)))] [] m2) (hT168 : ∀ m2, some (Sum.inr (4, m2)) = some r → am_W X C 232 Q 0 0 168 [(0, .inr (.inr (0, o)))] [] m2) (hT69 : ∀ m2, some (Sum.inr (2, m2)) = some r → am_W X C 232 Q 0 0 69 [(0, .inr (.inr (0, o)))] [] m2) (hT41 : ∀ m2, some (Sum.inr (1, m2)) = some r → am_W X C 232 Q 0 0 41 [(0, .inr (.inr (0, o)))] [] m2) (hT21 : ∀ m2, some (Sum.inr (0, m2)) = some r → am_W X C 232 Q 0 0 21 [(0, .inr (.inr (0, o)))] [] m2) : am_W X C 232 Q 0 0 0 [(0, .inr (.inr (0, o)))] [] μ := by
  have h := hz
  unfold fn232 at h
  exact (am_c_aload_n hG (pc := 0) d232_0 rfl (x_get_n (v := .inr (.inr (2, am_ref o 2))) hG (pc := 1) d232_1 mo232 f0_24 rfl (am_c_aload_n hG (pc := 4) d232_4 rfl (x_get_n (v := .inr (.inr (1, am_ref o 0))) hG (pc := 5) d232_5 mo232 f0_14 rfl (x_virtual_v (t := 2) (o := am_ref o 2) (as2 := [.inr (.inr (1, am_ref o 0))]) (rest := []) hG (pc := 8) d232_8 mo232 m0_94 (by decide) dp232_42 rfl rfl (Nat.le_of_ble_eq_true rfl) (Nat.le_of_ble_eq_true rfl) rg42 sd42 (e42 _ _ _) h (fun z1 h => (am_c_aload_n hG (pc := 11) d232_11 rfl (x_get_n (v := .inr (.inr (2, am_ref o 2))) hG (pc := 12) d232_12 mo232 f0_24 rfl (x_virtual_i (t := 2) (o := am_ref o 2) (as2 := []) (rest := []) hG (pc := 15) d232_15 mo232 m0_98 (by decide) dp232_48 rfl rfl (Nat.le_of_ble_eq_true rfl) (Nat.le_of_ble_eq_true rfl) rg48 sd48 (e48 _ _) h (fun z2 h => (x_if_ne (tgt := 31) hG (pc := 18) d232_18 rfl h (fun h => (am_c_aload_n hG (pc := 31) d232_31 rfl (x_get_n (v := .inr (.inr (2, am_ref o 2))) hG (pc := 32) d232_32 mo232 f0_24 rfl (x_virtual_i (t := 2) (o := am_ref o 2) (as2 := []) (rest := []) hG (pc := 35) d232_35 mo232 m0_109 (by decide) dp232_43 rfl rfl (Nat.le_of_ble_eq_true rfl) (Nat.le_of_ble_eq_true rfl) rg43 sd43 (e43 _ _) h (fun z3 h => (x_if_ne (tgt := 51) hG (pc := 38) d232_38 rfl h (fun h => (am_c_aload_n hG (pc := 51) d232_51 rfl (x_get_n (v := .inr (.inr (4, am_ref o 3))) hG (pc := 52) d232_52 mo232 f0_31 rfl (am_c_aload_n hG (pc := 55) d232_55 rfl (x_get_n (v := .inr (.inr (1, am_ref o 1))) hG (pc := 56) d232_56 mo232 f0_18 rfl (am_c_aload_n hG (pc := 59) d232_59 rfl (x_get_n (v := .inr (.inr (2, am_ref o 2))) hG (pc := 60) d232_60 mo232 f0_24 rfl (x_virtual_i (t := 4) (o := am_ref o 3) (as2 := [.inr (.inr (1, am_ref o 1)), .inr (.inr (2, am_ref o 2))]) (rest := []) hG (pc := 63) d232_63 mo232 m0_117 (by decide) dp232_77 rfl rfl (Nat.le_of_ble_eq_true rfl) (Nat.le_of_ble_eq_true rfl) rg77 sd77 (e77 _ _ _ _) h (fun z4 h => (x_if_ne (tgt := 79) hG (pc := 66) d232_66 rfl h (fun h => (am_c_aload_n hG (pc := 79) d232_79 rfl (x_get_n (v := .inr (.inr (6, am_ref o 4))) hG (pc := 80) d232_80 mo232 f0_38 rfl (am_c_aload_n hG (pc := 83) d232_83 rfl (x_get_n (v := .inr (.inr (2, am_ref o 2))) hG (pc := 84) d232_84 mo232 f0_24 rfl (am_c_aload_n hG (pc := 87) d232_87 rfl (x_get_n (v := .inr (.inr (4, am_ref o 3))) hG (pc := 88) d232_88 mo232 f0_31 rfl (x_virtual_v (t := 6) (o := am_ref o 4) (as2 := [.inr (.inr (2, am_ref o 2)), .inr (.inr (4, am_ref o 3))]) (rest := []) hG (pc := 91) d232_91 mo232 m0_125 (by decide) dp232_100 rfl rfl (Nat.le_of_ble_eq_true rfl) (Nat.le_of_ble_eq_true rfl) rg100 sd100 (e100 _ _ _ _) h (fun z5 h => (am_c_aload_n hG (pc := 94) d232_94 rfl (x_get_n (v := .inr (.inr (6, am_ref o 4))) hG (pc := 95) d232_95 mo232 f0_38 rfl (x_virtual_i (t := 6) (o := am_ref o 4) (as2 := []) (rest := []) hG (pc := 98) d232_98 mo232 m0_129 (by decide) dp232_101 rfl rfl (Nat.le_of_ble_eq_true rfl) (Nat.le_of_ble_eq_true rfl) rg101 sd101 (e101 _ _) h (fun z6 h => (am_c_iconst hG (pc := 101) d232_101 (by decide) (x_icmp_lt (tgt := 117) hG (pc := 102) d232_102 rfl h (fun h => (hT117 _ h)) (fun h => (am_c_aload_n hG (pc := 105) d232_105 rfl (x_get_n (v := .inr (.inr (6, am_ref o 4))) hG (pc := 106) d232_106 mo232 f0_38 rfl (x_virtual_i (t := 6) (o := am_ref o 4) (as2 := []) (rest := []) hG (pc := 109) d232_109 mo232 m0_129 (by decide) dp232_101 rfl rfl (Nat.le_of_ble_eq_true rfl) (Nat.le_of_ble_eq_true rfl) rg101 sd101 (e101 _ _) h (fun z7 h => (am_c_bipush hG (pc := 112) d232_112 (by decide) (x_icmp_le (tgt := 127) hG (pc := 114) d232_114 rfl h (fun h => (am_c_aload_n hG (pc := 127) d232_127 rfl (x_get_n (v := .inr (.inr (8, am_ref o 5))) hG (pc := 128) d232_128 mo232 f0_45 rfl (am_c_aload_n hG (pc := 131) d232_131 rfl (x_get_n (v := .inr (.inr (6, am_ref o 4))) hG (pc := 132) d232_132 mo232 f0_38 rfl (am_c_aload_n hG (pc := 135) d232_135 rfl (x_get_n (v := .inr (.inr (4, am_ref o 3))) hG (pc := 136) d232_136 mo232 f0_31 rfl (x_virtual_v (t := 8) (o := am_ref o 5) (as2 := [.inr (.inr (6, am_ref o 4)), .inr (.inr (4, am_ref o 3))]) (rest := []) hG (pc := 139) d232_139 mo232 m0_138 (by decide) dp232_114 rfl rfl (Nat.le_of_ble_eq_true rfl) (Nat.le_of_ble_eq_true rfl) rg114 sd114 (e114 _ _ _ _) h (fun z8 h => (am_c_aload_n hG (pc := 142) d232_142 rfl (x_get_n (v := .inr (.inr (9, am_ref o 6))) hG (pc := 143) d232_143 mo232 f0_52 rfl (am_c_aload_n hG (pc := 146) d232_146 rfl (x_get_n (v := .inr (.inr (6, am_ref o 4))) hG (pc := 147) d232_147 mo232 f0_38 rfl (am_c_aload_n hG (pc := 150) d232_150 rfl (x_get_n (v := .inr (.inr (8, am_ref o 5))) hG (pc := 151) d232_151 mo232 f0_45 rfl (am_c_aload_n hG (pc := 154) d232_154 rfl (x_get_n (v := .inr (.inr (10, am_ref o 7))) hG (pc := 155) d232_155 mo232 f0_59 rfl (am_c_aload_n hG (pc := 158) d232_158 rfl (x_get_n (v := .inr (.inr (3, am_ref o 8))) hG (pc := 159) d232_159 mo232 f0_68 rfl (x_virtual_i (t := 9) (o := am_ref o 6) (as2 := [.inr (.inr (6, am_ref o 4)), .inr (.inr (8, am_ref o 5)), .inr (.inr (10, am_ref o 7)), .inr (.inr (3, am_ref o 8))]) (rest := []) hG (pc := 162) d232_162 mo232 m0_142 (by decide) dp232_132 rfl rfl (Nat.le_of_ble_eq_true rfl) (Nat.le_of_ble_eq_true rfl) rg132 sd132 (e132 _ _ _ _ _ _) h (fun z9 h => (x_if_ne (tgt := 178) hG (pc := 165) d232_165 rfl h (fun h => (am_c_aload_n hG (pc := 178) d232_178 rfl (x_virtual_v (t := 0) (o := o) (as2 := []) (rest := []) hG (pc := 179) d232_179 mo232 m0_151 (by decide) dp232_158 rfl rfl (Nat.le_of_ble_eq_true rfl) (Nat.le_of_ble_eq_true rfl) rg158 sd158 (e158 _ _) h (fun z10 h => (am_c_aload_n hG (pc := 182) d232_182 rfl (x_virtual_v (t := 0) (o := o) (as2 := []) (rest := []) hG (pc := 183) d232_183 mo232 m0_154 (by decide) dp232_162 rfl rfl (Nat.le_of_ble_eq_true rfl) (Nat.le_of_ble_eq_true rfl) rg162 sd162 (e162 _ _) h (fun z11 h => (am_c_aload_n hG (pc := 186) d232_186 rfl (x_get_n (v := .inr (.inr (6, am_ref o 4))) hG (pc := 187) d232_187 mo232 f0_38 rfl (x_virtual_i (t := 6) (o := am_ref o 4) (as2 := []) (rest := []) hG (pc := 190) d232_190 mo232 m0_129 (by decide) dp232_101 rfl rfl (Nat.le_of_ble_eq_true rfl) (Nat.le_of_ble_eq_true rfl) rg101 sd101 (e101 _ _) h (fun z12 h => (hI _ _ (Option.some.inj h).symm)))))))))))) (fun h => (hT168 _ h)))))))))))))))))))))))) (fun h => (hT117 _ h)))))))))))))))))))))))) (fun h => (hT69 _ h)))))))))))) (fun h => (hT41 _ h)))))))) (fun h => (hT21 _ h)))))))))))))
