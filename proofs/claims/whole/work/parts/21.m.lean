/-! Methods as functions with their contracts (written by program). -/
/-! java/lang/String.charAt(I)C -/
theorem D59 (k : Nat) {pc : Nat} {i : Instr} (h : tbi59[k]? = some (pc, i)) (hs : am_isw i = false) {n : Nat} (hn : am_il i = n) : decode (am_mc 59) pc = .ok (i, n) := am_d2 (by decide) (by decide) rfl h hs hn
theorem d59_0 : decode (am_mc 59) 0 = .ok (.aload_n 0, 1) := D59 0 rfl rfl rfl
theorem d59_1 : decode (am_mc 59) 1 = .ok (.invokevirtual 492, 3) := D59 1 rfl rfl rfl
theorem d59_4 : decode (am_mc 59) 4 = .ok (.ifCond .eq 12, 3) := D59 2 rfl rfl rfl
theorem d59_7 : decode (am_mc 59) 7 = .ok (.aload_n 0, 1) := D59 3 rfl rfl rfl
theorem d59_8 : decode (am_mc 59) 8 = .ok (.getfield 9, 3) := D59 4 rfl rfl rfl
theorem d59_11 : decode (am_mc 59) 11 = .ok (.iload_n 1, 1) := D59 5 rfl rfl rfl
theorem d59_12 : decode (am_mc 59) 12 = .ok (.invokestatic 495, 3) := D59 6 rfl rfl rfl
theorem d59_15 : decode (am_mc 59) 15 = .ok (.ireturn, 1) := D59 7 rfl rfl rfl
theorem d59_16 : decode (am_mc 59) 16 = .ok (.aload_n 0, 1) := D59 8 rfl rfl rfl
theorem d59_17 : decode (am_mc 59) 17 = .ok (.getfield 9, 3) := D59 9 rfl rfl rfl
theorem d59_20 : decode (am_mc 59) 20 = .ok (.iload_n 1, 1) := D59 10 rfl rfl rfl
theorem d59_21 : decode (am_mc 59) 21 = .ok (.invokestatic 498, 3) := D59 11 rfl rfl rfl
theorem d59_24 : decode (am_mc 59) 24 = .ok (.ireturn, 1) := D59 12 rfl rfl rfl
theorem ml59 : ∀ n, n < 2 → n < am_ml 59 := fun _ h => h
theorem mo59 : am_mo 59 = 15 := by decide +kernel
theorem mr59 : am_mr 59 = some .char := by decide +kernel
theorem rg59 : am_rcg 59 = 32 := by decide +kernel
theorem m15_492 : tb_m 15 492 = some (56, 1, 1, 0) := by decide +kernel
theorem m15_495 : tb_m 15 495 = some (58, 2, 1, 0) := by decide +kernel
theorem dp59_56 : am_md 56 + 1 ≤ am_md 59 ∧ 8 + (am_ml 56 + 11) + am_lr 56 ≤ am_lr 59 := by decide +kernel
theorem dp59_58 : am_md 58 + 1 ≤ am_md 59 ∧ 8 + (am_ml 58 + 11) + am_lr 58 ≤ am_lr 59 := by decide +kernel
def fn59 (o : Nat) (a : Int) (μ : am_M) : Option (Int × am_M) := (am_op (fn56 o μ) (fun z1 => (if z1.1 = 0 then none else (am_op (fn58 o a z1.2) (fun z2 => (if (0 : Int) ≤ z2.1 ∧ z2.1 ≤ 65535 then some (z2.1, z2.2) else none))))))
def sp59 : am_F := fun vs μ => am_aR 31 vs fun o vs => am_aI vs fun a vs => am_a0 vs (fn59 o a μ)
theorem e59 (o : Nat) (a : Int) (μ : am_M) : sp59 [.inr (.inr (31, o)), .inl a] μ = fn59 o a μ := am_aR_c.trans (am_aI_c.trans am_a0_c)
theorem sd59 : am_Sd 59 sp59 := by
  refine am_Sd_of (by decide) (fun vs μ μ' x h hv hM => ?_)
  obtain ⟨o, vs0, rfl, h0⟩ := am_aR_s h
  obtain ⟨a, vs1, rfl, h1⟩ := am_aI_s h0
  obtain ⟨rfl, hz⟩ := am_a0_s h1
  refine ⟨Nat.le_of_ble_eq_true rfl, fun X C hG hr => ?_⟩
  have h := hz
  unfold fn59 at h
  exact (show am_W X C 59 _ 0 0 0 [(0, .inr (.inr (31, o))), (1, .inl a)] [] μ from (am_c_aload_n hG (pc := 0) d59_0 rfl (x_virtual_i (t := 31) (o := o) (as2 := []) (rest := []) hG (pc := 1) d59_1 mo59 m15_492 (by decide) dp59_56 rfl rfl (Nat.le_of_ble_eq_true rfl) (Nat.le_of_ble_eq_true rfl) rg56 sd56 (e56 _ _) h (fun z1 h => (x_if_eq (tgt := 16) hG (pc := 4) d59_4 rfl h (fun h => (am_c_aload_n hG (pc := 16) d59_16 rfl (am_c_strval hG (pc := 17) d59_17 mo59 (am_c_iload_n hG (pc := 20) d59_20 rfl (by cases h))))) (fun h => (am_c_aload_n hG (pc := 7) d59_7 rfl (am_c_strval hG (pc := 8) d59_8 mo59 (am_c_iload_n hG (pc := 11) d59_11 rfl (x_static_i (as := [.inr (.inr (32, o)), .inl a]) (rest := []) hG (pc := 12) d59_12 mo59 m15_495 (by decide) dp59_58 rfl rfl (Nat.le_of_ble_eq_true rfl) (Nat.le_of_ble_eq_true rfl) rg58 sd58 (e58 _ _ _) h (fun z2 h => (xq_cret hG (by decide) hr (pc := 15) d59_15 mr59 h (fun h => (am_q0 h))))))))))))))
/-! ChartPress$Letters.is(Ljava/lang/String;)Z -/
theorem D60 (k : Nat) {pc : Nat} {i : Instr} (h : tbi60[k]? = some (pc, i)) (hs : am_isw i = false) {n : Nat} (hn : am_il i = n) : decode (am_mc 60) pc = .ok (i, n) := am_d2 (by decide) (by decide) rfl h hs hn
theorem d60_0 : decode (am_mc 60) 0 = .ok (.aload_n 0, 1) := D60 0 rfl rfl rfl
theorem d60_1 : decode (am_mc 60) 1 = .ok (.getfield 13, 3) := D60 1 rfl rfl rfl
theorem d60_4 : decode (am_mc 60) 4 = .ok (.aload_n 1, 1) := D60 2 rfl rfl rfl
theorem d60_5 : decode (am_mc 60) 5 = .ok (.invokevirtual 30, 3) := D60 3 rfl rfl rfl
theorem d60_8 : decode (am_mc 60) 8 = .ok (.if_icmp .ne 19, 3) := D60 4 rfl rfl rfl
theorem d60_11 : decode (am_mc 60) 11 = .ok (.aload_n 0, 1) := D60 5 rfl rfl rfl
theorem d60_12 : decode (am_mc 60) 12 = .ok (.getfield 13, 3) := D60 6 rfl rfl rfl
theorem d60_15 : decode (am_mc 60) 15 = .ok (.aload_n 0, 1) := D60 7 rfl rfl rfl
theorem d60_16 : decode (am_mc 60) 16 = .ok (.getfield 7, 3) := D60 8 rfl rfl rfl
theorem d60_19 : decode (am_mc 60) 19 = .ok (.arraylength, 1) := D60 9 rfl rfl rfl
theorem d60_20 : decode (am_mc 60) 20 = .ok (.if_icmp .gt 7, 3) := D60 10 rfl rfl rfl
theorem d60_23 : decode (am_mc 60) 23 = .ok (.iconst 1, 1) := D60 11 rfl rfl rfl
theorem d60_24 : decode (am_mc 60) 24 = .ok (.goto 4, 3) := D60 12 rfl rfl rfl
theorem d60_27 : decode (am_mc 60) 27 = .ok (.iconst 0, 1) := D60 13 rfl rfl rfl
theorem d60_28 : decode (am_mc 60) 28 = .ok (.istore_n 2, 1) := D60 14 rfl rfl rfl
theorem d60_29 : decode (am_mc 60) 29 = .ok (.iconst 0, 1) := D60 15 rfl rfl rfl
theorem d60_30 : decode (am_mc 60) 30 = .ok (.istore_n 3, 1) := D60 16 rfl rfl rfl
theorem d60_31 : decode (am_mc 60) 31 = .ok (.iload_n 2, 1) := D60 17 rfl rfl rfl
theorem d60_32 : decode (am_mc 60) 32 = .ok (.ifCond .eq 36, 3) := D60 18 rfl rfl rfl
theorem d60_35 : decode (am_mc 60) 35 = .ok (.iload_n 3, 1) := D60 19 rfl rfl rfl
theorem d60_36 : decode (am_mc 60) 36 = .ok (.aload_n 1, 1) := D60 20 rfl rfl rfl
theorem d60_37 : decode (am_mc 60) 37 = .ok (.invokevirtual 30, 3) := D60 21 rfl rfl rfl
theorem d60_40 : decode (am_mc 60) 40 = .ok (.if_icmp .ge 28, 3) := D60 22 rfl rfl rfl
theorem d60_43 : decode (am_mc 60) 43 = .ok (.aload_n 0, 1) := D60 23 rfl rfl rfl
theorem d60_44 : decode (am_mc 60) 44 = .ok (.iload_n 3, 1) := D60 24 rfl rfl rfl
theorem d60_45 : decode (am_mc 60) 45 = .ok (.invokevirtual 20, 3) := D60 25 rfl rfl rfl
theorem d60_48 : decode (am_mc 60) 48 = .ok (.aload_n 1, 1) := D60 26 rfl rfl rfl
theorem d60_49 : decode (am_mc 60) 49 = .ok (.iload_n 3, 1) := D60 27 rfl rfl rfl
theorem d60_50 : decode (am_mc 60) 50 = .ok (.invokevirtual 36, 3) := D60 28 rfl rfl rfl
theorem d60_53 : decode (am_mc 60) 53 = .ok (.if_icmp .ne 7, 3) := D60 29 rfl rfl rfl
theorem d60_56 : decode (am_mc 60) 56 = .ok (.iconst 1, 1) := D60 30 rfl rfl rfl
theorem d60_57 : decode (am_mc 60) 57 = .ok (.goto 4, 3) := D60 31 rfl rfl rfl
theorem d60_60 : decode (am_mc 60) 60 = .ok (.iconst 0, 1) := D60 32 rfl rfl rfl
theorem d60_61 : decode (am_mc 60) 61 = .ok (.istore_n 2, 1) := D60 33 rfl rfl rfl
theorem d60_62 : decode (am_mc 60) 62 = .ok (.iinc 3 1, 3) := D60 34 rfl rfl rfl
theorem d60_65 : decode (am_mc 60) 65 = .ok (.goto (-34), 3) := D60 35 rfl rfl rfl
theorem d60_68 : decode (am_mc 60) 68 = .ok (.iload_n 2, 1) := D60 36 rfl rfl rfl
theorem d60_69 : decode (am_mc 60) 69 = .ok (.ireturn, 1) := D60 37 rfl rfl rfl
theorem ml60 : ∀ n, n < 4 → n < am_ml 60 := fun _ h => h
theorem mo60 : am_mo 60 = 3 := by decide +kernel
theorem mr60 : am_mr 60 = some .boolean := by decide +kernel
theorem rg60 : am_rcg 60 = 4 := by decide +kernel
theorem m3_30 : tb_m 3 30 = some (55, 1, 1, 0) := by decide +kernel
theorem m3_36 : tb_m 3 36 = some (59, 2, 1, 0) := by decide +kernel
theorem dp60_30 : am_md 30 + 1 ≤ am_md 60 ∧ 8 + (am_ml 30 + 11) + am_lr 30 ≤ am_lr 60 := by decide +kernel
theorem dp60_55 : am_md 55 + 1 ≤ am_md 60 ∧ 8 + (am_ml 55 + 11) + am_lr 55 ≤ am_lr 60 := by decide +kernel
theorem dp60_59 : am_md 59 + 1 ≤ am_md 60 ∧ 8 + (am_ml 59 + 11) + am_lr 59 ≤ am_lr 60 := by decide +kernel
def L60_31 (l0 : Nat) (l1 : Nat) : Nat → Int → Int → am_M → Option ((Int × am_M) ⊕ (Int × Int × am_M))
  | 0, _, _, _ => none
  | n + 1, l2, l3, μ => (if l2 = 0 then (some (.inr (l2, l3, μ))) else (am_op (fn55 l1 μ) (fun z2 => (if l3 < z2.1 then (am_op (fn30 l0 l3 z2.2) (fun z3 => (am_op (fn59 l1 l3 z3.2) (fun z4 => (if z3.1 = z4.1 then (L60_31 l0 l1 n 1 (w32 (l3 + 1)) z4.2) else (L60_31 l0 l1 n 0 (w32 (l3 + 1)) z4.2)))))) else (some (.inr (l2, l3, z2.2)))))))
theorem w60_31 {X : am_K} {C : am_C} {Q : State → Prop} (hG : am_G X C 60 0 0 (0, fun _ => 0)) (hr : match X with | (_, _, _, _, _, _, _, _, meth, _) => meth.sig.returnType = am_mr 60 ∧ meth.locks = false) (l0 : Nat) (l1 : Nat) : ∀ (n : Nat) (l2 : Int) (l3 : Int) (μ : am_M) (r : (Int × am_M) ⊕ (Int × Int × am_M)), L60_31 l0 l1 n l2 l3 μ = some r → (∀ q, r = .inl q → Q = am_E X C 60 q.1 q.2) → (∀ t, r = .inr t → am_W X C 60 Q 0 0 68 [(2, .inl t.1)] [] t.2.2) → am_W X C 60 Q 0 0 31 [(0, .inr (.inr (3, l0))), (1, .inr (.inr (31, l1))), (2, .inl l2), (3, .inl l3)] [] μ := by
  intro n
  induction n with
  | zero => intro l2 l3 μ r h; cases h
  | succ n ih =>
    intro l2 l3 μ r h hI hX
    unfold L60_31 at h
    exact (am_c_iload_n hG (pc := 31) d60_31 rfl (x_if_eq (tgt := 68) hG (pc := 32) d60_32 rfl h (fun h => (am_lvw (lv2 := [(2, .inl l2)]) [2] rfl (hX (l2, l3, μ) (Option.some.inj h).symm))) (fun h => (am_c_iload_n hG (pc := 35) d60_35 rfl (am_c_aload_n hG (pc := 36) d60_36 rfl (x_virtual_i (t := 31) (o := l1) (as2 := []) (rest := [.inl l3]) hG (pc := 37) d60_37 mo60 m3_30 (by decide) dp60_55 rfl rfl (Nat.le_of_ble_eq_true rfl) (Nat.le_of_ble_eq_true rfl) rg55 sd55 (e55 _ _) h (fun z2 h => (x_icmp_ge (tgt := 68) hG (pc := 40) d60_40 rfl h (fun h => (am_lvw (lv2 := [(2, .inl l2)]) [2] rfl (hX (l2, l3, z2.2) (Option.some.inj h).symm))) (fun h => (am_c_aload_n hG (pc := 43) d60_43 rfl (am_c_iload_n hG (pc := 44) d60_44 rfl (x_virtual_i (t := 3) (o := l0) (as2 := [.inl l3]) (rest := []) hG (pc := 45) d60_45 mo60 m3_20 (by decide) dp60_30 rfl rfl (Nat.le_of_ble_eq_true rfl) (Nat.le_of_ble_eq_true rfl) rg30 sd30 (e30 _ _ _) h (fun z3 h => (am_c_aload_n hG (pc := 48) d60_48 rfl (am_c_iload_n hG (pc := 49) d60_49 rfl (x_virtual_i (t := 31) (o := l1) (as2 := [.inl l3]) (rest := [.inl z3.1]) hG (pc := 50) d60_50 mo60 m3_36 (by decide) dp60_59 rfl rfl (Nat.le_of_ble_eq_true rfl) (Nat.le_of_ble_eq_true rfl) rg59 sd59 (e59 _ _ _) h (fun z4 h => (x_icmp_ne (tgt := 60) hG (pc := 53) d60_53 rfl h (fun h => (am_c_iconst hG (pc := 60) d60_60 (by decide) (x_istore_n (lv' := [(2, .inl 0), (0, .inr (.inr (3, l0))), (1, .inr (.inr (31, l1))), (3, .inl l3)]) hG (pc := 61) d60_61 (ml60 _ (by decide)) rfl (x_iinc (lv' := [(3, .inl (w32 (l3 + 1))), (2, .inl 0), (0, .inr (.inr (3, l0))), (1, .inr (.inr (31, l1)))]) hG (pc := 62) d60_62 rfl (ml60 _ (by decide)) rfl (x_goto (tgt := 31) hG (pc := 65) d60_65 rfl (am_lvw (lv2 := [(0, .inr (.inr (3, l0))), (1, .inr (.inr (31, l1))), (2, .inl 0), (3, .inl (w32 (l3 + 1)))]) [2, 3, 1, 0] rfl (ih _ _ _ _ h hI hX))))))) (fun h => (am_c_iconst hG (pc := 56) d60_56 (by decide) (x_goto (tgt := 61) hG (pc := 57) d60_57 rfl (x_istore_n (lv' := [(2, .inl 1), (0, .inr (.inr (3, l0))), (1, .inr (.inr (31, l1))), (3, .inl l3)]) hG (pc := 61) d60_61 (ml60 _ (by decide)) rfl (x_iinc (lv' := [(3, .inl (w32 (l3 + 1))), (2, .inl 1), (0, .inr (.inr (3, l0))), (1, .inr (.inr (31, l1)))]) hG (pc := 62) d60_62 rfl (ml60 _ (by decide)) rfl (x_goto (tgt := 31) hG (pc := 65) d60_65 rfl (am_lvw (lv2 := [(0, .inr (.inr (3, l0))), (1, .inr (.inr (31, l1))), (2, .inl 1), (3, .inl (w32 (l3 + 1)))]) [2, 3, 1, 0] rfl (ih _ _ _ _ h hI hX))))))))))))))))))))))))))
def fn60 (o : Nat) (a : Nat) (μ : am_M) : Option (Int × am_M) := (am_op (fn55 a μ) (fun z1 => (if μ o 1 = z1.1 then (if ((am_len (am_ref o 0) : Nat) : Int) < z1.2 o 1 then (am_op (L60_31 o a am_fuel 0 0 z1.2) (fun s => am_lp s (fun q2 => some q2) (fun t2 => (if t2.1 = 0 ∨ t2.1 = 1 then some (t2.1, t2.2.2) else none)))) else (am_op (L60_31 o a am_fuel 1 0 z1.2) (fun s => am_lp s (fun q3 => some q3) (fun t3 => (if t3.1 = 0 ∨ t3.1 = 1 then some (t3.1, t3.2.2) else none))))) else (am_op (L60_31 o a am_fuel 0 0 z1.2) (fun s => am_lp s (fun q1 => some q1) (fun t1 => (if t1.1 = 0 ∨ t1.1 = 1 then some (t1.1, t1.2.2) else none)))))))
def sp60 : am_F := fun vs μ => am_aR 3 vs fun o vs => am_aR 31 vs fun a vs => am_a0 vs (fn60 o a μ)
theorem e60 (o : Nat) (a : Nat) (μ : am_M) : sp60 [.inr (.inr (3, o)), .inr (.inr (31, a))] μ = fn60 o a μ := am_aR_c.trans (am_aR_c.trans am_a0_c)
theorem sd60 : am_Sd 60 sp60 := by
  refine am_Sd_of (by decide) (fun vs μ μ' x h hv hM => ?_)
  obtain ⟨o, vs0, rfl, h0⟩ := am_aR_s h
  obtain ⟨a, vs1, rfl, h1⟩ := am_aR_s h0
  obtain ⟨rfl, hz⟩ := am_a0_s h1
  refine ⟨Nat.le_of_ble_eq_true rfl, fun X C hG hr => ?_⟩
  have h := hz
  unfold fn60 at h
  exact (show am_W X C 60 _ 0 0 0 [(0, .inr (.inr (3, o))), (1, .inr (.inr (31, a)))] [] μ from (am_c_aload_n hG (pc := 0) d60_0 rfl (x_get_n (v := .inl (μ o 1)) hG (pc := 1) d60_1 mo60 f3_13 rfl (am_c_aload_n hG (pc := 4) d60_4 rfl (x_virtual_i (t := 31) (o := a) (as2 := []) (rest := [.inl (μ o 1)]) hG (pc := 5) d60_5 mo60 m3_30 (by decide) dp60_55 rfl rfl (Nat.le_of_ble_eq_true rfl) (Nat.le_of_ble_eq_true rfl) rg55 sd55 (e55 _ _) h (fun z1 h => (x_icmp_ne (tgt := 27) hG (pc := 8) d60_8 rfl h (fun h => (am_c_iconst hG (pc := 27) d60_27 (by decide) (x_istore_n (lv' := [(2, .inl 0), (0, .inr (.inr (3, o))), (1, .inr (.inr (31, a)))]) hG (pc := 28) d60_28 (ml60 _ (by decide)) rfl (am_c_iconst hG (pc := 29) d60_29 (by decide) (x_istore_n (lv' := [(3, .inl 0), (2, .inl 0), (0, .inr (.inr (3, o))), (1, .inr (.inr (31, a)))]) hG (pc := 30) d60_30 (ml60 _ (by decide)) rfl (x_lp h (fun r h1 h2 => (am_lvw (lv2 := [(0, .inr (.inr (3, o))), (1, .inr (.inr (31, a))), (2, .inl 0), (3, .inl 0)]) [2, 3, 1, 0] rfl (w60_31 hG hr _ _ _ _ _ _ _ h1 (fun q1 e => am_q1 e h2 (fun h => am_q0 h)) (fun t1 e => am_q2 e h2 (fun h => (am_c_iload_n hG (pc := 68) d60_68 rfl (xq_zret hG (by decide) hr (pc := 69) d60_69 mr60 h (fun h => (am_q0 h))))))))))))))) (fun h => (am_c_aload_n hG (pc := 11) d60_11 rfl (x_get_n (v := .inl (z1.2 o 1)) hG (pc := 12) d60_12 mo60 f3_13 rfl (am_c_aload_n hG (pc := 15) d60_15 rfl (x_get_n (v := .inr (.inr (18, am_ref o 0))) hG (pc := 16) d60_16 mo60 f3_7 rfl (am_c_len hG (pc := 19) d60_19 (by decide) (x_icmp_gt (tgt := 27) hG (pc := 20) d60_20 rfl h (fun h => (am_c_iconst hG (pc := 27) d60_27 (by decide) (x_istore_n (lv' := [(2, .inl 0), (0, .inr (.inr (3, o))), (1, .inr (.inr (31, a)))]) hG (pc := 28) d60_28 (ml60 _ (by decide)) rfl (am_c_iconst hG (pc := 29) d60_29 (by decide) (x_istore_n (lv' := [(3, .inl 0), (2, .inl 0), (0, .inr (.inr (3, o))), (1, .inr (.inr (31, a)))]) hG (pc := 30) d60_30 (ml60 _ (by decide)) rfl (x_lp h (fun r h1 h2 => (am_lvw (lv2 := [(0, .inr (.inr (3, o))), (1, .inr (.inr (31, a))), (2, .inl 0), (3, .inl 0)]) [2, 3, 1, 0] rfl (w60_31 hG hr _ _ _ _ _ _ _ h1 (fun q2 e => am_q1 e h2 (fun h => am_q0 h)) (fun t2 e => am_q2 e h2 (fun h => (am_c_iload_n hG (pc := 68) d60_68 rfl (xq_zret hG (by decide) hr (pc := 69) d60_69 mr60 h (fun h => (am_q0 h))))))))))))))) (fun h => (am_c_iconst hG (pc := 23) d60_23 (by decide) (x_goto (tgt := 28) hG (pc := 24) d60_24 rfl (x_istore_n (lv' := [(2, .inl 1), (0, .inr (.inr (3, o))), (1, .inr (.inr (31, a)))]) hG (pc := 28) d60_28 (ml60 _ (by decide)) rfl (am_c_iconst hG (pc := 29) d60_29 (by decide) (x_istore_n (lv' := [(3, .inl 0), (2, .inl 1), (0, .inr (.inr (3, o))), (1, .inr (.inr (31, a)))]) hG (pc := 30) d60_30 (ml60 _ (by decide)) rfl (x_lp h (fun r h1 h2 => (am_lvw (lv2 := [(0, .inr (.inr (3, o))), (1, .inr (.inr (31, a))), (2, .inl 1), (3, .inl 0)]) [2, 3, 1, 0] rfl (w60_31 hG hr _ _ _ _ _ _ _ h1 (fun q3 e => am_q1 e h2 (fun h => am_q0 h)) (fun t3 e => am_q2 e h2 (fun h => (am_c_iload_n hG (pc := 68) d60_68 rfl (xq_zret hG (by decide) hr (pc := 69) d60_69 mr60 h (fun h => (am_q0 h))))))))))))))))))))))))))))))
/-! ChartPress$Request.readMark()Z -/
theorem D61 (k : Nat) {pc : Nat} {i : Instr} (h : tbi61[k]? = some (pc, i)) (hs : am_isw i = false) {n : Nat} (hn : am_il i = n) : decode (am_mc 61) pc = .ok (i, n) := am_d2 (by decide) (by decide) rfl h hs hn
theorem d61_0 : decode (am_mc 61) 0 = .ok (.aload_n 0, 1) := D61 0 rfl rfl rfl
theorem d61_1 : decode (am_mc 61) 1 = .ok (.invokevirtual 112, 3) := D61 1 rfl rfl rfl
theorem d61_4 : decode (am_mc 61) 4 = .ok (.astore_n 1, 1) := D61 2 rfl rfl rfl
theorem d61_5 : decode (am_mc 61) 5 = .ok (.aload_n 0, 1) := D61 3 rfl rfl rfl
theorem d61_6 : decode (am_mc 61) 6 = .ok (.aload_n 1, 1) := D61 4 rfl rfl rfl
theorem d61_7 : decode (am_mc 61) 7 = .ok (.ldc 116, 2) := D61 5 rfl rfl rfl
theorem d61_9 : decode (am_mc 61) 9 = .ok (.invokevirtual 118, 3) := D61 6 rfl rfl rfl
theorem d61_12 : decode (am_mc 61) 12 = .ok (.ifCond .eq 7, 3) := D61 7 rfl rfl rfl
theorem d61_15 : decode (am_mc 61) 15 = .ok (.iconst 0, 1) := D61 8 rfl rfl rfl
theorem d61_16 : decode (am_mc 61) 16 = .ok (.goto 30, 3) := D61 9 rfl rfl rfl
theorem d61_19 : decode (am_mc 61) 19 = .ok (.aload_n 1, 1) := D61 10 rfl rfl rfl
theorem d61_20 : decode (am_mc 61) 20 = .ok (.ldc 122, 2) := D61 11 rfl rfl rfl
theorem d61_22 : decode (am_mc 61) 22 = .ok (.invokevirtual 118, 3) := D61 12 rfl rfl rfl
theorem d61_25 : decode (am_mc 61) 25 = .ok (.ifCond .eq 7, 3) := D61 13 rfl rfl rfl
theorem d61_28 : decode (am_mc 61) 28 = .ok (.iconst 1, 1) := D61 14 rfl rfl rfl
theorem d61_29 : decode (am_mc 61) 29 = .ok (.goto 17, 3) := D61 15 rfl rfl rfl
theorem d61_32 : decode (am_mc 61) 32 = .ok (.aload_n 1, 1) := D61 16 rfl rfl rfl
theorem d61_33 : decode (am_mc 61) 33 = .ok (.ldc 124, 2) := D61 17 rfl rfl rfl
theorem d61_35 : decode (am_mc 61) 35 = .ok (.invokevirtual 118, 3) := D61 18 rfl rfl rfl
theorem d61_38 : decode (am_mc 61) 38 = .ok (.ifCond .eq 7, 3) := D61 19 rfl rfl rfl
theorem d61_41 : decode (am_mc 61) 41 = .ok (.iconst 2, 1) := D61 20 rfl rfl rfl
theorem d61_42 : decode (am_mc 61) 42 = .ok (.goto 4, 3) := D61 21 rfl rfl rfl
theorem d61_45 : decode (am_mc 61) 45 = .ok (.iconst (-1), 1) := D61 22 rfl rfl rfl
theorem d61_46 : decode (am_mc 61) 46 = .ok (.putfield 68, 3) := D61 23 rfl rfl rfl
theorem d61_49 : decode (am_mc 61) 49 = .ok (.aload_n 0, 1) := D61 24 rfl rfl rfl
theorem d61_50 : decode (am_mc 61) 50 = .ok (.getfield 68, 3) := D61 25 rfl rfl rfl
theorem d61_53 : decode (am_mc 61) 53 = .ok (.iconst (-1), 1) := D61 26 rfl rfl rfl
theorem d61_54 : decode (am_mc 61) 54 = .ok (.if_icmp .eq 7, 3) := D61 27 rfl rfl rfl
theorem d61_57 : decode (am_mc 61) 57 = .ok (.iconst 1, 1) := D61 28 rfl rfl rfl
theorem d61_58 : decode (am_mc 61) 58 = .ok (.goto 4, 3) := D61 29 rfl rfl rfl
theorem d61_61 : decode (am_mc 61) 61 = .ok (.iconst 0, 1) := D61 30 rfl rfl rfl
theorem d61_62 : decode (am_mc 61) 62 = .ok (.ireturn, 1) := D61 31 rfl rfl rfl
theorem ml61 : ∀ n, n < 2 → n < am_ml 61 := fun _ h => h
theorem mo61 : am_mo 61 = 4 := by decide +kernel
theorem mr61 : am_mr 61 = some .boolean := by decide +kernel
theorem rg61 : am_rcg 61 = 5 := by decide +kernel
theorem m4_112 : tb_m 4 112 = some (53, 1, 3, 3) := by decide +kernel
theorem m4_118 : tb_m 4 118 = some (60, 2, 1, 0) := by decide +kernel
theorem dp61_53 : am_md 53 + 1 ≤ am_md 61 ∧ 8 + (am_ml 53 + 11) + am_lr 53 ≤ am_lr 61 := by decide +kernel
theorem dp61_60 : am_md 60 + 1 ≤ am_md 61 ∧ 8 + (am_ml 60 + 11) + am_lr 60 ≤ am_lr 61 := by decide +kernel
def fn61 (o : Nat) (μ : am_M) : Option (Int × am_M) := (am_op (fn53 o μ) (fun z1 => (am_op (fn60 z1.1.toNat 2 z1.2) (fun z2 => (if z2.1 = 0 then (am_op (fn60 z1.1.toNat 3 z2.2) (fun z3 => (if z3.1 = 0 then (am_op (fn60 z1.1.toNat 4 z3.2) (fun z4 => (if z4.1 = 0 then (if (am_up z4.2 o 5 ((-1))) o 5 = (-1) then some (0, am_up z4.2 o 5 ((-1))) else some (1, am_up z4.2 o 5 ((-1)))) else (if (am_up z4.2 o 5 2) o 5 = (-1) then some (0, am_up z4.2 o 5 2) else some (1, am_up z4.2 o 5 2))))) else (if (am_up z3.2 o 5 1) o 5 = (-1) then some (0, am_up z3.2 o 5 1) else some (1, am_up z3.2 o 5 1))))) else (if (am_up z2.2 o 5 0) o 5 = (-1) then some (0, am_up z2.2 o 5 0) else some (1, am_up z2.2 o 5 0)))))))
def sp61 : am_F := fun vs μ => am_aR 4 vs fun o vs => am_a0 vs (fn61 o μ)
theorem e61 (o : Nat) (μ : am_M) : sp61 [.inr (.inr (4, o))] μ = fn61 o μ := am_aR_c.trans am_a0_c
theorem sd61 : am_Sd 61 sp61 := by
  refine am_Sd_of (by decide) (fun vs μ μ' x h hv hM => ?_)
  obtain ⟨o, vs0, rfl, h0⟩ := am_aR_s h
  obtain ⟨rfl, hz⟩ := am_a0_s h0
  refine ⟨Nat.le_of_ble_eq_true rfl, fun X C hG hr => ?_⟩
  have h := hz
  unfold fn61 at h
  exact (show am_W X C 61 _ 0 0 0 [(0, .inr (.inr (4, o)))] [] μ from (am_c_aload_n hG (pc := 0) d61_0 rfl (x_virtual_r (t := 4) (o := o) (as2 := []) (rest := []) hG (pc := 1) d61_1 mo61 m4_112 (by decide) dp61_53 rfl rfl (Nat.le_of_ble_eq_true rfl) (Nat.le_of_ble_eq_true rfl) rg53 sd53 (e53 _ _) h (fun z1 h => (x_astore_n (lv' := [(1, .inr (.inr (3, z1.1.toNat))), (0, .inr (.inr (4, o)))]) hG (pc := 4) d61_4 (ml61 _ (by decide)) rfl (am_c_aload_n hG (pc := 5) d61_5 rfl (am_c_aload_n hG (pc := 6) d61_6 rfl (am_c_ldc hG (pc := 7) d61_7 (v := .inr (.inr (31, 2))) (by decide +kernel) (x_virtual_i (t := 3) (o := z1.1.toNat) (as2 := [.inr (.inr (31, 2))]) (rest := [.inr (.inr (4, o))]) hG (pc := 9) d61_9 mo61 m4_118 (by decide) dp61_60 rfl rfl (Nat.le_of_ble_eq_true rfl) (Nat.le_of_ble_eq_true rfl) rg60 sd60 (e60 _ _ _) h (fun z2 h => (x_if_eq (tgt := 19) hG (pc := 12) d61_12 rfl h (fun h => (am_c_aload_n hG (pc := 19) d61_19 rfl (am_c_ldc hG (pc := 20) d61_20 (v := .inr (.inr (31, 3))) (by decide +kernel) (x_virtual_i (t := 3) (o := z1.1.toNat) (as2 := [.inr (.inr (31, 3))]) (rest := [.inr (.inr (4, o))]) hG (pc := 22) d61_22 mo61 m4_118 (by decide) dp61_60 rfl rfl (Nat.le_of_ble_eq_true rfl) (Nat.le_of_ble_eq_true rfl) rg60 sd60 (e60 _ _ _) h (fun z3 h => (x_if_eq (tgt := 32) hG (pc := 25) d61_25 rfl h (fun h => (am_c_aload_n hG (pc := 32) d61_32 rfl (am_c_ldc hG (pc := 33) d61_33 (v := .inr (.inr (31, 4))) (by decide +kernel) (x_virtual_i (t := 3) (o := z1.1.toNat) (as2 := [.inr (.inr (31, 4))]) (rest := [.inr (.inr (4, o))]) hG (pc := 35) d61_35 mo61 m4_118 (by decide) dp61_60 rfl rfl (Nat.le_of_ble_eq_true rfl) (Nat.le_of_ble_eq_true rfl) rg60 sd60 (e60 _ _ _) h (fun z4 h => (x_if_eq (tgt := 45) hG (pc := 38) d61_38 rfl h (fun h => (am_c_iconst hG (pc := 45) d61_45 (by decide) (x_put_i hG (pc := 46) d61_46 mo61 f4_68 (by decide) (am_c_aload_n hG (pc := 49) d61_49 rfl (x_get_n (v := .inl ((am_up z4.2 o 5 ((-1))) o 5)) hG (pc := 50) d61_50 mo61 f4_68 rfl (am_c_iconst hG (pc := 53) d61_53 (by decide) (x_icmp_eq (tgt := 61) hG (pc := 54) d61_54 rfl h (fun h => (am_c_iconst hG (pc := 61) d61_61 (by decide) (xq_zret0 hG (by decide) hr (pc := 62) d61_62 mr61 (am_q0 h)))) (fun h => (am_c_iconst hG (pc := 57) d61_57 (by decide) (x_goto (tgt := 62) hG (pc := 58) d61_58 rfl (xq_zret1 hG (by decide) hr (pc := 62) d61_62 mr61 (am_q0 h)))))))))))) (fun h => (am_c_iconst hG (pc := 41) d61_41 (by decide) (x_goto (tgt := 46) hG (pc := 42) d61_42 rfl (x_put_i hG (pc := 46) d61_46 mo61 f4_68 (by decide) (am_c_aload_n hG (pc := 49) d61_49 rfl (x_get_n (v := .inl ((am_up z4.2 o 5 2) o 5)) hG (pc := 50) d61_50 mo61 f4_68 rfl (am_c_iconst hG (pc := 53) d61_53 (by decide) (x_icmp_eq (tgt := 61) hG (pc := 54) d61_54 rfl h (fun h => (am_c_iconst hG (pc := 61) d61_61 (by decide) (xq_zret0 hG (by decide) hr (pc := 62) d61_62 mr61 (am_q0 h)))) (fun h => (am_c_iconst hG (pc := 57) d61_57 (by decide) (x_goto (tgt := 62) hG (pc := 58) d61_58 rfl (xq_zret1 hG (by decide) hr (pc := 62) d61_62 mr61 (am_q0 h))))))))))))))))))) (fun h => (am_c_iconst hG (pc := 28) d61_28 (by decide) (x_goto (tgt := 46) hG (pc := 29) d61_29 rfl (x_put_i hG (pc := 46) d61_46 mo61 f4_68 (by decide) (am_c_aload_n hG (pc := 49) d61_49 rfl (x_get_n (v := .inl ((am_up z3.2 o 5 1) o 5)) hG (pc := 50) d61_50 mo61 f4_68 rfl (am_c_iconst hG (pc := 53) d61_53 (by decide) (x_icmp_eq (tgt := 61) hG (pc := 54) d61_54 rfl h (fun h => (am_c_iconst hG (pc := 61) d61_61 (by decide) (xq_zret0 hG (by decide) hr (pc := 62) d61_62 mr61 (am_q0 h)))) (fun h => (am_c_iconst hG (pc := 57) d61_57 (by decide) (x_goto (tgt := 62) hG (pc := 58) d61_58 rfl (xq_zret1 hG (by decide) hr (pc := 62) d61_62 mr61 (am_q0 h))))))))))))))))))) (fun h => (am_c_iconst hG (pc := 15) d61_15 (by decide) (x_goto (tgt := 46) hG (pc := 16) d61_16 rfl (x_put_i hG (pc := 46) d61_46 mo61 f4_68 (by decide) (am_c_aload_n hG (pc := 49) d61_49 rfl (x_get_n (v := .inl ((am_up z2.2 o 5 0) o 5)) hG (pc := 50) d61_50 mo61 f4_68 rfl (am_c_iconst hG (pc := 53) d61_53 (by decide) (x_icmp_eq (tgt := 61) hG (pc := 54) d61_54 rfl h (fun h => (am_c_iconst hG (pc := 61) d61_61 (by decide) (xq_zret0 hG (by decide) hr (pc := 62) d61_62 mr61 (am_q0 h)))) (fun h => (am_c_iconst hG (pc := 57) d61_57 (by decide) (x_goto (tgt := 62) hG (pc := 58) d61_58 rfl (xq_zret1 hG (by decide) hr (pc := 62) d61_62 mr61 (am_q0 h))))))))))))))))))))))))
/-! ChartPress$Letters.same(LChartPress$Letters;)Z -/
theorem D62 (k : Nat) {pc : Nat} {i : Instr} (h : tbi62[k]? = some (pc, i)) (hs : am_isw i = false) {n : Nat} (hn : am_il i = n) : decode (am_mc 62) pc = .ok (i, n) := am_d2 (by decide) (by decide) rfl h hs hn
theorem d62_0 : decode (am_mc 62) 0 = .ok (.aload_n 0, 1) := D62 0 rfl rfl rfl
theorem d62_1 : decode (am_mc 62) 1 = .ok (.getfield 13, 3) := D62 1 rfl rfl rfl
theorem d62_4 : decode (am_mc 62) 4 = .ok (.aload_n 1, 1) := D62 2 rfl rfl rfl
theorem d62_5 : decode (am_mc 62) 5 = .ok (.getfield 13, 3) := D62 3 rfl rfl rfl
theorem d62_8 : decode (am_mc 62) 8 = .ok (.if_icmp .ne 31, 3) := D62 4 rfl rfl rfl
theorem d62_11 : decode (am_mc 62) 11 = .ok (.aload_n 0, 1) := D62 5 rfl rfl rfl
theorem d62_12 : decode (am_mc 62) 12 = .ok (.getfield 13, 3) := D62 6 rfl rfl rfl
theorem d62_15 : decode (am_mc 62) 15 = .ok (.aload_n 0, 1) := D62 7 rfl rfl rfl
theorem d62_16 : decode (am_mc 62) 16 = .ok (.getfield 7, 3) := D62 8 rfl rfl rfl
theorem d62_19 : decode (am_mc 62) 19 = .ok (.arraylength, 1) := D62 9 rfl rfl rfl
theorem d62_20 : decode (am_mc 62) 20 = .ok (.if_icmp .gt 19, 3) := D62 10 rfl rfl rfl
theorem d62_23 : decode (am_mc 62) 23 = .ok (.aload_n 0, 1) := D62 11 rfl rfl rfl
theorem d62_24 : decode (am_mc 62) 24 = .ok (.getfield 13, 3) := D62 12 rfl rfl rfl
theorem d62_27 : decode (am_mc 62) 27 = .ok (.aload_n 1, 1) := D62 13 rfl rfl rfl
theorem d62_28 : decode (am_mc 62) 28 = .ok (.getfield 7, 3) := D62 14 rfl rfl rfl
theorem d62_31 : decode (am_mc 62) 31 = .ok (.arraylength, 1) := D62 15 rfl rfl rfl
theorem d62_32 : decode (am_mc 62) 32 = .ok (.if_icmp .gt 7, 3) := D62 16 rfl rfl rfl
theorem d62_35 : decode (am_mc 62) 35 = .ok (.iconst 1, 1) := D62 17 rfl rfl rfl
theorem d62_36 : decode (am_mc 62) 36 = .ok (.goto 4, 3) := D62 18 rfl rfl rfl
theorem d62_39 : decode (am_mc 62) 39 = .ok (.iconst 0, 1) := D62 19 rfl rfl rfl
theorem d62_40 : decode (am_mc 62) 40 = .ok (.istore_n 2, 1) := D62 20 rfl rfl rfl
theorem d62_41 : decode (am_mc 62) 41 = .ok (.iconst 0, 1) := D62 21 rfl rfl rfl
theorem d62_42 : decode (am_mc 62) 42 = .ok (.istore_n 3, 1) := D62 22 rfl rfl rfl
theorem d62_43 : decode (am_mc 62) 43 = .ok (.iload_n 2, 1) := D62 23 rfl rfl rfl
theorem d62_44 : decode (am_mc 62) 44 = .ok (.ifCond .eq 36, 3) := D62 24 rfl rfl rfl
theorem d62_47 : decode (am_mc 62) 47 = .ok (.iload_n 3, 1) := D62 25 rfl rfl rfl
theorem d62_48 : decode (am_mc 62) 48 = .ok (.aload_n 0, 1) := D62 26 rfl rfl rfl
theorem d62_49 : decode (am_mc 62) 49 = .ok (.getfield 13, 3) := D62 27 rfl rfl rfl
theorem d62_52 : decode (am_mc 62) 52 = .ok (.if_icmp .ge 28, 3) := D62 28 rfl rfl rfl
theorem d62_55 : decode (am_mc 62) 55 = .ok (.aload_n 0, 1) := D62 29 rfl rfl rfl
theorem d62_56 : decode (am_mc 62) 56 = .ok (.iload_n 3, 1) := D62 30 rfl rfl rfl
theorem d62_57 : decode (am_mc 62) 57 = .ok (.invokevirtual 20, 3) := D62 31 rfl rfl rfl
theorem d62_60 : decode (am_mc 62) 60 = .ok (.aload_n 1, 1) := D62 32 rfl rfl rfl
theorem d62_61 : decode (am_mc 62) 61 = .ok (.iload_n 3, 1) := D62 33 rfl rfl rfl
theorem d62_62 : decode (am_mc 62) 62 = .ok (.invokevirtual 20, 3) := D62 34 rfl rfl rfl
theorem d62_65 : decode (am_mc 62) 65 = .ok (.if_icmp .ne 7, 3) := D62 35 rfl rfl rfl
theorem d62_68 : decode (am_mc 62) 68 = .ok (.iconst 1, 1) := D62 36 rfl rfl rfl
theorem d62_69 : decode (am_mc 62) 69 = .ok (.goto 4, 3) := D62 37 rfl rfl rfl
theorem d62_72 : decode (am_mc 62) 72 = .ok (.iconst 0, 1) := D62 38 rfl rfl rfl
theorem d62_73 : decode (am_mc 62) 73 = .ok (.istore_n 2, 1) := D62 39 rfl rfl rfl
theorem d62_74 : decode (am_mc 62) 74 = .ok (.iinc 3 1, 3) := D62 40 rfl rfl rfl
theorem d62_77 : decode (am_mc 62) 77 = .ok (.goto (-34), 3) := D62 41 rfl rfl rfl
theorem d62_80 : decode (am_mc 62) 80 = .ok (.iload_n 2, 1) := D62 42 rfl rfl rfl
theorem d62_81 : decode (am_mc 62) 81 = .ok (.ireturn, 1) := D62 43 rfl rfl rfl
theorem ml62 : ∀ n, n < 4 → n < am_ml 62 := fun _ h => h
theorem mo62 : am_mo 62 = 3 := by decide +kernel
theorem mr62 : am_mr 62 = some .boolean := by decide +kernel
theorem rg62 : am_rcg 62 = 4 := by decide +kernel
theorem dp62_30 : am_md 30 + 1 ≤ am_md 62 ∧ 8 + (am_ml 30 + 11) + am_lr 30 ≤ am_lr 62 := by decide +kernel
def L62_43 (l0 : Nat) (l1 : Nat) : Nat → Int → Int → am_M → Option ((Int × am_M) ⊕ (Int × Int × am_M))
  | 0, _, _, _ => none
  | n + 1, l2, l3, μ => (if l2 = 0 then (some (.inr (l2, l3, μ))) else (if l3 < μ l0 1 then (am_op (fn30 l0 l3 μ) (fun z1 => (am_op (fn30 l1 l3 z1.2) (fun z2 => (if z1.1 = z2.1 then (L62_43 l0 l1 n 1 (w32 (l3 + 1)) z2.2) else (L62_43 l0 l1 n 0 (w32 (l3 + 1)) z2.2)))))) else (some (.inr (l2, l3, μ)))))
theorem w62_43 {X : am_K} {C : am_C} {Q : State → Prop} (hG : am_G X C 62 0 0 (0, fun _ => 0)) (hr : match X with | (_, _, _, _, _, _, _, _, meth, _) => meth.sig.returnType = am_mr 62 ∧ meth.locks = false) (l0 : Nat) (l1 : Nat) : ∀ (n : Nat) (l2 : Int) (l3 : Int) (μ : am_M) (r : (Int × am_M) ⊕ (Int × Int × am_M)), L62_43 l0 l1 n l2 l3 μ = some r → (∀ q, r = .inl q → Q = am_E X C 62 q.1 q.2) → (∀ t, r = .inr t → am_W X C 62 Q 0 0 80 [(2, .inl t.1)] [] t.2.2) → am_W X C 62 Q 0 0 43 [(0, .inr (.inr (3, l0))), (1, .inr (.inr (3, l1))), (2, .inl l2), (3, .inl l3)] [] μ := by
  intro n
  induction n with
  | zero => intro l2 l3 μ r h; cases h
  | succ n ih =>
    intro l2 l3 μ r h hI hX
    unfold L62_43 at h
    exact (am_c_iload_n hG (pc := 43) d62_43 rfl (x_if_eq (tgt := 80) hG (pc := 44) d62_44 rfl h (fun h => (am_lvw (lv2 := [(2, .inl l2)]) [2] rfl (hX (l2, l3, μ) (Option.some.inj h).symm))) (fun h => (am_c_iload_n hG (pc := 47) d62_47 rfl (am_c_aload_n hG (pc := 48) d62_48 rfl (x_get_n (v := .inl (μ l0 1)) hG (pc := 49) d62_49 mo62 f3_13 rfl (x_icmp_ge (tgt := 80) hG (pc := 52) d62_52 rfl h (fun h => (am_lvw (lv2 := [(2, .inl l2)]) [2] rfl (hX (l2, l3, μ) (Option.some.inj h).symm))) (fun h => (am_c_aload_n hG (pc := 55) d62_55 rfl (am_c_iload_n hG (pc := 56) d62_56 rfl (x_virtual_i (t := 3) (o := l0) (as2 := [.inl l3]) (rest := []) hG (pc := 57) d62_57 mo62 m3_20 (by decide) dp62_30 rfl rfl (Nat.le_of_ble_eq_true rfl) (Nat.le_of_ble_eq_true rfl) rg30 sd30 (e30 _ _ _) h (fun z1 h => (am_c_aload_n hG (pc := 60) d62_60 rfl (am_c_iload_n hG (pc := 61) d62_61 rfl (x_virtual_i (t := 3) (o := l1) (as2 := [.inl l3]) (rest := [.inl z1.1]) hG (pc := 62) d62_62 mo62 m3_20 (by decide) dp62_30 rfl rfl (Nat.le_of_ble_eq_true rfl) (Nat.le_of_ble_eq_true rfl) rg30 sd30 (e30 _ _ _) h (fun z2 h => (x_icmp_ne (tgt := 72) hG (pc := 65) d62_65 rfl h (fun h => (am_c_iconst hG (pc := 72) d62_72 (by decide) (x_istore_n (lv' := [(2, .inl 0), (0, .inr (.inr (3, l0))), (1, .inr (.inr (3, l1))), (3, .inl l3)]) hG (pc := 73) d62_73 (ml62 _ (by decide)) rfl (x_iinc (lv' := [(3, .inl (w32 (l3 + 1))), (2, .inl 0), (0, .inr (.inr (3, l0))), (1, .inr (.inr (3, l1)))]) hG (pc := 74) d62_74 rfl (ml62 _ (by decide)) rfl (x_goto (tgt := 43) hG (pc := 77) d62_77 rfl (am_lvw (lv2 := [(0, .inr (.inr (3, l0))), (1, .inr (.inr (3, l1))), (2, .inl 0), (3, .inl (w32 (l3 + 1)))]) [2, 3, 1, 0] rfl (ih _ _ _ _ h hI hX))))))) (fun h => (am_c_iconst hG (pc := 68) d62_68 (by decide) (x_goto (tgt := 73) hG (pc := 69) d62_69 rfl (x_istore_n (lv' := [(2, .inl 1), (0, .inr (.inr (3, l0))), (1, .inr (.inr (3, l1))), (3, .inl l3)]) hG (pc := 73) d62_73 (ml62 _ (by decide)) rfl (x_iinc (lv' := [(3, .inl (w32 (l3 + 1))), (2, .inl 1), (0, .inr (.inr (3, l0))), (1, .inr (.inr (3, l1)))]) hG (pc := 74) d62_74 rfl (ml62 _ (by decide)) rfl (x_goto (tgt := 43) hG (pc := 77) d62_77 rfl (am_lvw (lv2 := [(0, .inr (.inr (3, l0))), (1, .inr (.inr (3, l1))), (2, .inl 1), (3, .inl (w32 (l3 + 1)))]) [2, 3, 1, 0] rfl (ih _ _ _ _ h hI hX)))))))))))))))))))))))))
def fn62 (o : Nat) (a : Nat) (μ : am_M) : Option (Int × am_M) := (if μ o 1 = μ a 1 then (if ((am_len (am_ref o 0) : Nat) : Int) < μ o 1 then (am_op (L62_43 o a am_fuel 0 0 μ) (fun s => am_lp s (fun q2 => some q2) (fun t2 => (if t2.1 = 0 ∨ t2.1 = 1 then some (t2.1, t2.2.2) else none)))) else (if ((am_len (am_ref a 0) : Nat) : Int) < μ o 1 then (am_op (L62_43 o a am_fuel 0 0 μ) (fun s => am_lp s (fun q3 => some q3) (fun t3 => (if t3.1 = 0 ∨ t3.1 = 1 then some (t3.1, t3.2.2) else none)))) else (am_op (L62_43 o a am_fuel 1 0 μ) (fun s => am_lp s (fun q4 => some q4) (fun t4 => (if t4.1 = 0 ∨ t4.1 = 1 then some (t4.1, t4.2.2) else none)))))) else (am_op (L62_43 o a am_fuel 0 0 μ) (fun s => am_lp s (fun q1 => some q1) (fun t1 => (if t1.1 = 0 ∨ t1.1 = 1 then some (t1.1, t1.2.2) else none)))))
def sp62 : am_F := fun vs μ => am_aR 3 vs fun o vs => am_aR 3 vs fun a vs => am_a0 vs (fn62 o a μ)
theorem e62 (o : Nat) (a : Nat) (μ : am_M) : sp62 [.inr (.inr (3, o)), .inr (.inr (3, a))] μ = fn62 o a μ := am_aR_c.trans (am_aR_c.trans am_a0_c)
theorem sd62 : am_Sd 62 sp62 := by
  refine am_Sd_of (by decide) (fun vs μ μ' x h hv hM => ?_)
  obtain ⟨o, vs0, rfl, h0⟩ := am_aR_s h
  obtain ⟨a, vs1, rfl, h1⟩ := am_aR_s h0
  obtain ⟨rfl, hz⟩ := am_a0_s h1
  refine ⟨Nat.le_of_ble_eq_true rfl, fun X C hG hr => ?_⟩
  have h := hz
  unfold fn62 at h
  exact (show am_W X C 62 _ 0 0 0 [(0, .inr (.inr (3, o))), (1, .inr (.inr (3, a)))] [] μ from (am_c_aload_n hG (pc := 0) d62_0 rfl (x_get_n (v := .inl (μ o 1)) hG (pc := 1) d62_1 mo62 f3_13 rfl (am_c_aload_n hG (pc := 4) d62_4 rfl (x_get_n (v := .inl (μ a 1)) hG (pc := 5) d62_5 mo62 f3_13 rfl (x_icmp_ne (tgt := 39) hG (pc := 8) d62_8 rfl h (fun h => (am_c_iconst hG (pc := 39) d62_39 (by decide) (x_istore_n (lv' := [(2, .inl 0), (0, .inr (.inr (3, o))), (1, .inr (.inr (3, a)))]) hG (pc := 40) d62_40 (ml62 _ (by decide)) rfl (am_c_iconst hG (pc := 41) d62_41 (by decide) (x_istore_n (lv' := [(3, .inl 0), (2, .inl 0), (0, .inr (.inr (3, o))), (1, .inr (.inr (3, a)))]) hG (pc := 42) d62_42 (ml62 _ (by decide)) rfl (x_lp h (fun r h1 h2 => (am_lvw (lv2 := [(0, .inr (.inr (3, o))), (1, .inr (.inr (3, a))), (2, .inl 0), (3, .inl 0)]) [2, 3, 1, 0] rfl (w62_43 hG hr _ _ _ _ _ _ _ h1 (fun q1 e => am_q1 e h2 (fun h => am_q0 h)) (fun t1 e => am_q2 e h2 (fun h => (am_c_iload_n hG (pc := 80) d62_80 rfl (xq_zret hG (by decide) hr (pc := 81) d62_81 mr62 h (fun h => (am_q0 h))))))))))))))) (fun h => (am_c_aload_n hG (pc := 11) d62_11 rfl (x_get_n (v := .inl (μ o 1)) hG (pc := 12) d62_12 mo62 f3_13 rfl (am_c_aload_n hG (pc := 15) d62_15 rfl (x_get_n (v := .inr (.inr (18, am_ref o 0))) hG (pc := 16) d62_16 mo62 f3_7 rfl (am_c_len hG (pc := 19) d62_19 (by decide) (x_icmp_gt (tgt := 39) hG (pc := 20) d62_20 rfl h (fun h => (am_c_iconst hG (pc := 39) d62_39 (by decide) (x_istore_n (lv' := [(2, .inl 0), (0, .inr (.inr (3, o))), (1, .inr (.inr (3, a)))]) hG (pc := 40) d62_40 (ml62 _ (by decide)) rfl (am_c_iconst hG (pc := 41) d62_41 (by decide) (x_istore_n (lv' := [(3, .inl 0), (2, .inl 0), (0, .inr (.inr (3, o))), (1, .inr (.inr (3, a)))]) hG (pc := 42) d62_42 (ml62 _ (by decide)) rfl (x_lp h (fun r h1 h2 => (am_lvw (lv2 := [(0, .inr (.inr (3, o))), (1, .inr (.inr (3, a))), (2, .inl 0), (3, .inl 0)]) [2, 3, 1, 0] rfl (w62_43 hG hr _ _ _ _ _ _ _ h1 (fun q2 e => am_q1 e h2 (fun h => am_q0 h)) (fun t2 e => am_q2 e h2 (fun h => (am_c_iload_n hG (pc := 80) d62_80 rfl (xq_zret hG (by decide) hr (pc := 81) d62_81 mr62 h (fun h => (am_q0 h))))))))))))))) (fun h => (am_c_aload_n hG (pc := 23) d62_23 rfl (x_get_n (v := .inl (μ o 1)) hG (pc := 24) d62_24 mo62 f3_13 rfl (am_c_aload_n hG (pc := 27) d62_27 rfl (x_get_n (v := .inr (.inr (18, am_ref a 0))) hG (pc := 28) d62_28 mo62 f3_7 rfl (am_c_len hG (pc := 31) d62_31 (by decide) (x_icmp_gt (tgt := 39) hG (pc := 32) d62_32 rfl h (fun h => (am_c_iconst hG (pc := 39) d62_39 (by decide) (x_istore_n (lv' := [(2, .inl 0), (0, .inr (.inr (3, o))), (1, .inr (.inr (3, a)))]) hG (pc := 40) d62_40 (ml62 _ (by decide)) rfl (am_c_iconst hG (pc := 41) d62_41 (by decide) (x_istore_n (lv' := [(3, .inl 0), (2, .inl 0), (0, .inr (.inr (3, o))), (1, .inr (.inr (3, a)))]) hG (pc := 42) d62_42 (ml62 _ (by decide)) rfl (x_lp h (fun r h1 h2 => (am_lvw (lv2 := [(0, .inr (.inr (3, o))), (1, .inr (.inr (3, a))), (2, .inl 0), (3, .inl 0)]) [2, 3, 1, 0] rfl (w62_43 hG hr _ _ _ _ _ _ _ h1 (fun q3 e => am_q1 e h2 (fun h => am_q0 h)) (fun t3 e => am_q2 e h2 (fun h => (am_c_iload_n hG (pc := 80) d62_80 rfl (xq_zret hG (by decide) hr (pc := 81) d62_81 mr62 h (fun h => (am_q0 h))))))))))))))) (fun h => (am_c_iconst hG (pc := 35) d62_35 (by decide) (x_goto (tgt := 40) hG (pc := 36) d62_36 rfl (x_istore_n (lv' := [(2, .inl 1), (0, .inr (.inr (3, o))), (1, .inr (.inr (3, a)))]) hG (pc := 40) d62_40 (ml62 _ (by decide)) rfl (am_c_iconst hG (pc := 41) d62_41 (by decide) (x_istore_n (lv' := [(3, .inl 0), (2, .inl 1), (0, .inr (.inr (3, o))), (1, .inr (.inr (3, a)))]) hG (pc := 42) d62_42 (ml62 _ (by decide)) rfl (x_lp h (fun r h1 h2 => (am_lvw (lv2 := [(0, .inr (.inr (3, o))), (1, .inr (.inr (3, a))), (2, .inl 1), (3, .inl 0)]) [2, 3, 1, 0] rfl (w62_43 hG hr _ _ _ _ _ _ _ h1 (fun q4 e => am_q1 e h2 (fun h => am_q0 h)) (fun t4 e => am_q2 e h2 (fun h => (am_c_iload_n hG (pc := 80) d62_80 rfl (xq_zret hG (by decide) hr (pc := 81) d62_81 mr62 h (fun h => (am_q0 h))))))))))))))))))))))))))))))))))))
/-! ChartPress$Table.columnNamed(LChartPress$Letters;)I -/
theorem D63 (k : Nat) {pc : Nat} {i : Instr} (h : tbi63[k]? = some (pc, i)) (hs : am_isw i = false) {n : Nat} (hn : am_il i = n) : decode (am_mc 63) pc = .ok (i, n) := am_d2 (by decide) (by decide) rfl h hs hn
theorem d63_0 : decode (am_mc 63) 0 = .ok (.iconst 0, 1) := D63 0 rfl rfl rfl
theorem d63_1 : decode (am_mc 63) 1 = .ok (.istore_n 2, 1) := D63 1 rfl rfl rfl
theorem d63_2 : decode (am_mc 63) 2 = .ok (.iload_n 2, 1) := D63 2 rfl rfl rfl
theorem d63_3 : decode (am_mc 63) 3 = .ok (.aload_n 0, 1) := D63 3 rfl rfl rfl
theorem d63_4 : decode (am_mc 63) 4 = .ok (.getfield 52, 3) := D63 4 rfl rfl rfl
theorem d63_7 : decode (am_mc 63) 7 = .ok (.if_icmp .ge 31, 3) := D63 5 rfl rfl rfl
theorem d63_10 : decode (am_mc 63) 10 = .ok (.aload_n 1, 1) := D63 6 rfl rfl rfl
theorem d63_11 : decode (am_mc 63) 11 = .ok (.invokevirtual 120, 3) := D63 7 rfl rfl rfl
theorem d63_14 : decode (am_mc 63) 14 = .ok (.ifCond .ne 24, 3) := D63 8 rfl rfl rfl
theorem d63_17 : decode (am_mc 63) 17 = .ok (.aload_n 0, 1) := D63 9 rfl rfl rfl
theorem d63_18 : decode (am_mc 63) 18 = .ok (.iconst (-1), 1) := D63 10 rfl rfl rfl
theorem d63_19 : decode (am_mc 63) 19 = .ok (.iload_n 2, 1) := D63 11 rfl rfl rfl
theorem d63_20 : decode (am_mc 63) 20 = .ok (.invokevirtual 116, 3) := D63 12 rfl rfl rfl
theorem d63_23 : decode (am_mc 63) 23 = .ok (.aload_n 1, 1) := D63 13 rfl rfl rfl
theorem d63_24 : decode (am_mc 63) 24 = .ok (.invokevirtual 148, 3) := D63 14 rfl rfl rfl
theorem d63_27 : decode (am_mc 63) 27 = .ok (.ifCond .eq 5, 3) := D63 15 rfl rfl rfl
theorem d63_30 : decode (am_mc 63) 30 = .ok (.iload_n 2, 1) := D63 16 rfl rfl rfl
theorem d63_31 : decode (am_mc 63) 31 = .ok (.ireturn, 1) := D63 17 rfl rfl rfl
theorem d63_32 : decode (am_mc 63) 32 = .ok (.iinc 2 1, 3) := D63 18 rfl rfl rfl
theorem d63_35 : decode (am_mc 63) 35 = .ok (.goto (-33), 3) := D63 19 rfl rfl rfl
theorem d63_38 : decode (am_mc 63) 38 = .ok (.iconst (-1), 1) := D63 20 rfl rfl rfl
theorem d63_39 : decode (am_mc 63) 39 = .ok (.ireturn, 1) := D63 21 rfl rfl rfl
theorem ml63 : ∀ n, n < 3 → n < am_ml 63 := fun _ h => h
theorem mo63 : am_mo 63 = 2 := by decide +kernel
theorem mr63 : am_mr 63 = some .int := by decide +kernel
theorem rg63 : am_rcg 63 = 3 := by decide +kernel
theorem m2_148 : tb_m 2 148 = some (62, 2, 1, 0) := by decide +kernel
theorem dp63_28 : am_md 28 + 1 ≤ am_md 63 ∧ 8 + (am_ml 28 + 11) + am_lr 28 ≤ am_lr 63 := by decide +kernel
theorem dp63_29 : am_md 29 + 1 ≤ am_md 63 ∧ 8 + (am_ml 29 + 11) + am_lr 29 ≤ am_lr 63 := by decide +kernel
theorem dp63_62 : am_md 62 + 1 ≤ am_md 63 ∧ 8 + (am_ml 62 + 11) + am_lr 62 ≤ am_lr 63 := by decide +kernel
def L63_2 (l0 : Nat) (l1 : Nat) : Nat → Int → am_M → Option ((Int × am_M) ⊕ (Int × am_M))
  | 0, _, _ => none
  | n + 1, l2, μ => (if l2 < μ l0 5 then (am_op (fn29 l1 μ) (fun z1 => (if z1.1 = 0 then (am_op (fn28 l0 ((-1)) l2 z1.2) (fun z2 => (am_op (fn62 z2.1.toNat l1 z2.2) (fun z3 => (if z3.1 = 0 then (L63_2 l0 l1 n (w32 (l2 + 1)) z3.2) else some (.inl (l2, z3.2))))))) else (some (.inr (l2, z1.2)))))) else (some (.inr (l2, μ))))
theorem w63_2 {X : am_K} {C : am_C} {Q : State → Prop} (hG : am_G X C 63 0 0 (0, fun _ => 0)) (hr : match X with | (_, _, _, _, _, _, _, _, meth, _) => meth.sig.returnType = am_mr 63 ∧ meth.locks = false) (l0 : Nat) (l1 : Nat) : ∀ (n : Nat) (l2 : Int) (μ : am_M) (r : (Int × am_M) ⊕ (Int × am_M)), L63_2 l0 l1 n l2 μ = some r → (∀ q, r = .inl q → Q = am_E X C 63 q.1 q.2) → (∀ t, r = .inr t → am_W X C 63 Q 0 0 38 [] [] t.2) → am_W X C 63 Q 0 0 2 [(0, .inr (.inr (2, l0))), (1, .inr (.inr (3, l1))), (2, .inl l2)] [] μ := by
  intro n
  induction n with
  | zero => intro l2 μ r h; cases h
  | succ n ih =>
    intro l2 μ r h hI hX
    unfold L63_2 at h
    exact (am_c_iload_n hG (pc := 2) d63_2 rfl (am_c_aload_n hG (pc := 3) d63_3 rfl (x_get_n (v := .inl (μ l0 5)) hG (pc := 4) d63_4 mo63 f2_52 rfl (x_icmp_ge (tgt := 38) hG (pc := 7) d63_7 rfl h (fun h => (am_lvw (lv2 := []) [] rfl (hX (l2, μ) (Option.some.inj h).symm))) (fun h => (am_c_aload_n hG (pc := 10) d63_10 rfl (x_virtual_i (t := 3) (o := l1) (as2 := []) (rest := []) hG (pc := 11) d63_11 mo63 m2_120 (by decide) dp63_29 rfl rfl (Nat.le_of_ble_eq_true rfl) (Nat.le_of_ble_eq_true rfl) rg29 sd29 (e29 _ _) h (fun z1 h => (x_if_ne (tgt := 38) hG (pc := 14) d63_14 rfl h (fun h => (am_lvw (lv2 := []) [] rfl (hX (l2, z1.2) (Option.some.inj h).symm))) (fun h => (am_c_aload_n hG (pc := 17) d63_17 rfl (am_c_iconst hG (pc := 18) d63_18 (by decide) (am_c_iload_n hG (pc := 19) d63_19 rfl (x_virtual_r (t := 2) (o := l0) (as2 := [.inl ((-1)), .inl l2]) (rest := []) hG (pc := 20) d63_20 mo63 m2_116 (by decide) dp63_28 rfl rfl (Nat.le_of_ble_eq_true rfl) (Nat.le_of_ble_eq_true rfl) rg28 sd28 (e28 _ _ _ _) h (fun z2 h => (am_c_aload_n hG (pc := 23) d63_23 rfl (x_virtual_i (t := 3) (o := z2.1.toNat) (as2 := [.inr (.inr (3, l1))]) (rest := []) hG (pc := 24) d63_24 mo63 m2_148 (by decide) dp63_62 rfl rfl (Nat.le_of_ble_eq_true rfl) (Nat.le_of_ble_eq_true rfl) rg62 sd62 (e62 _ _ _) h (fun z3 h => (x_if_eq (tgt := 32) hG (pc := 27) d63_27 rfl h (fun h => (x_iinc (lv' := [(2, .inl (w32 (l2 + 1))), (0, .inr (.inr (2, l0))), (1, .inr (.inr (3, l1)))]) hG (pc := 32) d63_32 rfl (ml63 _ (by decide)) rfl (x_goto (tgt := 2) hG (pc := 35) d63_35 rfl (am_lvw (lv2 := [(0, .inr (.inr (2, l0))), (1, .inr (.inr (3, l1))), (2, .inl (w32 (l2 + 1)))]) [1, 2, 0] rfl (ih _ _ _ h hI hX))))) (fun h => (am_c_iload_n hG (pc := 30) d63_30 rfl (xq_iret hG (by decide) hr (pc := 31) d63_31 mr63 (hI _ (Option.some.inj h).symm)))))))))))))))))))))))
def fn63 (o : Nat) (a : Nat) (μ : am_M) : Option (Int × am_M) := (am_op (L63_2 o a am_fuel 0 μ) (fun s => am_lp s (fun q1 => some q1) (fun t1 => some ((-1), t1.2))))
def sp63 : am_F := fun vs μ => am_aR 2 vs fun o vs => am_aR 3 vs fun a vs => am_a0 vs (fn63 o a μ)
theorem e63 (o : Nat) (a : Nat) (μ : am_M) : sp63 [.inr (.inr (2, o)), .inr (.inr (3, a))] μ = fn63 o a μ := am_aR_c.trans (am_aR_c.trans am_a0_c)
theorem sd63 : am_Sd 63 sp63 := by
  refine am_Sd_of (by decide) (fun vs μ μ' x h hv hM => ?_)
  obtain ⟨o, vs0, rfl, h0⟩ := am_aR_s h
  obtain ⟨a, vs1, rfl, h1⟩ := am_aR_s h0
  obtain ⟨rfl, hz⟩ := am_a0_s h1
  refine ⟨Nat.le_of_ble_eq_true rfl, fun X C hG hr => ?_⟩
  have h := hz
  unfold fn63 at h
  exact (show am_W X C 63 _ 0 0 0 [(0, .inr (.inr (2, o))), (1, .inr (.inr (3, a)))] [] μ from (am_c_iconst hG (pc := 0) d63_0 (by decide) (x_istore_n (lv' := [(2, .inl 0), (0, .inr (.inr (2, o))), (1, .inr (.inr (3, a)))]) hG (pc := 1) d63_1 (ml63 _ (by decide)) rfl (x_lp h (fun r h1 h2 => (am_lvw (lv2 := [(0, .inr (.inr (2, o))), (1, .inr (.inr (3, a))), (2, .inl 0)]) [1, 2, 0] rfl (w63_2 hG hr _ _ _ _ _ _ h1 (fun q1 e => am_q1 e h2 (fun h => am_q0 h)) (fun t1 e => am_q2 e h2 (fun h => (am_c_iconst hG (pc := 38) d63_38 (by decide) (xq_iret hG (by decide) hr (pc := 39) d63_39 mr63 (am_q0 h))))))))))))
/-! ChartPress$Request.readX(LChartPress$Table;)Z -/
theorem D64 (k : Nat) {pc : Nat} {i : Instr} (h : tbi64[k]? = some (pc, i)) (hs : am_isw i = false) {n : Nat} (hn : am_il i = n) : decode (am_mc 64) pc = .ok (i, n) := am_d2 (by decide) (by decide) rfl h hs hn
theorem d64_0 : decode (am_mc 64) 0 = .ok (.aload_n 0, 1) := D64 0 rfl rfl rfl
theorem d64_1 : decode (am_mc 64) 1 = .ok (.invokevirtual 112, 3) := D64 1 rfl rfl rfl
theorem d64_4 : decode (am_mc 64) 4 = .ok (.ldc 126, 2) := D64 2 rfl rfl rfl
theorem d64_6 : decode (am_mc 64) 6 = .ok (.invokevirtual 118, 3) := D64 3 rfl rfl rfl
theorem d64_9 : decode (am_mc 64) 9 = .ok (.ifCond .ne 5, 3) := D64 4 rfl rfl rfl
theorem d64_12 : decode (am_mc 64) 12 = .ok (.iconst 0, 1) := D64 5 rfl rfl rfl
theorem d64_13 : decode (am_mc 64) 13 = .ok (.ireturn, 1) := D64 6 rfl rfl rfl
theorem d64_14 : decode (am_mc 64) 14 = .ok (.aload_n 0, 1) := D64 7 rfl rfl rfl
theorem d64_15 : decode (am_mc 64) 15 = .ok (.aload_n 1, 1) := D64 8 rfl rfl rfl
theorem d64_16 : decode (am_mc 64) 16 = .ok (.aload_n 0, 1) := D64 9 rfl rfl rfl
theorem d64_17 : decode (am_mc 64) 17 = .ok (.invokevirtual 112, 3) := D64 10 rfl rfl rfl
theorem d64_20 : decode (am_mc 64) 20 = .ok (.invokevirtual 128, 3) := D64 11 rfl rfl rfl
theorem d64_23 : decode (am_mc 64) 23 = .ok (.putfield 71, 3) := D64 12 rfl rfl rfl
theorem d64_26 : decode (am_mc 64) 26 = .ok (.aload_n 0, 1) := D64 13 rfl rfl rfl
theorem d64_27 : decode (am_mc 64) 27 = .ok (.getfield 71, 3) := D64 14 rfl rfl rfl
theorem d64_30 : decode (am_mc 64) 30 = .ok (.iconst (-1), 1) := D64 15 rfl rfl rfl
theorem d64_31 : decode (am_mc 64) 31 = .ok (.if_icmp .eq 7, 3) := D64 16 rfl rfl rfl
theorem d64_34 : decode (am_mc 64) 34 = .ok (.iconst 1, 1) := D64 17 rfl rfl rfl
theorem d64_35 : decode (am_mc 64) 35 = .ok (.goto 4, 3) := D64 18 rfl rfl rfl
theorem d64_38 : decode (am_mc 64) 38 = .ok (.iconst 0, 1) := D64 19 rfl rfl rfl
theorem d64_39 : decode (am_mc 64) 39 = .ok (.ireturn, 1) := D64 20 rfl rfl rfl
theorem ml64 : ∀ n, n < 2 → n < am_ml 64 := fun _ h => h
theorem mo64 : am_mo 64 = 4 := by decide +kernel
theorem mr64 : am_mr 64 = some .boolean := by decide +kernel
theorem rg64 : am_rcg 64 = 5 := by decide +kernel
theorem m4_128 : tb_m 4 128 = some (63, 2, 1, 0) := by decide +kernel
theorem dp64_53 : am_md 53 + 1 ≤ am_md 64 ∧ 8 + (am_ml 53 + 11) + am_lr 53 ≤ am_lr 64 := by decide +kernel
theorem dp64_60 : am_md 60 + 1 ≤ am_md 64 ∧ 8 + (am_ml 60 + 11) + am_lr 60 ≤ am_lr 64 := by decide +kernel
theorem dp64_63 : am_md 63 + 1 ≤ am_md 64 ∧ 8 + (am_ml 63 + 11) + am_lr 63 ≤ am_lr 64 := by decide +kernel
def fn64 (o : Nat) (a : Nat) (μ : am_M) : Option (Int × am_M) := (am_op (fn53 o μ) (fun z1 => (am_op (fn60 z1.1.toNat 5 z1.2) (fun z2 => (if z2.1 = 0 then some (0, z2.2) else (am_op (fn53 o z2.2) (fun z3 => (am_op (fn63 a z3.1.toNat z3.2) (fun z4 => (if (am_up z4.2 o 6 z4.1) o 6 = (-1) then some (0, am_up z4.2 o 6 z4.1) else some (1, am_up z4.2 o 6 z4.1)))))))))))
def sp64 : am_F := fun vs μ => am_aR 4 vs fun o vs => am_aR 2 vs fun a vs => am_a0 vs (fn64 o a μ)
theorem e64 (o : Nat) (a : Nat) (μ : am_M) : sp64 [.inr (.inr (4, o)), .inr (.inr (2, a))] μ = fn64 o a μ := am_aR_c.trans (am_aR_c.trans am_a0_c)
theorem sd64 : am_Sd 64 sp64 := by
  refine am_Sd_of (by decide) (fun vs μ μ' x h hv hM => ?_)
  obtain ⟨o, vs0, rfl, h0⟩ := am_aR_s h
  obtain ⟨a, vs1, rfl, h1⟩ := am_aR_s h0
  obtain ⟨rfl, hz⟩ := am_a0_s h1
  refine ⟨Nat.le_of_ble_eq_true rfl, fun X C hG hr => ?_⟩
  have h := hz
  unfold fn64 at h
  exact (show am_W X C 64 _ 0 0 0 [(0, .inr (.inr (4, o))), (1, .inr (.inr (2, a)))] [] μ from (am_c_aload_n hG (pc := 0) d64_0 rfl (x_virtual_r (t := 4) (o := o) (as2 := []) (rest := []) hG (pc := 1) d64_1 mo64 m4_112 (by decide) dp64_53 rfl rfl (Nat.le_of_ble_eq_true rfl) (Nat.le_of_ble_eq_true rfl) rg53 sd53 (e53 _ _) h (fun z1 h => (am_c_ldc hG (pc := 4) d64_4 (v := .inr (.inr (31, 5))) (by decide +kernel) (x_virtual_i (t := 3) (o := z1.1.toNat) (as2 := [.inr (.inr (31, 5))]) (rest := []) hG (pc := 6) d64_6 mo64 m4_118 (by decide) dp64_60 rfl rfl (Nat.le_of_ble_eq_true rfl) (Nat.le_of_ble_eq_true rfl) rg60 sd60 (e60 _ _ _) h (fun z2 h => (x_if_ne (tgt := 14) hG (pc := 9) d64_9 rfl h (fun h => (am_c_aload_n hG (pc := 14) d64_14 rfl (am_c_aload_n hG (pc := 15) d64_15 rfl (am_c_aload_n hG (pc := 16) d64_16 rfl (x_virtual_r (t := 4) (o := o) (as2 := []) (rest := [.inr (.inr (2, a)), .inr (.inr (4, o))]) hG (pc := 17) d64_17 mo64 m4_112 (by decide) dp64_53 rfl rfl (Nat.le_of_ble_eq_true rfl) (Nat.le_of_ble_eq_true rfl) rg53 sd53 (e53 _ _) h (fun z3 h => (x_virtual_i (t := 2) (o := a) (as2 := [.inr (.inr (3, z3.1.toNat))]) (rest := [.inr (.inr (4, o))]) hG (pc := 20) d64_20 mo64 m4_128 (by decide) dp64_63 rfl rfl (Nat.le_of_ble_eq_true rfl) (Nat.le_of_ble_eq_true rfl) rg63 sd63 (e63 _ _ _) h (fun z4 h => (x_put_i hG (pc := 23) d64_23 mo64 f4_71 (by decide) (am_c_aload_n hG (pc := 26) d64_26 rfl (x_get_n (v := .inl ((am_up z4.2 o 6 z4.1) o 6)) hG (pc := 27) d64_27 mo64 f4_71 rfl (am_c_iconst hG (pc := 30) d64_30 (by decide) (x_icmp_eq (tgt := 38) hG (pc := 31) d64_31 rfl h (fun h => (am_c_iconst hG (pc := 38) d64_38 (by decide) (xq_zret0 hG (by decide) hr (pc := 39) d64_39 mr64 (am_q0 h)))) (fun h => (am_c_iconst hG (pc := 34) d64_34 (by decide) (x_goto (tgt := 39) hG (pc := 35) d64_35 rfl (xq_zret1 hG (by decide) hr (pc := 39) d64_39 mr64 (am_q0 h)))))))))))))))))) (fun h => (am_c_iconst hG (pc := 12) d64_12 (by decide) (xq_zret0 hG (by decide) hr (pc := 13) d64_13 mr64 (am_q0 h))))))))))))
/-! ChartPress$Request.measureNamed(LChartPress$Letters;)I -/
theorem D65 (k : Nat) {pc : Nat} {i : Instr} (h : tbi65[k]? = some (pc, i)) (hs : am_isw i = false) {n : Nat} (hn : am_il i = n) : decode (am_mc 65) pc = .ok (i, n) := am_d2 (by decide) (by decide) rfl h hs hn
theorem d65_0 : decode (am_mc 65) 0 = .ok (.aload_n 0, 1) := D65 0 rfl rfl rfl
theorem d65_1 : decode (am_mc 65) 1 = .ok (.ldc 143, 2) := D65 1 rfl rfl rfl
theorem d65_3 : decode (am_mc 65) 3 = .ok (.invokevirtual 118, 3) := D65 2 rfl rfl rfl
theorem d65_6 : decode (am_mc 65) 6 = .ok (.ifCond .eq 5, 3) := D65 3 rfl rfl rfl
theorem d65_9 : decode (am_mc 65) 9 = .ok (.iconst 0, 1) := D65 4 rfl rfl rfl
theorem d65_10 : decode (am_mc 65) 10 = .ok (.ireturn, 1) := D65 5 rfl rfl rfl
theorem d65_11 : decode (am_mc 65) 11 = .ok (.aload_n 0, 1) := D65 6 rfl rfl rfl
theorem d65_12 : decode (am_mc 65) 12 = .ok (.ldc 145, 2) := D65 7 rfl rfl rfl
theorem d65_14 : decode (am_mc 65) 14 = .ok (.invokevirtual 118, 3) := D65 8 rfl rfl rfl
theorem d65_17 : decode (am_mc 65) 17 = .ok (.ifCond .eq 5, 3) := D65 9 rfl rfl rfl
theorem d65_20 : decode (am_mc 65) 20 = .ok (.iconst 1, 1) := D65 10 rfl rfl rfl
theorem d65_21 : decode (am_mc 65) 21 = .ok (.ireturn, 1) := D65 11 rfl rfl rfl
theorem d65_22 : decode (am_mc 65) 22 = .ok (.aload_n 0, 1) := D65 12 rfl rfl rfl
theorem d65_23 : decode (am_mc 65) 23 = .ok (.ldc 147, 2) := D65 13 rfl rfl rfl
theorem d65_25 : decode (am_mc 65) 25 = .ok (.invokevirtual 118, 3) := D65 14 rfl rfl rfl
theorem d65_28 : decode (am_mc 65) 28 = .ok (.ifCond .eq 5, 3) := D65 15 rfl rfl rfl
theorem d65_31 : decode (am_mc 65) 31 = .ok (.iconst 2, 1) := D65 16 rfl rfl rfl
theorem d65_32 : decode (am_mc 65) 32 = .ok (.ireturn, 1) := D65 17 rfl rfl rfl
theorem d65_33 : decode (am_mc 65) 33 = .ok (.aload_n 0, 1) := D65 18 rfl rfl rfl
theorem d65_34 : decode (am_mc 65) 34 = .ok (.ldc 149, 2) := D65 19 rfl rfl rfl
theorem d65_36 : decode (am_mc 65) 36 = .ok (.invokevirtual 118, 3) := D65 20 rfl rfl rfl
theorem d65_39 : decode (am_mc 65) 39 = .ok (.ifCond .eq 7, 3) := D65 21 rfl rfl rfl
theorem d65_42 : decode (am_mc 65) 42 = .ok (.iconst 3, 1) := D65 22 rfl rfl rfl
theorem d65_43 : decode (am_mc 65) 43 = .ok (.goto 17, 3) := D65 23 rfl rfl rfl
theorem d65_46 : decode (am_mc 65) 46 = .ok (.aload_n 0, 1) := D65 24 rfl rfl rfl
theorem d65_47 : decode (am_mc 65) 47 = .ok (.ldc 151, 2) := D65 25 rfl rfl rfl
theorem d65_49 : decode (am_mc 65) 49 = .ok (.invokevirtual 118, 3) := D65 26 rfl rfl rfl
theorem d65_52 : decode (am_mc 65) 52 = .ok (.ifCond .eq 7, 3) := D65 27 rfl rfl rfl
theorem d65_55 : decode (am_mc 65) 55 = .ok (.iconst 4, 1) := D65 28 rfl rfl rfl
theorem d65_56 : decode (am_mc 65) 56 = .ok (.goto 4, 3) := D65 29 rfl rfl rfl
theorem d65_59 : decode (am_mc 65) 59 = .ok (.iconst (-1), 1) := D65 30 rfl rfl rfl
theorem d65_60 : decode (am_mc 65) 60 = .ok (.ireturn, 1) := D65 31 rfl rfl rfl
theorem ml65 : ∀ n, n < 1 → n < am_ml 65 := fun _ h => h
theorem mo65 : am_mo 65 = 4 := by decide +kernel
theorem mr65 : am_mr 65 = some .int := by decide +kernel
theorem rg65 : am_rcg 65 = 0 := by decide +kernel
theorem dp65_60 : am_md 60 + 1 ≤ am_md 65 ∧ 8 + (am_ml 60 + 11) + am_lr 60 ≤ am_lr 65 := by decide +kernel
def fn65 (a : Nat) (μ : am_M) : Option (Int × am_M) := (am_op (fn60 a 7 μ) (fun z1 => (if z1.1 = 0 then (am_op (fn60 a 8 z1.2) (fun z2 => (if z2.1 = 0 then (am_op (fn60 a 9 z2.2) (fun z3 => (if z3.1 = 0 then (am_op (fn60 a 10 z3.2) (fun z4 => (if z4.1 = 0 then (am_op (fn60 a 11 z4.2) (fun z5 => (if z5.1 = 0 then some ((-1), z5.2) else some (4, z5.2)))) else some (3, z4.2)))) else some (2, z3.2)))) else some (1, z2.2)))) else some (0, z1.2))))
def sp65 : am_F := fun vs μ => am_aR 3 vs fun a vs => am_a0 vs (fn65 a μ)
theorem e65 (a : Nat) (μ : am_M) : sp65 [.inr (.inr (3, a))] μ = fn65 a μ := am_aR_c.trans am_a0_c
theorem sd65 : am_Sd 65 sp65 := by
  refine am_Sd_of (by decide) (fun vs μ μ' x h hv hM => ?_)
  obtain ⟨a, vs0, rfl, h0⟩ := am_aR_s h
  obtain ⟨rfl, hz⟩ := am_a0_s h0
  refine ⟨Nat.le_of_ble_eq_true rfl, fun X C hG hr => ?_⟩
  have h := hz
  unfold fn65 at h
  exact (show am_W X C 65 _ 0 0 0 [(0, .inr (.inr (3, a)))] [] μ from (am_c_aload_n hG (pc := 0) d65_0 rfl (am_c_ldc hG (pc := 1) d65_1 (v := .inr (.inr (31, 7))) (by decide +kernel) (x_virtual_i (t := 3) (o := a) (as2 := [.inr (.inr (31, 7))]) (rest := []) hG (pc := 3) d65_3 mo65 m4_118 (by decide) dp65_60 rfl rfl (Nat.le_of_ble_eq_true rfl) (Nat.le_of_ble_eq_true rfl) rg60 sd60 (e60 _ _ _) h (fun z1 h => (x_if_eq (tgt := 11) hG (pc := 6) d65_6 rfl h (fun h => (am_c_aload_n hG (pc := 11) d65_11 rfl (am_c_ldc hG (pc := 12) d65_12 (v := .inr (.inr (31, 8))) (by decide +kernel) (x_virtual_i (t := 3) (o := a) (as2 := [.inr (.inr (31, 8))]) (rest := []) hG (pc := 14) d65_14 mo65 m4_118 (by decide) dp65_60 rfl rfl (Nat.le_of_ble_eq_true rfl) (Nat.le_of_ble_eq_true rfl) rg60 sd60 (e60 _ _ _) h (fun z2 h => (x_if_eq (tgt := 22) hG (pc := 17) d65_17 rfl h (fun h => (am_c_aload_n hG (pc := 22) d65_22 rfl (am_c_ldc hG (pc := 23) d65_23 (v := .inr (.inr (31, 9))) (by decide +kernel) (x_virtual_i (t := 3) (o := a) (as2 := [.inr (.inr (31, 9))]) (rest := []) hG (pc := 25) d65_25 mo65 m4_118 (by decide) dp65_60 rfl rfl (Nat.le_of_ble_eq_true rfl) (Nat.le_of_ble_eq_true rfl) rg60 sd60 (e60 _ _ _) h (fun z3 h => (x_if_eq (tgt := 33) hG (pc := 28) d65_28 rfl h (fun h => (am_c_aload_n hG (pc := 33) d65_33 rfl (am_c_ldc hG (pc := 34) d65_34 (v := .inr (.inr (31, 10))) (by decide +kernel) (x_virtual_i (t := 3) (o := a) (as2 := [.inr (.inr (31, 10))]) (rest := []) hG (pc := 36) d65_36 mo65 m4_118 (by decide) dp65_60 rfl rfl (Nat.le_of_ble_eq_true rfl) (Nat.le_of_ble_eq_true rfl) rg60 sd60 (e60 _ _ _) h (fun z4 h => (x_if_eq (tgt := 46) hG (pc := 39) d65_39 rfl h (fun h => (am_c_aload_n hG (pc := 46) d65_46 rfl (am_c_ldc hG (pc := 47) d65_47 (v := .inr (.inr (31, 11))) (by decide +kernel) (x_virtual_i (t := 3) (o := a) (as2 := [.inr (.inr (31, 11))]) (rest := []) hG (pc := 49) d65_49 mo65 m4_118 (by decide) dp65_60 rfl rfl (Nat.le_of_ble_eq_true rfl) (Nat.le_of_ble_eq_true rfl) rg60 sd60 (e60 _ _ _) h (fun z5 h => (x_if_eq (tgt := 59) hG (pc := 52) d65_52 rfl h (fun h => (am_c_iconst hG (pc := 59) d65_59 (by decide) (xq_iret hG (by decide) hr (pc := 60) d65_60 mr65 (am_q0 h)))) (fun h => (am_c_iconst hG (pc := 55) d65_55 (by decide) (x_goto (tgt := 60) hG (pc := 56) d65_56 rfl (xq_iret hG (by decide) hr (pc := 60) d65_60 mr65 (am_q0 h))))))))))) (fun h => (am_c_iconst hG (pc := 42) d65_42 (by decide) (x_goto (tgt := 60) hG (pc := 43) d65_43 rfl (xq_iret hG (by decide) hr (pc := 60) d65_60 mr65 (am_q0 h))))))))))) (fun h => (am_c_iconst hG (pc := 31) d65_31 (by decide) (xq_iret hG (by decide) hr (pc := 32) d65_32 mr65 (am_q0 h)))))))))) (fun h => (am_c_iconst hG (pc := 20) d65_20 (by decide) (xq_iret hG (by decide) hr (pc := 21) d65_21 mr65 (am_q0 h)))))))))) (fun h => (am_c_iconst hG (pc := 9) d65_9 (by decide) (xq_iret hG (by decide) hr (pc := 10) d65_10 mr65 (am_q0 h))))))))))
/-! ChartPress$Request.readY(LChartPress$Table;)Z -/
theorem D66 (k : Nat) {pc : Nat} {i : Instr} (h : tbi66[k]? = some (pc, i)) (hs : am_isw i = false) {n : Nat} (hn : am_il i = n) : decode (am_mc 66) pc = .ok (i, n) := am_d2 (by decide) (by decide) rfl h hs hn
theorem d66_0 : decode (am_mc 66) 0 = .ok (.aload_n 0, 1) := D66 0 rfl rfl rfl
theorem d66_1 : decode (am_mc 66) 1 = .ok (.invokevirtual 112, 3) := D66 1 rfl rfl rfl
theorem d66_4 : decode (am_mc 66) 4 = .ok (.ldc 134, 2) := D66 2 rfl rfl rfl
theorem d66_6 : decode (am_mc 66) 6 = .ok (.invokevirtual 118, 3) := D66 3 rfl rfl rfl
theorem d66_9 : decode (am_mc 66) 9 = .ok (.ifCond .ne 5, 3) := D66 4 rfl rfl rfl
theorem d66_12 : decode (am_mc 66) 12 = .ok (.iconst 0, 1) := D66 5 rfl rfl rfl
theorem d66_13 : decode (am_mc 66) 13 = .ok (.ireturn, 1) := D66 6 rfl rfl rfl
theorem d66_14 : decode (am_mc 66) 14 = .ok (.aload_n 0, 1) := D66 7 rfl rfl rfl
theorem d66_15 : decode (am_mc 66) 15 = .ok (.aload_n 0, 1) := D66 8 rfl rfl rfl
theorem d66_16 : decode (am_mc 66) 16 = .ok (.invokevirtual 112, 3) := D66 9 rfl rfl rfl
theorem d66_19 : decode (am_mc 66) 19 = .ok (.invokestatic 136, 3) := D66 10 rfl rfl rfl
theorem d66_22 : decode (am_mc 66) 22 = .ok (.putfield 74, 3) := D66 11 rfl rfl rfl
theorem d66_25 : decode (am_mc 66) 25 = .ok (.aload_n 0, 1) := D66 12 rfl rfl rfl
theorem d66_26 : decode (am_mc 66) 26 = .ok (.getfield 74, 3) := D66 13 rfl rfl rfl
theorem d66_29 : decode (am_mc 66) 29 = .ok (.iconst (-1), 1) := D66 14 rfl rfl rfl
theorem d66_30 : decode (am_mc 66) 30 = .ok (.if_icmp .eq 10, 3) := D66 15 rfl rfl rfl
theorem d66_33 : decode (am_mc 66) 33 = .ok (.aload_n 0, 1) := D66 16 rfl rfl rfl
theorem d66_34 : decode (am_mc 66) 34 = .ok (.getfield 74, 3) := D66 17 rfl rfl rfl
theorem d66_37 : decode (am_mc 66) 37 = .ok (.ifCond .ne 16, 3) := D66 18 rfl rfl rfl
theorem d66_40 : decode (am_mc 66) 40 = .ok (.aload_n 0, 1) := D66 19 rfl rfl rfl
theorem d66_41 : decode (am_mc 66) 41 = .ok (.getfield 74, 3) := D66 20 rfl rfl rfl
theorem d66_44 : decode (am_mc 66) 44 = .ok (.ifCond .ne 7, 3) := D66 21 rfl rfl rfl
theorem d66_47 : decode (am_mc 66) 47 = .ok (.iconst 1, 1) := D66 22 rfl rfl rfl
theorem d66_48 : decode (am_mc 66) 48 = .ok (.goto 4, 3) := D66 23 rfl rfl rfl
theorem d66_51 : decode (am_mc 66) 51 = .ok (.iconst 0, 1) := D66 24 rfl rfl rfl
theorem d66_52 : decode (am_mc 66) 52 = .ok (.ireturn, 1) := D66 25 rfl rfl rfl
theorem d66_53 : decode (am_mc 66) 53 = .ok (.aload_n 0, 1) := D66 26 rfl rfl rfl
theorem d66_54 : decode (am_mc 66) 54 = .ok (.aload_n 1, 1) := D66 27 rfl rfl rfl
theorem d66_55 : decode (am_mc 66) 55 = .ok (.aload_n 0, 1) := D66 28 rfl rfl rfl
theorem d66_56 : decode (am_mc 66) 56 = .ok (.invokevirtual 112, 3) := D66 29 rfl rfl rfl
theorem d66_59 : decode (am_mc 66) 59 = .ok (.invokevirtual 128, 3) := D66 30 rfl rfl rfl
theorem d66_62 : decode (am_mc 66) 62 = .ok (.putfield 77, 3) := D66 31 rfl rfl rfl
theorem d66_65 : decode (am_mc 66) 65 = .ok (.aload_n 0, 1) := D66 32 rfl rfl rfl
theorem d66_66 : decode (am_mc 66) 66 = .ok (.getfield 77, 3) := D66 33 rfl rfl rfl
theorem d66_69 : decode (am_mc 66) 69 = .ok (.iconst (-1), 1) := D66 34 rfl rfl rfl
theorem d66_70 : decode (am_mc 66) 70 = .ok (.if_icmp .eq 19, 3) := D66 35 rfl rfl rfl
theorem d66_73 : decode (am_mc 66) 73 = .ok (.aload_n 1, 1) := D66 36 rfl rfl rfl
theorem d66_74 : decode (am_mc 66) 74 = .ok (.aload_n 0, 1) := D66 37 rfl rfl rfl
theorem d66_75 : decode (am_mc 66) 75 = .ok (.getfield 77, 3) := D66 38 rfl rfl rfl
theorem d66_78 : decode (am_mc 66) 78 = .ok (.invokevirtual 139, 3) := D66 39 rfl rfl rfl
theorem d66_81 : decode (am_mc 66) 81 = .ok (.iconst 1, 1) := D66 40 rfl rfl rfl
theorem d66_82 : decode (am_mc 66) 82 = .ok (.if_icmp .ne 7, 3) := D66 41 rfl rfl rfl
theorem d66_85 : decode (am_mc 66) 85 = .ok (.iconst 1, 1) := D66 42 rfl rfl rfl
theorem d66_86 : decode (am_mc 66) 86 = .ok (.goto 4, 3) := D66 43 rfl rfl rfl
theorem d66_89 : decode (am_mc 66) 89 = .ok (.iconst 0, 1) := D66 44 rfl rfl rfl
theorem d66_90 : decode (am_mc 66) 90 = .ok (.ireturn, 1) := D66 45 rfl rfl rfl
theorem ml66 : ∀ n, n < 2 → n < am_ml 66 := fun _ h => h
theorem mo66 : am_mo 66 = 4 := by decide +kernel
theorem mr66 : am_mr 66 = some .boolean := by decide +kernel
theorem rg66 : am_rcg 66 = 5 := by decide +kernel
theorem m4_136 : tb_m 4 136 = some (65, 1, 1, 0) := by decide +kernel
theorem m4_139 : tb_m 4 139 = some (45, 2, 1, 0) := by decide +kernel
theorem dp66_45 : am_md 45 + 1 ≤ am_md 66 ∧ 8 + (am_ml 45 + 11) + am_lr 45 ≤ am_lr 66 := by decide +kernel
theorem dp66_53 : am_md 53 + 1 ≤ am_md 66 ∧ 8 + (am_ml 53 + 11) + am_lr 53 ≤ am_lr 66 := by decide +kernel
theorem dp66_60 : am_md 60 + 1 ≤ am_md 66 ∧ 8 + (am_ml 60 + 11) + am_lr 60 ≤ am_lr 66 := by decide +kernel
theorem dp66_63 : am_md 63 + 1 ≤ am_md 66 ∧ 8 + (am_ml 63 + 11) + am_lr 63 ≤ am_lr 66 := by decide +kernel
theorem dp66_65 : am_md 65 + 1 ≤ am_md 66 ∧ 8 + (am_ml 65 + 11) + am_lr 65 ≤ am_lr 66 := by decide +kernel
def fn66 (o : Nat) (a : Nat) (μ : am_M) : Option (Int × am_M) := (am_op (fn53 o μ) (fun z1 => (am_op (fn60 z1.1.toNat 6 z1.2) (fun z2 => (if z2.1 = 0 then some (0, z2.2) else (am_op (fn53 o z2.2) (fun z3 => (am_op (fn65 z3.1.toNat z3.2) (fun z4 => (if (am_up z4.2 o 7 z4.1) o 7 = (-1) then (if (am_up z4.2 o 7 z4.1) o 7 = 0 then some (1, am_up z4.2 o 7 z4.1) else some (0, am_up z4.2 o 7 z4.1)) else (if (am_up z4.2 o 7 z4.1) o 7 = 0 then (if (am_up z4.2 o 7 z4.1) o 7 = 0 then some (1, am_up z4.2 o 7 z4.1) else some (0, am_up z4.2 o 7 z4.1)) else (am_op (fn53 o (am_up z4.2 o 7 z4.1)) (fun z5 => (am_op (fn63 a z5.1.toNat z5.2) (fun z6 => (if (am_up z6.2 o 8 z6.1) o 8 = (-1) then some (0, am_up z6.2 o 8 z6.1) else (am_op (fn45 a ((am_up z6.2 o 8 z6.1) o 8) (am_up z6.2 o 8 z6.1)) (fun z7 => (if z7.1 = 1 then some (1, z7.2) else some (0, z7.2))))))))))))))))))))
def sp66 : am_F := fun vs μ => am_aR 4 vs fun o vs => am_aR 2 vs fun a vs => am_a0 vs (fn66 o a μ)
theorem e66 (o : Nat) (a : Nat) (μ : am_M) : sp66 [.inr (.inr (4, o)), .inr (.inr (2, a))] μ = fn66 o a μ := am_aR_c.trans (am_aR_c.trans am_a0_c)
theorem sd66 : am_Sd 66 sp66 := by
  refine am_Sd_of (by decide) (fun vs μ μ' x h hv hM => ?_)
  obtain ⟨o, vs0, rfl, h0⟩ := am_aR_s h
  obtain ⟨a, vs1, rfl, h1⟩ := am_aR_s h0
  obtain ⟨rfl, hz⟩ := am_a0_s h1
  refine ⟨Nat.le_of_ble_eq_true rfl, fun X C hG hr => ?_⟩
  have h := hz
  unfold fn66 at h
  exact (show am_W X C 66 _ 0 0 0 [(0, .inr (.inr (4, o))), (1, .inr (.inr (2, a)))] [] μ from (am_c_aload_n hG (pc := 0) d66_0 rfl (x_virtual_r (t := 4) (o := o) (as2 := []) (rest := []) hG (pc := 1) d66_1 mo66 m4_112 (by decide) dp66_53 rfl rfl (Nat.le_of_ble_eq_true rfl) (Nat.le_of_ble_eq_true rfl) rg53 sd53 (e53 _ _) h (fun z1 h => (am_c_ldc hG (pc := 4) d66_4 (v := .inr (.inr (31, 6))) (by decide +kernel) (x_virtual_i (t := 3) (o := z1.1.toNat) (as2 := [.inr (.inr (31, 6))]) (rest := []) hG (pc := 6) d66_6 mo66 m4_118 (by decide) dp66_60 rfl rfl (Nat.le_of_ble_eq_true rfl) (Nat.le_of_ble_eq_true rfl) rg60 sd60 (e60 _ _ _) h (fun z2 h => (x_if_ne (tgt := 14) hG (pc := 9) d66_9 rfl h (fun h => (am_c_aload_n hG (pc := 14) d66_14 rfl (am_c_aload_n hG (pc := 15) d66_15 rfl (x_virtual_r (t := 4) (o := o) (as2 := []) (rest := [.inr (.inr (4, o))]) hG (pc := 16) d66_16 mo66 m4_112 (by decide) dp66_53 rfl rfl (Nat.le_of_ble_eq_true rfl) (Nat.le_of_ble_eq_true rfl) rg53 sd53 (e53 _ _) h (fun z3 h => (x_static_i (as := [.inr (.inr (3, z3.1.toNat))]) (rest := [.inr (.inr (4, o))]) hG (pc := 19) d66_19 mo66 m4_136 (by decide) dp66_65 rfl rfl (Nat.le_of_ble_eq_true rfl) (Nat.le_of_ble_eq_true rfl) rg65 sd65 (e65 _ _) h (fun z4 h => (x_put_i hG (pc := 22) d66_22 mo66 f4_74 (by decide) (am_c_aload_n hG (pc := 25) d66_25 rfl (x_get_n (v := .inl ((am_up z4.2 o 7 z4.1) o 7)) hG (pc := 26) d66_26 mo66 f4_74 rfl (am_c_iconst hG (pc := 29) d66_29 (by decide) (x_icmp_eq (tgt := 40) hG (pc := 30) d66_30 rfl h (fun h => (am_c_aload_n hG (pc := 40) d66_40 rfl (x_get_n (v := .inl ((am_up z4.2 o 7 z4.1) o 7)) hG (pc := 41) d66_41 mo66 f4_74 rfl (x_if_ne (tgt := 51) hG (pc := 44) d66_44 rfl h (fun h => (am_c_iconst hG (pc := 51) d66_51 (by decide) (xq_zret0 hG (by decide) hr (pc := 52) d66_52 mr66 (am_q0 h)))) (fun h => (am_c_iconst hG (pc := 47) d66_47 (by decide) (x_goto (tgt := 52) hG (pc := 48) d66_48 rfl (xq_zret1 hG (by decide) hr (pc := 52) d66_52 mr66 (am_q0 h))))))))) (fun h => (am_c_aload_n hG (pc := 33) d66_33 rfl (x_get_n (v := .inl ((am_up z4.2 o 7 z4.1) o 7)) hG (pc := 34) d66_34 mo66 f4_74 rfl (x_if_ne (tgt := 53) hG (pc := 37) d66_37 rfl h (fun h => (am_c_aload_n hG (pc := 53) d66_53 rfl (am_c_aload_n hG (pc := 54) d66_54 rfl (am_c_aload_n hG (pc := 55) d66_55 rfl (x_virtual_r (t := 4) (o := o) (as2 := []) (rest := [.inr (.inr (2, a)), .inr (.inr (4, o))]) hG (pc := 56) d66_56 mo66 m4_112 (by decide) dp66_53 rfl rfl (Nat.le_of_ble_eq_true rfl) (Nat.le_of_ble_eq_true rfl) rg53 sd53 (e53 _ _) h (fun z5 h => (x_virtual_i (t := 2) (o := a) (as2 := [.inr (.inr (3, z5.1.toNat))]) (rest := [.inr (.inr (4, o))]) hG (pc := 59) d66_59 mo66 m4_128 (by decide) dp66_63 rfl rfl (Nat.le_of_ble_eq_true rfl) (Nat.le_of_ble_eq_true rfl) rg63 sd63 (e63 _ _ _) h (fun z6 h => (x_put_i hG (pc := 62) d66_62 mo66 f4_77 (by decide) (am_c_aload_n hG (pc := 65) d66_65 rfl (x_get_n (v := .inl ((am_up z6.2 o 8 z6.1) o 8)) hG (pc := 66) d66_66 mo66 f4_77 rfl (am_c_iconst hG (pc := 69) d66_69 (by decide) (x_icmp_eq (tgt := 89) hG (pc := 70) d66_70 rfl h (fun h => (am_c_iconst hG (pc := 89) d66_89 (by decide) (xq_zret0 hG (by decide) hr (pc := 90) d66_90 mr66 (am_q0 h)))) (fun h => (am_c_aload_n hG (pc := 73) d66_73 rfl (am_c_aload_n hG (pc := 74) d66_74 rfl (x_get_n (v := .inl ((am_up z6.2 o 8 z6.1) o 8)) hG (pc := 75) d66_75 mo66 f4_77 rfl (x_virtual_i (t := 2) (o := a) (as2 := [.inl ((am_up z6.2 o 8 z6.1) o 8)]) (rest := []) hG (pc := 78) d66_78 mo66 m4_139 (by decide) dp66_45 rfl rfl (Nat.le_of_ble_eq_true rfl) (Nat.le_of_ble_eq_true rfl) rg45 sd45 (e45 _ _ _) h (fun z7 h => (am_c_iconst hG (pc := 81) d66_81 (by decide) (x_icmp_ne (tgt := 89) hG (pc := 82) d66_82 rfl h (fun h => (am_c_iconst hG (pc := 89) d66_89 (by decide) (xq_zret0 hG (by decide) hr (pc := 90) d66_90 mr66 (am_q0 h)))) (fun h => (am_c_iconst hG (pc := 85) d66_85 (by decide) (x_goto (tgt := 90) hG (pc := 86) d66_86 rfl (xq_zret1 hG (by decide) hr (pc := 90) d66_90 mr66 (am_q0 h)))))))))))))))))))))))))) (fun h => (am_c_aload_n hG (pc := 40) d66_40 rfl (x_get_n (v := .inl ((am_up z4.2 o 7 z4.1) o 7)) hG (pc := 41) d66_41 mo66 f4_74 rfl (x_if_ne (tgt := 51) hG (pc := 44) d66_44 rfl h (fun h => (am_c_iconst hG (pc := 51) d66_51 (by decide) (xq_zret0 hG (by decide) hr (pc := 52) d66_52 mr66 (am_q0 h)))) (fun h => (am_c_iconst hG (pc := 47) d66_47 (by decide) (x_goto (tgt := 52) hG (pc := 48) d66_48 rfl (xq_zret1 hG (by decide) hr (pc := 52) d66_52 mr66 (am_q0 h))))))))))))))))))))))))) (fun h => (am_c_iconst hG (pc := 12) d66_12 (by decide) (xq_zret0 hG (by decide) hr (pc := 13) d66_13 mr66 (am_q0 h))))))))))))
/-! ChartPress$Letters.copy(LChartPress$Letters;)V -/
theorem D67 (k : Nat) {pc : Nat} {i : Instr} (h : tbi67[k]? = some (pc, i)) (hs : am_isw i = false) {n : Nat} (hn : am_il i = n) : decode (am_mc 67) pc = .ok (i, n) := am_d2 (by decide) (by decide) rfl h hs hn
theorem d67_0 : decode (am_mc 67) 0 = .ok (.aload_n 0, 1) := D67 0 rfl rfl rfl
theorem d67_1 : decode (am_mc 67) 1 = .ok (.invokevirtual 17, 3) := D67 1 rfl rfl rfl
theorem d67_4 : decode (am_mc 67) 4 = .ok (.iconst 0, 1) := D67 2 rfl rfl rfl
theorem d67_5 : decode (am_mc 67) 5 = .ok (.istore_n 2, 1) := D67 3 rfl rfl rfl
theorem d67_6 : decode (am_mc 67) 6 = .ok (.iload_n 2, 1) := D67 4 rfl rfl rfl
theorem d67_7 : decode (am_mc 67) 7 = .ok (.aload_n 1, 1) := D67 5 rfl rfl rfl
theorem d67_8 : decode (am_mc 67) 8 = .ok (.getfield 13, 3) := D67 6 rfl rfl rfl
theorem d67_11 : decode (am_mc 67) 11 = .ok (.if_icmp .ge 18, 3) := D67 7 rfl rfl rfl
theorem d67_14 : decode (am_mc 67) 14 = .ok (.aload_n 0, 1) := D67 8 rfl rfl rfl
theorem d67_15 : decode (am_mc 67) 15 = .ok (.aload_n 1, 1) := D67 9 rfl rfl rfl
theorem d67_16 : decode (am_mc 67) 16 = .ok (.iload_n 2, 1) := D67 10 rfl rfl rfl
theorem d67_17 : decode (am_mc 67) 17 = .ok (.invokevirtual 20, 3) := D67 11 rfl rfl rfl
theorem d67_20 : decode (am_mc 67) 20 = .ok (.invokevirtual 24, 3) := D67 12 rfl rfl rfl
theorem d67_23 : decode (am_mc 67) 23 = .ok (.iinc 2 1, 3) := D67 13 rfl rfl rfl
theorem d67_26 : decode (am_mc 67) 26 = .ok (.goto (-20), 3) := D67 14 rfl rfl rfl
theorem d67_29 : decode (am_mc 67) 29 = .ok (.return_, 1) := D67 15 rfl rfl rfl
theorem ml67 : ∀ n, n < 3 → n < am_ml 67 := fun _ h => h
theorem mo67 : am_mo 67 = 3 := by decide +kernel
theorem rk67 : am_rk 67 = 0 := by decide +kernel
theorem rg67 : am_rcg 67 = 4 := by decide +kernel
theorem m3_17 : tb_m 3 17 = some (14, 1, 0, 0) := by decide +kernel
theorem m3_24 : tb_m 3 24 = some (17, 2, 0, 0) := by decide +kernel
theorem dp67_14 : am_md 14 + 1 ≤ am_md 67 ∧ 8 + (am_ml 14 + 11) + am_lr 14 ≤ am_lr 67 := by decide +kernel
theorem dp67_17 : am_md 17 + 1 ≤ am_md 67 ∧ 8 + (am_ml 17 + 11) + am_lr 17 ≤ am_lr 67 := by decide +kernel
theorem dp67_30 : am_md 30 + 1 ≤ am_md 67 ∧ 8 + (am_ml 30 + 11) + am_lr 30 ≤ am_lr 67 := by decide +kernel
def L67_6 (l0 : Nat) (l1 : Nat) : Nat → Int → am_M → Option ((Int × am_M) ⊕ (Int × am_M))
  | 0, _, _ => none
  | n + 1, l2, μ => (if l2 < μ l1 1 then (am_op (fn30 l1 l2 μ) (fun z2 => (am_op (fn17 l0 z2.1 z2.2) (fun z3 => (L67_6 l0 l1 n (w32 (l2 + 1)) z3.2))))) else (some (.inr (l2, μ))))
theorem w67_6 {X : am_K} {C : am_C} {Q : State → Prop} (hG : am_G X C 67 0 0 (0, fun _ => 0)) (hr : match X with | (_, _, _, _, _, _, _, _, meth, _) => meth.sig.returnType = am_mr 67 ∧ meth.locks = false) (l0 : Nat) (l1 : Nat) : ∀ (n : Nat) (l2 : Int) (μ : am_M) (r : (Int × am_M) ⊕ (Int × am_M)), L67_6 l0 l1 n l2 μ = some r → (∀ q, r = .inl q → Q = am_E X C 67 q.1 q.2) → (∀ t, r = .inr t → am_W X C 67 Q 0 0 29 [] [] t.2) → am_W X C 67 Q 0 0 6 [(0, .inr (.inr (3, l0))), (1, .inr (.inr (3, l1))), (2, .inl l2)] [] μ := by
  intro n
  induction n with
  | zero => intro l2 μ r h; cases h
  | succ n ih =>
    intro l2 μ r h hI hX
    unfold L67_6 at h
    exact (am_c_iload_n hG (pc := 6) d67_6 rfl (am_c_aload_n hG (pc := 7) d67_7 rfl (x_get_n (v := .inl (μ l1 1)) hG (pc := 8) d67_8 mo67 f3_13 rfl (x_icmp_ge (tgt := 29) hG (pc := 11) d67_11 rfl h (fun h => (am_lvw (lv2 := []) [] rfl (hX (l2, μ) (Option.some.inj h).symm))) (fun h => (am_c_aload_n hG (pc := 14) d67_14 rfl (am_c_aload_n hG (pc := 15) d67_15 rfl (am_c_iload_n hG (pc := 16) d67_16 rfl (x_virtual_i (t := 3) (o := l1) (as2 := [.inl l2]) (rest := [.inr (.inr (3, l0))]) hG (pc := 17) d67_17 mo67 m3_20 (by decide) dp67_30 rfl rfl (Nat.le_of_ble_eq_true rfl) (Nat.le_of_ble_eq_true rfl) rg30 sd30 (e30 _ _ _) h (fun z2 h => (x_virtual_v (t := 3) (o := l0) (as2 := [.inl z2.1]) (rest := []) hG (pc := 20) d67_20 mo67 m3_24 (by decide) dp67_17 rfl rfl (Nat.le_of_ble_eq_true rfl) (Nat.le_of_ble_eq_true rfl) rg17 sd17 (e17 _ _ _) h (fun z3 h => (x_iinc (lv' := [(2, .inl (w32 (l2 + 1))), (0, .inr (.inr (3, l0))), (1, .inr (.inr (3, l1)))]) hG (pc := 23) d67_23 rfl (ml67 _ (by decide)) rfl (x_goto (tgt := 6) hG (pc := 26) d67_26 rfl (am_lvw (lv2 := [(0, .inr (.inr (3, l0))), (1, .inr (.inr (3, l1))), (2, .inl (w32 (l2 + 1)))]) [1, 2, 0] rfl (ih _ _ _ h hI hX))))))))))))))))
def fn67 (o : Nat) (a : Nat) (μ : am_M) : Option (Int × am_M) := (am_op (fn14 o μ) (fun z1 => (am_op (L67_6 o a am_fuel 0 z1.2) (fun s => am_lp s (fun q1 => some q1) (fun t1 => some (0, t1.2))))))
def sp67 : am_F := fun vs μ => am_aR 3 vs fun o vs => am_aR 3 vs fun a vs => am_a0 vs (fn67 o a μ)
theorem e67 (o : Nat) (a : Nat) (μ : am_M) : sp67 [.inr (.inr (3, o)), .inr (.inr (3, a))] μ = fn67 o a μ := am_aR_c.trans (am_aR_c.trans am_a0_c)
theorem sd67 : am_Sd 67 sp67 := by
  refine am_Sd_of (by decide) (fun vs μ μ' x h hv hM => ?_)
  obtain ⟨o, vs0, rfl, h0⟩ := am_aR_s h
  obtain ⟨a, vs1, rfl, h1⟩ := am_aR_s h0
  obtain ⟨rfl, hz⟩ := am_a0_s h1
  refine ⟨Nat.le_of_ble_eq_true rfl, fun X C hG hr => ?_⟩
  have h := hz
  unfold fn67 at h
  exact (show am_W X C 67 _ 0 0 0 [(0, .inr (.inr (3, o))), (1, .inr (.inr (3, a)))] [] μ from (am_c_aload_n hG (pc := 0) d67_0 rfl (x_virtual_v (t := 3) (o := o) (as2 := []) (rest := []) hG (pc := 1) d67_1 mo67 m3_17 (by decide) dp67_14 rfl rfl (Nat.le_of_ble_eq_true rfl) (Nat.le_of_ble_eq_true rfl) rg14 sd14 (e14 _ _) h (fun z1 h => (am_c_iconst hG (pc := 4) d67_4 (by decide) (x_istore_n (lv' := [(2, .inl 0), (0, .inr (.inr (3, o))), (1, .inr (.inr (3, a)))]) hG (pc := 5) d67_5 (ml67 _ (by decide)) rfl (x_lp h (fun r h1 h2 => (am_lvw (lv2 := [(0, .inr (.inr (3, o))), (1, .inr (.inr (3, a))), (2, .inl 0)]) [1, 2, 0] rfl (w67_6 hG hr _ _ _ _ _ _ h1 (fun q1 e => am_q1 e h2 (fun h => am_q0 h)) (fun t1 e => am_q2 e h2 (fun h => (xq_vret hG (by decide) hr (pc := 29) d67_29 rk67 (am_q0 h))))))))))))))
/-! ChartPress$Condition.set(ILChartPress$Letters;LChartPress$Letters;)V -/
theorem D68 (k : Nat) {pc : Nat} {i : Instr} (h : tbi68[k]? = some (pc, i)) (hs : am_isw i = false) {n : Nat} (hn : am_il i = n) : decode (am_mc 68) pc = .ok (i, n) := am_d2 (by decide) (by decide) rfl h hs hn
theorem d68_0 : decode (am_mc 68) 0 = .ok (.aload_n 0, 1) := D68 0 rfl rfl rfl
theorem d68_1 : decode (am_mc 68) 1 = .ok (.iload_n 1, 1) := D68 1 rfl rfl rfl
theorem d68_2 : decode (am_mc 68) 2 = .ok (.putfield 23, 3) := D68 2 rfl rfl rfl
theorem d68_5 : decode (am_mc 68) 5 = .ok (.aload_n 0, 1) := D68 3 rfl rfl rfl
theorem d68_6 : decode (am_mc 68) 6 = .ok (.getfield 14, 3) := D68 4 rfl rfl rfl
theorem d68_9 : decode (am_mc 68) 9 = .ok (.aload_n 2, 1) := D68 5 rfl rfl rfl
theorem d68_10 : decode (am_mc 68) 10 = .ok (.invokevirtual 27, 3) := D68 6 rfl rfl rfl
theorem d68_13 : decode (am_mc 68) 13 = .ok (.aload_n 0, 1) := D68 7 rfl rfl rfl
theorem d68_14 : decode (am_mc 68) 14 = .ok (.getfield 20, 3) := D68 8 rfl rfl rfl
theorem d68_17 : decode (am_mc 68) 17 = .ok (.aload_n 3, 1) := D68 9 rfl rfl rfl
theorem d68_18 : decode (am_mc 68) 18 = .ok (.invokevirtual 27, 3) := D68 10 rfl rfl rfl
theorem d68_21 : decode (am_mc 68) 21 = .ok (.return_, 1) := D68 11 rfl rfl rfl
theorem ml68 : ∀ n, n < 4 → n < am_ml 68 := fun _ h => h
theorem mo68 : am_mo 68 = 5 := by decide +kernel
theorem rk68 : am_rk 68 = 0 := by decide +kernel
theorem rg68 : am_rcg 68 = 6 := by decide +kernel
theorem f5_14 : tb_f 5 14 = some (5, 0, 5, 3) := by decide +kernel
theorem f5_20 : tb_f 5 20 = some (5, 1, 5, 3) := by decide +kernel
theorem f5_23 : tb_f 5 23 = some (5, 2, 0, 0) := by decide +kernel
theorem m5_27 : tb_m 5 27 = some (67, 2, 0, 0) := by decide +kernel
theorem dp68_67 : am_md 67 + 1 ≤ am_md 68 ∧ 8 + (am_ml 67 + 11) + am_lr 67 ≤ am_lr 68 := by decide +kernel
def fn68 (o : Nat) (a : Int) (b : Nat) (c : Nat) (μ : am_M) : Option (Int × am_M) := (am_op (fn67 (am_ref o 0) b (am_up μ o 2 a)) (fun z1 => (am_op (fn67 (am_ref o 1) c z1.2) (fun z2 => some (0, z2.2)))))
def sp68 : am_F := fun vs μ => am_aR 5 vs fun o vs => am_aI vs fun a vs => am_aR 3 vs fun b vs => am_aR 3 vs fun c vs => am_a0 vs (fn68 o a b c μ)
theorem e68 (o : Nat) (a : Int) (b : Nat) (c : Nat) (μ : am_M) : sp68 [.inr (.inr (5, o)), .inl a, .inr (.inr (3, b)), .inr (.inr (3, c))] μ = fn68 o a b c μ := am_aR_c.trans (am_aI_c.trans (am_aR_c.trans (am_aR_c.trans am_a0_c)))
theorem sd68 : am_Sd 68 sp68 := by
  refine am_Sd_of (by decide) (fun vs μ μ' x h hv hM => ?_)
  obtain ⟨o, vs0, rfl, h0⟩ := am_aR_s h
  obtain ⟨a, vs1, rfl, h1⟩ := am_aI_s h0
  obtain ⟨b, vs2, rfl, h2⟩ := am_aR_s h1
  obtain ⟨c, vs3, rfl, h3⟩ := am_aR_s h2
  obtain ⟨rfl, hz⟩ := am_a0_s h3
  refine ⟨Nat.le_of_ble_eq_true rfl, fun X C hG hr => ?_⟩
  have h := hz
  unfold fn68 at h
  exact (show am_W X C 68 _ 0 0 0 [(0, .inr (.inr (5, o))), (1, .inl a), (2, .inr (.inr (3, b))), (3, .inr (.inr (3, c)))] [] μ from (am_c_aload_n hG (pc := 0) d68_0 rfl (am_c_iload_n hG (pc := 1) d68_1 rfl (x_put_i hG (pc := 2) d68_2 mo68 f5_23 (by decide) (am_c_aload_n hG (pc := 5) d68_5 rfl (x_get_n (v := .inr (.inr (3, am_ref o 0))) hG (pc := 6) d68_6 mo68 f5_14 rfl (am_c_aload_n hG (pc := 9) d68_9 rfl (x_virtual_v (t := 3) (o := am_ref o 0) (as2 := [.inr (.inr (3, b))]) (rest := []) hG (pc := 10) d68_10 mo68 m5_27 (by decide) dp68_67 rfl rfl (Nat.le_of_ble_eq_true rfl) (Nat.le_of_ble_eq_true rfl) rg67 sd67 (e67 _ _ _) h (fun z1 h => (am_c_aload_n hG (pc := 13) d68_13 rfl (x_get_n (v := .inr (.inr (3, am_ref o 1))) hG (pc := 14) d68_14 mo68 f5_20 rfl (am_c_aload_n hG (pc := 17) d68_17 rfl (x_virtual_v (t := 3) (o := am_ref o 1) (as2 := [.inr (.inr (3, c))]) (rest := []) hG (pc := 18) d68_18 mo68 m5_27 (by decide) dp68_67 rfl rfl (Nat.le_of_ble_eq_true rfl) (Nat.le_of_ble_eq_true rfl) rg67 sd67 (e67 _ _ _) h (fun z2 h => (xq_vret hG (by decide) hr (pc := 21) d68_21 rk68 (am_q0 h))))))))))))))))
/-! ChartPress$Request.readWhere(LChartPress$Table;)Z -/
theorem D69 (k : Nat) {pc : Nat} {i : Instr} (h : tbi69[k]? = some (pc, i)) (hs : am_isw i = false) {n : Nat} (hn : am_il i = n) : decode (am_mc 69) pc = .ok (i, n) := am_d2 (by decide) (by decide) rfl h hs hn
theorem d69_0 : decode (am_mc 69) 0 = .ok (.aload_n 1, 1) := D69 0 rfl rfl rfl
theorem d69_1 : decode (am_mc 69) 1 = .ok (.aload_n 0, 1) := D69 1 rfl rfl rfl
theorem d69_2 : decode (am_mc 69) 2 = .ok (.invokevirtual 112, 3) := D69 2 rfl rfl rfl
theorem d69_5 : decode (am_mc 69) 5 = .ok (.invokevirtual 128, 3) := D69 3 rfl rfl rfl
theorem d69_8 : decode (am_mc 69) 8 = .ok (.istore_n 2, 1) := D69 4 rfl rfl rfl
theorem d69_9 : decode (am_mc 69) 9 = .ok (.iload_n 2, 1) := D69 5 rfl rfl rfl
theorem d69_10 : decode (am_mc 69) 10 = .ok (.iconst (-1), 1) := D69 6 rfl rfl rfl
theorem d69_11 : decode (am_mc 69) 11 = .ok (.if_icmp .eq 15, 3) := D69 7 rfl rfl rfl
theorem d69_14 : decode (am_mc 69) 14 = .ok (.aload_n 0, 1) := D69 8 rfl rfl rfl
theorem d69_15 : decode (am_mc 69) 15 = .ok (.getfield 59, 3) := D69 9 rfl rfl rfl
theorem d69_18 : decode (am_mc 69) 18 = .ok (.aload_n 0, 1) := D69 10 rfl rfl rfl
theorem d69_19 : decode (am_mc 69) 19 = .ok (.getfield 26, 3) := D69 11 rfl rfl rfl
theorem d69_22 : decode (am_mc 69) 22 = .ok (.arraylength, 1) := D69 12 rfl rfl rfl
theorem d69_23 : decode (am_mc 69) 23 = .ok (.if_icmp .lt 5, 3) := D69 13 rfl rfl rfl
theorem d69_26 : decode (am_mc 69) 26 = .ok (.iconst 0, 1) := D69 14 rfl rfl rfl
theorem d69_27 : decode (am_mc 69) 27 = .ok (.ireturn, 1) := D69 15 rfl rfl rfl
theorem d69_28 : decode (am_mc 69) 28 = .ok (.aload_n 0, 1) := D69 16 rfl rfl rfl
theorem d69_29 : decode (am_mc 69) 29 = .ok (.dup, 1) := D69 17 rfl rfl rfl
theorem d69_30 : decode (am_mc 69) 30 = .ok (.getfield 59, 3) := D69 18 rfl rfl rfl
theorem d69_33 : decode (am_mc 69) 33 = .ok (.iconst 1, 1) := D69 19 rfl rfl rfl
theorem d69_34 : decode (am_mc 69) 34 = .ok (.iadd, 1) := D69 20 rfl rfl rfl
theorem d69_35 : decode (am_mc 69) 35 = .ok (.putfield 59, 3) := D69 21 rfl rfl rfl
theorem d69_38 : decode (am_mc 69) 38 = .ok (.aload_n 0, 1) := D69 22 rfl rfl rfl
theorem d69_39 : decode (am_mc 69) 39 = .ok (.invokevirtual 112, 3) := D69 23 rfl rfl rfl
theorem d69_42 : decode (am_mc 69) 42 = .ok (.astore_n 3, 1) := D69 24 rfl rfl rfl
theorem d69_43 : decode (am_mc 69) 43 = .ok (.aload_n 0, 1) := D69 25 rfl rfl rfl
theorem d69_44 : decode (am_mc 69) 44 = .ok (.getfield 26, 3) := D69 26 rfl rfl rfl
theorem d69_47 : decode (am_mc 69) 47 = .ok (.aload_n 0, 1) := D69 27 rfl rfl rfl
theorem d69_48 : decode (am_mc 69) 48 = .ok (.getfield 59, 3) := D69 28 rfl rfl rfl
theorem d69_51 : decode (am_mc 69) 51 = .ok (.iconst 1, 1) := D69 29 rfl rfl rfl
theorem d69_52 : decode (am_mc 69) 52 = .ok (.isub, 1) := D69 30 rfl rfl rfl
theorem d69_53 : decode (am_mc 69) 53 = .ok (.aaload, 1) := D69 31 rfl rfl rfl
theorem d69_54 : decode (am_mc 69) 54 = .ok (.iload_n 2, 1) := D69 32 rfl rfl rfl
theorem d69_55 : decode (am_mc 69) 55 = .ok (.aload_n 3, 1) := D69 33 rfl rfl rfl
theorem d69_56 : decode (am_mc 69) 56 = .ok (.aload_n 0, 1) := D69 34 rfl rfl rfl
theorem d69_57 : decode (am_mc 69) 57 = .ok (.invokevirtual 112, 3) := D69 35 rfl rfl rfl
theorem d69_60 : decode (am_mc 69) 60 = .ok (.invokevirtual 173, 3) := D69 36 rfl rfl rfl
theorem d69_63 : decode (am_mc 69) 63 = .ok (.iconst 1, 1) := D69 37 rfl rfl rfl
theorem d69_64 : decode (am_mc 69) 64 = .ok (.ireturn, 1) := D69 38 rfl rfl rfl
theorem ml69 : ∀ n, n < 4 → n < am_ml 69 := fun _ h => h
theorem mo69 : am_mo 69 = 4 := by decide +kernel
theorem mr69 : am_mr 69 = some .boolean := by decide +kernel
theorem rg69 : am_rcg 69 = 5 := by decide +kernel
theorem f4_26 : tb_f 4 26 = some (4, 2, 5, 22) := by decide +kernel
theorem m4_173 : tb_m 4 173 = some (68, 4, 0, 0) := by decide +kernel
theorem dp69_53 : am_md 53 + 1 ≤ am_md 69 ∧ 8 + (am_ml 53 + 11) + am_lr 53 ≤ am_lr 69 := by decide +kernel
theorem dp69_63 : am_md 63 + 1 ≤ am_md 69 ∧ 8 + (am_ml 63 + 11) + am_lr 63 ≤ am_lr 69 := by decide +kernel
theorem dp69_68 : am_md 68 + 1 ≤ am_md 69 ∧ 8 + (am_ml 68 + 11) + am_lr 68 ≤ am_lr 69 := by decide +kernel
def fn69 (o : Nat) (a : Nat) (μ : am_M) : Option (Int × am_M) := (am_op (fn53 o μ) (fun z1 => (am_op (fn63 a z1.1.toNat z1.2) (fun z2 => (if z2.1 = (-1) then some (0, z2.2) else (if z2.2 o 9 < ((am_len (am_ref o 2) : Nat) : Int) then (am_op (fn53 o (am_up z2.2 o 9 (w32 ((z2.2 o 9) + 1)))) (fun z3 => (if (0 : Int) ≤ w32 ((z3.2 o 9) - 1) ∧ w32 ((z3.2 o 9) - 1) < ((am_len (am_ref o 2) : Nat) : Int) then (am_op (fn53 o z3.2) (fun z4 => (am_op (fn68 (am_ref (am_ref o 2) (w32 ((z3.2 o 9) - 1) : Int).toNat) z2.1 z3.1.toNat z4.1.toNat z4.2) (fun z5 => some (1, z5.2))))) else none))) else some (0, z2.2)))))))
def sp69 : am_F := fun vs μ => am_aR 4 vs fun o vs => am_aR 2 vs fun a vs => am_a0 vs (fn69 o a μ)
theorem e69 (o : Nat) (a : Nat) (μ : am_M) : sp69 [.inr (.inr (4, o)), .inr (.inr (2, a))] μ = fn69 o a μ := am_aR_c.trans (am_aR_c.trans am_a0_c)
theorem sd69 : am_Sd 69 sp69 := by
  refine am_Sd_of (by decide) (fun vs μ μ' x h hv hM => ?_)
  obtain ⟨o, vs0, rfl, h0⟩ := am_aR_s h
  obtain ⟨a, vs1, rfl, h1⟩ := am_aR_s h0
  obtain ⟨rfl, hz⟩ := am_a0_s h1
  refine ⟨Nat.le_of_ble_eq_true rfl, fun X C hG hr => ?_⟩
  have h := hz
  unfold fn69 at h
  exact (show am_W X C 69 _ 0 0 0 [(0, .inr (.inr (4, o))), (1, .inr (.inr (2, a)))] [] μ from (am_c_aload_n hG (pc := 0) d69_0 rfl (am_c_aload_n hG (pc := 1) d69_1 rfl (x_virtual_r (t := 4) (o := o) (as2 := []) (rest := [.inr (.inr (2, a))]) hG (pc := 2) d69_2 mo69 m4_112 (by decide) dp69_53 rfl rfl (Nat.le_of_ble_eq_true rfl) (Nat.le_of_ble_eq_true rfl) rg53 sd53 (e53 _ _) h (fun z1 h => (x_virtual_i (t := 2) (o := a) (as2 := [.inr (.inr (3, z1.1.toNat))]) (rest := []) hG (pc := 5) d69_5 mo69 m4_128 (by decide) dp69_63 rfl rfl (Nat.le_of_ble_eq_true rfl) (Nat.le_of_ble_eq_true rfl) rg63 sd63 (e63 _ _ _) h (fun z2 h => (x_istore_n (lv' := [(2, .inl z2.1), (0, .inr (.inr (4, o))), (1, .inr (.inr (2, a)))]) hG (pc := 8) d69_8 (ml69 _ (by decide)) rfl (am_c_iload_n hG (pc := 9) d69_9 rfl (am_c_iconst hG (pc := 10) d69_10 (by decide) (x_icmp_eq (tgt := 26) hG (pc := 11) d69_11 rfl h (fun h => (am_c_iconst hG (pc := 26) d69_26 (by decide) (xq_zret0 hG (by decide) hr (pc := 27) d69_27 mr69 (am_q0 h)))) (fun h => (am_c_aload_n hG (pc := 14) d69_14 rfl (x_get_n (v := .inl (z2.2 o 9)) hG (pc := 15) d69_15 mo69 f4_59 rfl (am_c_aload_n hG (pc := 18) d69_18 rfl (x_get_n (v := .inr (.inr (22, am_ref o 2))) hG (pc := 19) d69_19 mo69 f4_26 rfl (am_c_len hG (pc := 22) d69_22 (by decide) (x_icmp_lt (tgt := 28) hG (pc := 23) d69_23 rfl h (fun h => (am_c_aload_n hG (pc := 28) d69_28 rfl (am_c_dup hG (pc := 29) d69_29 rfl (x_get_n (v := .inl (z2.2 o 9)) hG (pc := 30) d69_30 mo69 f4_59 rfl (am_c_iconst hG (pc := 33) d69_33 (by decide) (am_c_iadd hG (pc := 34) d69_34 (x_put_i hG (pc := 35) d69_35 mo69 f4_59 (by decide) (am_c_aload_n hG (pc := 38) d69_38 rfl (x_virtual_r (t := 4) (o := o) (as2 := []) (rest := []) hG (pc := 39) d69_39 mo69 m4_112 (by decide) dp69_53 rfl rfl (Nat.le_of_ble_eq_true rfl) (Nat.le_of_ble_eq_true rfl) rg53 sd53 (e53 _ _) h (fun z3 h => (x_astore_n (lv' := [(3, .inr (.inr (3, z3.1.toNat))), (2, .inl z2.1), (0, .inr (.inr (4, o))), (1, .inr (.inr (2, a)))]) hG (pc := 42) d69_42 (ml69 _ (by decide)) rfl (am_c_aload_n hG (pc := 43) d69_43 rfl (x_get_n (v := .inr (.inr (22, am_ref o 2))) hG (pc := 44) d69_44 mo69 f4_26 rfl (am_c_aload_n hG (pc := 47) d69_47 rfl (x_get_n (v := .inl (z3.2 o 9)) hG (pc := 48) d69_48 mo69 f4_59 rfl (am_c_iconst hG (pc := 51) d69_51 (by decide) (am_c_isub hG (pc := 52) d69_52 (x_aaload_C hG (pc := 53) d69_53 h (fun h => (am_c_iload_n hG (pc := 54) d69_54 rfl (am_c_aload_n hG (pc := 55) d69_55 rfl (am_c_aload_n hG (pc := 56) d69_56 rfl (x_virtual_r (t := 4) (o := o) (as2 := []) (rest := [.inr (.inr (3, z3.1.toNat)), .inl z2.1, .inr (.inr (5, am_ref (am_ref o 2) (w32 ((z3.2 o 9) - 1) : Int).toNat))]) hG (pc := 57) d69_57 mo69 m4_112 (by decide) dp69_53 rfl rfl (Nat.le_of_ble_eq_true rfl) (Nat.le_of_ble_eq_true rfl) rg53 sd53 (e53 _ _) h (fun z4 h => (x_virtual_v (t := 5) (o := am_ref (am_ref o 2) (w32 ((z3.2 o 9) - 1) : Int).toNat) (as2 := [.inl z2.1, .inr (.inr (3, z3.1.toNat)), .inr (.inr (3, z4.1.toNat))]) (rest := []) hG (pc := 60) d69_60 mo69 m4_173 (by decide) dp69_68 rfl rfl (Nat.le_of_ble_eq_true rfl) (Nat.le_of_ble_eq_true rfl) rg68 sd68 (e68 _ _ _ _ _) h (fun z5 h => (am_c_iconst hG (pc := 63) d69_63 (by decide) (xq_zret1 hG (by decide) hr (pc := 64) d69_64 mr69 (am_q0 h))))))))))))))))))))))))))))) (fun h => (am_c_iconst hG (pc := 26) d69_26 (by decide) (xq_zret0 hG (by decide) hr (pc := 27) d69_27 mr69 (am_q0 h))))))))))))))))))))))
/-! ChartPress$Request.readOrder()Z -/
theorem D70 (k : Nat) {pc : Nat} {i : Instr} (h : tbi70[k]? = some (pc, i)) (hs : am_isw i = false) {n : Nat} (hn : am_il i = n) : decode (am_mc 70) pc = .ok (i, n) := am_d2 (by decide) (by decide) rfl h hs hn
theorem d70_0 : decode (am_mc 70) 0 = .ok (.aload_n 0, 1) := D70 0 rfl rfl rfl
theorem d70_1 : decode (am_mc 70) 1 = .ok (.invokevirtual 112, 3) := D70 1 rfl rfl rfl
theorem d70_4 : decode (am_mc 70) 4 = .ok (.astore_n 1, 1) := D70 2 rfl rfl rfl
theorem d70_5 : decode (am_mc 70) 5 = .ok (.aload_n 0, 1) := D70 3 rfl rfl rfl
theorem d70_6 : decode (am_mc 70) 6 = .ok (.aload_n 1, 1) := D70 4 rfl rfl rfl
theorem d70_7 : decode (am_mc 70) 7 = .ok (.ldc 177, 2) := D70 5 rfl rfl rfl
theorem d70_9 : decode (am_mc 70) 9 = .ok (.invokevirtual 118, 3) := D70 6 rfl rfl rfl
theorem d70_12 : decode (am_mc 70) 12 = .ok (.ifCond .eq 7, 3) := D70 7 rfl rfl rfl
theorem d70_15 : decode (am_mc 70) 15 = .ok (.iconst 1, 1) := D70 8 rfl rfl rfl
theorem d70_16 : decode (am_mc 70) 16 = .ok (.goto 17, 3) := D70 9 rfl rfl rfl
theorem d70_19 : decode (am_mc 70) 19 = .ok (.aload_n 1, 1) := D70 10 rfl rfl rfl
theorem d70_20 : decode (am_mc 70) 20 = .ok (.ldc 179, 2) := D70 11 rfl rfl rfl
theorem d70_22 : decode (am_mc 70) 22 = .ok (.invokevirtual 118, 3) := D70 12 rfl rfl rfl
theorem d70_25 : decode (am_mc 70) 25 = .ok (.ifCond .eq 7, 3) := D70 13 rfl rfl rfl
theorem d70_28 : decode (am_mc 70) 28 = .ok (.iconst (-1), 1) := D70 14 rfl rfl rfl
theorem d70_29 : decode (am_mc 70) 29 = .ok (.goto 4, 3) := D70 15 rfl rfl rfl
theorem d70_32 : decode (am_mc 70) 32 = .ok (.iconst 0, 1) := D70 16 rfl rfl rfl
theorem d70_33 : decode (am_mc 70) 33 = .ok (.putfield 80, 3) := D70 17 rfl rfl rfl
theorem d70_36 : decode (am_mc 70) 36 = .ok (.aload_n 0, 1) := D70 18 rfl rfl rfl
theorem d70_37 : decode (am_mc 70) 37 = .ok (.getfield 80, 3) := D70 19 rfl rfl rfl
theorem d70_40 : decode (am_mc 70) 40 = .ok (.ifCond .eq 7, 3) := D70 20 rfl rfl rfl
theorem d70_43 : decode (am_mc 70) 43 = .ok (.iconst 1, 1) := D70 21 rfl rfl rfl
theorem d70_44 : decode (am_mc 70) 44 = .ok (.goto 4, 3) := D70 22 rfl rfl rfl
theorem d70_47 : decode (am_mc 70) 47 = .ok (.iconst 0, 1) := D70 23 rfl rfl rfl
theorem d70_48 : decode (am_mc 70) 48 = .ok (.ireturn, 1) := D70 24 rfl rfl rfl
theorem ml70 : ∀ n, n < 2 → n < am_ml 70 := fun _ h => h
theorem mo70 : am_mo 70 = 4 := by decide +kernel
theorem mr70 : am_mr 70 = some .boolean := by decide +kernel
theorem rg70 : am_rcg 70 = 5 := by decide +kernel
theorem dp70_53 : am_md 53 + 1 ≤ am_md 70 ∧ 8 + (am_ml 53 + 11) + am_lr 53 ≤ am_lr 70 := by decide +kernel
theorem dp70_60 : am_md 60 + 1 ≤ am_md 70 ∧ 8 + (am_ml 60 + 11) + am_lr 60 ≤ am_lr 70 := by decide +kernel
def fn70 (o : Nat) (μ : am_M) : Option (Int × am_M) := (am_op (fn53 o μ) (fun z1 => (am_op (fn60 z1.1.toNat 14 z1.2) (fun z2 => (if z2.1 = 0 then (am_op (fn60 z1.1.toNat 15 z2.2) (fun z3 => (if z3.1 = 0 then (if (am_up z3.2 o 10 0) o 10 = 0 then some (0, am_up z3.2 o 10 0) else some (1, am_up z3.2 o 10 0)) else (if (am_up z3.2 o 10 ((-1))) o 10 = 0 then some (0, am_up z3.2 o 10 ((-1))) else some (1, am_up z3.2 o 10 ((-1))))))) else (if (am_up z2.2 o 10 1) o 10 = 0 then some (0, am_up z2.2 o 10 1) else some (1, am_up z2.2 o 10 1)))))))
def sp70 : am_F := fun vs μ => am_aR 4 vs fun o vs => am_a0 vs (fn70 o μ)
theorem e70 (o : Nat) (μ : am_M) : sp70 [.inr (.inr (4, o))] μ = fn70 o μ := am_aR_c.trans am_a0_c
theorem sd70 : am_Sd 70 sp70 := by
  refine am_Sd_of (by decide) (fun vs μ μ' x h hv hM => ?_)
  obtain ⟨o, vs0, rfl, h0⟩ := am_aR_s h
  obtain ⟨rfl, hz⟩ := am_a0_s h0
  refine ⟨Nat.le_of_ble_eq_true rfl, fun X C hG hr => ?_⟩
  have h := hz
  unfold fn70 at h
  exact (show am_W X C 70 _ 0 0 0 [(0, .inr (.inr (4, o)))] [] μ from (am_c_aload_n hG (pc := 0) d70_0 rfl (x_virtual_r (t := 4) (o := o) (as2 := []) (rest := []) hG (pc := 1) d70_1 mo70 m4_112 (by decide) dp70_53 rfl rfl (Nat.le_of_ble_eq_true rfl) (Nat.le_of_ble_eq_true rfl) rg53 sd53 (e53 _ _) h (fun z1 h => (x_astore_n (lv' := [(1, .inr (.inr (3, z1.1.toNat))), (0, .inr (.inr (4, o)))]) hG (pc := 4) d70_4 (ml70 _ (by decide)) rfl (am_c_aload_n hG (pc := 5) d70_5 rfl (am_c_aload_n hG (pc := 6) d70_6 rfl (am_c_ldc hG (pc := 7) d70_7 (v := .inr (.inr (31, 14))) (by decide +kernel) (x_virtual_i (t := 3) (o := z1.1.toNat) (as2 := [.inr (.inr (31, 14))]) (rest := [.inr (.inr (4, o))]) hG (pc := 9) d70_9 mo70 m4_118 (by decide) dp70_60 rfl rfl (Nat.le_of_ble_eq_true rfl) (Nat.le_of_ble_eq_true rfl) rg60 sd60 (e60 _ _ _) h (fun z2 h => (x_if_eq (tgt := 19) hG (pc := 12) d70_12 rfl h (fun h => (am_c_aload_n hG (pc := 19) d70_19 rfl (am_c_ldc hG (pc := 20) d70_20 (v := .inr (.inr (31, 15))) (by decide +kernel) (x_virtual_i (t := 3) (o := z1.1.toNat) (as2 := [.inr (.inr (31, 15))]) (rest := [.inr (.inr (4, o))]) hG (pc := 22) d70_22 mo70 m4_118 (by decide) dp70_60 rfl rfl (Nat.le_of_ble_eq_true rfl) (Nat.le_of_ble_eq_true rfl) rg60 sd60 (e60 _ _ _) h (fun z3 h => (x_if_eq (tgt := 32) hG (pc := 25) d70_25 rfl h (fun h => (am_c_iconst hG (pc := 32) d70_32 (by decide) (x_put_i hG (pc := 33) d70_33 mo70 f4_80 (by decide) (am_c_aload_n hG (pc := 36) d70_36 rfl (x_get_n (v := .inl ((am_up z3.2 o 10 0) o 10)) hG (pc := 37) d70_37 mo70 f4_80 rfl (x_if_eq (tgt := 47) hG (pc := 40) d70_40 rfl h (fun h => (am_c_iconst hG (pc := 47) d70_47 (by decide) (xq_zret0 hG (by decide) hr (pc := 48) d70_48 mr70 (am_q0 h)))) (fun h => (am_c_iconst hG (pc := 43) d70_43 (by decide) (x_goto (tgt := 48) hG (pc := 44) d70_44 rfl (xq_zret1 hG (by decide) hr (pc := 48) d70_48 mr70 (am_q0 h))))))))))) (fun h => (am_c_iconst hG (pc := 28) d70_28 (by decide) (x_goto (tgt := 33) hG (pc := 29) d70_29 rfl (x_put_i hG (pc := 33) d70_33 mo70 f4_80 (by decide) (am_c_aload_n hG (pc := 36) d70_36 rfl (x_get_n (v := .inl ((am_up z3.2 o 10 ((-1))) o 10)) hG (pc := 37) d70_37 mo70 f4_80 rfl (x_if_eq (tgt := 47) hG (pc := 40) d70_40 rfl h (fun h => (am_c_iconst hG (pc := 47) d70_47 (by decide) (xq_zret0 hG (by decide) hr (pc := 48) d70_48 mr70 (am_q0 h)))) (fun h => (am_c_iconst hG (pc := 43) d70_43 (by decide) (x_goto (tgt := 48) hG (pc := 44) d70_44 rfl (xq_zret1 hG (by decide) hr (pc := 48) d70_48 mr70 (am_q0 h)))))))))))))))))) (fun h => (am_c_iconst hG (pc := 15) d70_15 (by decide) (x_goto (tgt := 33) hG (pc := 16) d70_16 rfl (x_put_i hG (pc := 33) d70_33 mo70 f4_80 (by decide) (am_c_aload_n hG (pc := 36) d70_36 rfl (x_get_n (v := .inl ((am_up z2.2 o 10 1) o 10)) hG (pc := 37) d70_37 mo70 f4_80 rfl (x_if_eq (tgt := 47) hG (pc := 40) d70_40 rfl h (fun h => (am_c_iconst hG (pc := 47) d70_47 (by decide) (xq_zret0 hG (by decide) hr (pc := 48) d70_48 mr70 (am_q0 h)))) (fun h => (am_c_iconst hG (pc := 43) d70_43 (by decide) (x_goto (tgt := 48) hG (pc := 44) d70_44 rfl (xq_zret1 hG (by decide) hr (pc := 48) d70_48 mr70 (am_q0 h)))))))))))))))))))))))
/-! ChartPress$Request.readStack(LChartPress$Table;)Z -/
theorem D71 (k : Nat) {pc : Nat} {i : Instr} (h : tbi71[k]? = some (pc, i)) (hs : am_isw i = false) {n : Nat} (hn : am_il i = n) : decode (am_mc 71) pc = .ok (i, n) := am_d2 (by decide) (by decide) rfl h hs hn
theorem d71_0 : decode (am_mc 71) 0 = .ok (.aload_n 0, 1) := D71 0 rfl rfl rfl
theorem d71_1 : decode (am_mc 71) 1 = .ok (.aload_n 1, 1) := D71 1 rfl rfl rfl
theorem d71_2 : decode (am_mc 71) 2 = .ok (.aload_n 0, 1) := D71 2 rfl rfl rfl
theorem d71_3 : decode (am_mc 71) 3 = .ok (.invokevirtual 112, 3) := D71 3 rfl rfl rfl
theorem d71_6 : decode (am_mc 71) 6 = .ok (.invokevirtual 128, 3) := D71 4 rfl rfl rfl
theorem d71_9 : decode (am_mc 71) 9 = .ok (.putfield 83, 3) := D71 5 rfl rfl rfl
theorem d71_12 : decode (am_mc 71) 12 = .ok (.aload_n 0, 1) := D71 6 rfl rfl rfl
theorem d71_13 : decode (am_mc 71) 13 = .ok (.getfield 83, 3) := D71 7 rfl rfl rfl
theorem d71_16 : decode (am_mc 71) 16 = .ok (.iconst (-1), 1) := D71 8 rfl rfl rfl
theorem d71_17 : decode (am_mc 71) 17 = .ok (.if_icmp .eq 7, 3) := D71 9 rfl rfl rfl
theorem d71_20 : decode (am_mc 71) 20 = .ok (.iconst 1, 1) := D71 10 rfl rfl rfl
theorem d71_21 : decode (am_mc 71) 21 = .ok (.goto 4, 3) := D71 11 rfl rfl rfl
theorem d71_24 : decode (am_mc 71) 24 = .ok (.iconst 0, 1) := D71 12 rfl rfl rfl
theorem d71_25 : decode (am_mc 71) 25 = .ok (.ireturn, 1) := D71 13 rfl rfl rfl
theorem ml71 : ∀ n, n < 2 → n < am_ml 71 := fun _ h => h
theorem mo71 : am_mo 71 = 4 := by decide +kernel
theorem mr71 : am_mr 71 = some .boolean := by decide +kernel
theorem rg71 : am_rcg 71 = 5 := by decide +kernel
theorem dp71_53 : am_md 53 + 1 ≤ am_md 71 ∧ 8 + (am_ml 53 + 11) + am_lr 53 ≤ am_lr 71 := by decide +kernel
theorem dp71_63 : am_md 63 + 1 ≤ am_md 71 ∧ 8 + (am_ml 63 + 11) + am_lr 63 ≤ am_lr 71 := by decide +kernel
def fn71 (o : Nat) (a : Nat) (μ : am_M) : Option (Int × am_M) := (am_op (fn53 o μ) (fun z1 => (am_op (fn63 a z1.1.toNat z1.2) (fun z2 => (if (am_up z2.2 o 11 z2.1) o 11 = (-1) then some (0, am_up z2.2 o 11 z2.1) else some (1, am_up z2.2 o 11 z2.1))))))
def sp71 : am_F := fun vs μ => am_aR 4 vs fun o vs => am_aR 2 vs fun a vs => am_a0 vs (fn71 o a μ)
theorem e71 (o : Nat) (a : Nat) (μ : am_M) : sp71 [.inr (.inr (4, o)), .inr (.inr (2, a))] μ = fn71 o a μ := am_aR_c.trans (am_aR_c.trans am_a0_c)
theorem sd71 : am_Sd 71 sp71 := by
  refine am_Sd_of (by decide) (fun vs μ μ' x h hv hM => ?_)
  obtain ⟨o, vs0, rfl, h0⟩ := am_aR_s h
  obtain ⟨a, vs1, rfl, h1⟩ := am_aR_s h0
  obtain ⟨rfl, hz⟩ := am_a0_s h1
  refine ⟨Nat.le_of_ble_eq_true rfl, fun X C hG hr => ?_⟩
  have h := hz
  unfold fn71 at h
  exact (show am_W X C 71 _ 0 0 0 [(0, .inr (.inr (4, o))), (1, .inr (.inr (2, a)))] [] μ from (am_c_aload_n hG (pc := 0) d71_0 rfl (am_c_aload_n hG (pc := 1) d71_1 rfl (am_c_aload_n hG (pc := 2) d71_2 rfl (x_virtual_r (t := 4) (o := o) (as2 := []) (rest := [.inr (.inr (2, a)), .inr (.inr (4, o))]) hG (pc := 3) d71_3 mo71 m4_112 (by decide) dp71_53 rfl rfl (Nat.le_of_ble_eq_true rfl) (Nat.le_of_ble_eq_true rfl) rg53 sd53 (e53 _ _) h (fun z1 h => (x_virtual_i (t := 2) (o := a) (as2 := [.inr (.inr (3, z1.1.toNat))]) (rest := [.inr (.inr (4, o))]) hG (pc := 6) d71_6 mo71 m4_128 (by decide) dp71_63 rfl rfl (Nat.le_of_ble_eq_true rfl) (Nat.le_of_ble_eq_true rfl) rg63 sd63 (e63 _ _ _) h (fun z2 h => (x_put_i hG (pc := 9) d71_9 mo71 f4_83 (by decide) (am_c_aload_n hG (pc := 12) d71_12 rfl (x_get_n (v := .inl ((am_up z2.2 o 11 z2.1) o 11)) hG (pc := 13) d71_13 mo71 f4_83 rfl (am_c_iconst hG (pc := 16) d71_16 (by decide) (x_icmp_eq (tgt := 24) hG (pc := 17) d71_17 rfl h (fun h => (am_c_iconst hG (pc := 24) d71_24 (by decide) (xq_zret0 hG (by decide) hr (pc := 25) d71_25 mr71 (am_q0 h)))) (fun h => (am_c_iconst hG (pc := 20) d71_20 (by decide) (x_goto (tgt := 25) hG (pc := 21) d71_21 rfl (xq_zret1 hG (by decide) hr (pc := 25) d71_25 mr71 (am_q0 h))))))))))))))))))
/-! ChartPress$Request.readTicks()Z -/
theorem D72 (k : Nat) {pc : Nat} {i : Instr} (h : tbi72[k]? = some (pc, i)) (hs : am_isw i = false) {n : Nat} (hn : am_il i = n) : decode (am_mc 72) pc = .ok (i, n) := am_d2 (by decide) (by decide) rfl h hs hn
theorem d72_0 : decode (am_mc 72) 0 = .ok (.aload_n 0, 1) := D72 0 rfl rfl rfl
theorem d72_1 : decode (am_mc 72) 1 = .ok (.invokevirtual 112, 3) := D72 1 rfl rfl rfl
theorem d72_4 : decode (am_mc 72) 4 = .ok (.astore_n 1, 1) := D72 2 rfl rfl rfl
theorem d72_5 : decode (am_mc 72) 5 = .ok (.aload_n 1, 1) := D72 3 rfl rfl rfl
theorem d72_6 : decode (am_mc 72) 6 = .ok (.invokevirtual 181, 3) := D72 4 rfl rfl rfl
theorem d72_9 : decode (am_mc 72) 9 = .ok (.iconst 1, 1) := D72 5 rfl rfl rfl
theorem d72_10 : decode (am_mc 72) 10 = .ok (.if_icmp .ne 27, 3) := D72 6 rfl rfl rfl
theorem d72_13 : decode (am_mc 72) 13 = .ok (.aload_n 1, 1) := D72 7 rfl rfl rfl
theorem d72_14 : decode (am_mc 72) 14 = .ok (.iconst 0, 1) := D72 8 rfl rfl rfl
theorem d72_15 : decode (am_mc 72) 15 = .ok (.invokevirtual 184, 3) := D72 9 rfl rfl rfl
theorem d72_18 : decode (am_mc 72) 18 = .ok (.bipush 51, 2) := D72 10 rfl rfl rfl
theorem d72_20 : decode (am_mc 72) 20 = .ok (.if_icmp .lt 17, 3) := D72 11 rfl rfl rfl
theorem d72_23 : decode (am_mc 72) 23 = .ok (.aload_n 1, 1) := D72 12 rfl rfl rfl
theorem d72_24 : decode (am_mc 72) 24 = .ok (.iconst 0, 1) := D72 13 rfl rfl rfl
theorem d72_25 : decode (am_mc 72) 25 = .ok (.invokevirtual 184, 3) := D72 14 rfl rfl rfl
theorem d72_28 : decode (am_mc 72) 28 = .ok (.bipush 57, 2) := D72 15 rfl rfl rfl
theorem d72_30 : decode (am_mc 72) 30 = .ok (.if_icmp .gt 7, 3) := D72 16 rfl rfl rfl
theorem d72_33 : decode (am_mc 72) 33 = .ok (.iconst 1, 1) := D72 17 rfl rfl rfl
theorem d72_34 : decode (am_mc 72) 34 = .ok (.goto 4, 3) := D72 18 rfl rfl rfl
theorem d72_37 : decode (am_mc 72) 37 = .ok (.iconst 0, 1) := D72 19 rfl rfl rfl
theorem d72_38 : decode (am_mc 72) 38 = .ok (.istore_n 2, 1) := D72 20 rfl rfl rfl
theorem d72_39 : decode (am_mc 72) 39 = .ok (.aload_n 0, 1) := D72 21 rfl rfl rfl
theorem d72_40 : decode (am_mc 72) 40 = .ok (.iload_n 2, 1) := D72 22 rfl rfl rfl
theorem d72_41 : decode (am_mc 72) 41 = .ok (.ifCond .eq 14, 3) := D72 23 rfl rfl rfl
theorem d72_44 : decode (am_mc 72) 44 = .ok (.aload_n 1, 1) := D72 24 rfl rfl rfl
theorem d72_45 : decode (am_mc 72) 45 = .ok (.iconst 0, 1) := D72 25 rfl rfl rfl
theorem d72_46 : decode (am_mc 72) 46 = .ok (.invokevirtual 184, 3) := D72 26 rfl rfl rfl
theorem d72_49 : decode (am_mc 72) 49 = .ok (.bipush 48, 2) := D72 27 rfl rfl rfl
theorem d72_51 : decode (am_mc 72) 51 = .ok (.isub, 1) := D72 28 rfl rfl rfl
theorem d72_52 : decode (am_mc 72) 52 = .ok (.goto 4, 3) := D72 29 rfl rfl rfl
theorem d72_55 : decode (am_mc 72) 55 = .ok (.iconst 0, 1) := D72 30 rfl rfl rfl
theorem d72_56 : decode (am_mc 72) 56 = .ok (.putfield 86, 3) := D72 31 rfl rfl rfl
theorem d72_59 : decode (am_mc 72) 59 = .ok (.iload_n 2, 1) := D72 32 rfl rfl rfl
theorem d72_60 : decode (am_mc 72) 60 = .ok (.ireturn, 1) := D72 33 rfl rfl rfl
theorem ml72 : ∀ n, n < 3 → n < am_ml 72 := fun _ h => h
theorem mo72 : am_mo 72 = 4 := by decide +kernel
theorem mr72 : am_mr 72 = some .boolean := by decide +kernel
theorem rg72 : am_rcg 72 = 5 := by decide +kernel
theorem m4_181 : tb_m 4 181 = some (21, 1, 1, 0) := by decide +kernel
theorem m4_184 : tb_m 4 184 = some (30, 2, 1, 0) := by decide +kernel
theorem dp72_21 : am_md 21 + 1 ≤ am_md 72 ∧ 8 + (am_ml 21 + 11) + am_lr 21 ≤ am_lr 72 := by decide +kernel
theorem dp72_30 : am_md 30 + 1 ≤ am_md 72 ∧ 8 + (am_ml 30 + 11) + am_lr 30 ≤ am_lr 72 := by decide +kernel
theorem dp72_53 : am_md 53 + 1 ≤ am_md 72 ∧ 8 + (am_ml 53 + 11) + am_lr 53 ≤ am_lr 72 := by decide +kernel
def fn72 (o : Nat) (μ : am_M) : Option (Int × am_M) := (am_op (fn53 o μ) (fun z1 => (am_op (fn21 z1.1.toNat z1.2) (fun z2 => (if z2.1 = 1 then (am_op (fn30 z1.1.toNat 0 z2.2) (fun z3 => (if z3.1 < 51 then some (0, am_up z3.2 o 12 0) else (am_op (fn30 z1.1.toNat 0 z3.2) (fun z4 => (if 57 < z4.1 then some (0, am_up z4.2 o 12 0) else (am_op (fn30 z1.1.toNat 0 z4.2) (fun z5 => some (1, am_up z5.2 o 12 (w32 (z5.1 - 48))))))))))) else some (0, am_up z2.2 o 12 0))))))
def sp72 : am_F := fun vs μ => am_aR 4 vs fun o vs => am_a0 vs (fn72 o μ)
theorem e72 (o : Nat) (μ : am_M) : sp72 [.inr (.inr (4, o))] μ = fn72 o μ := am_aR_c.trans am_a0_c
theorem sd72 : am_Sd 72 sp72 := by
  refine am_Sd_of (by decide) (fun vs μ μ' x h hv hM => ?_)
  obtain ⟨o, vs0, rfl, h0⟩ := am_aR_s h
  obtain ⟨rfl, hz⟩ := am_a0_s h0
  refine ⟨Nat.le_of_ble_eq_true rfl, fun X C hG hr => ?_⟩
  have h := hz
  unfold fn72 at h
  exact (show am_W X C 72 _ 0 0 0 [(0, .inr (.inr (4, o)))] [] μ from (am_c_aload_n hG (pc := 0) d72_0 rfl (x_virtual_r (t := 4) (o := o) (as2 := []) (rest := []) hG (pc := 1) d72_1 mo72 m4_112 (by decide) dp72_53 rfl rfl (Nat.le_of_ble_eq_true rfl) (Nat.le_of_ble_eq_true rfl) rg53 sd53 (e53 _ _) h (fun z1 h => (x_astore_n (lv' := [(1, .inr (.inr (3, z1.1.toNat))), (0, .inr (.inr (4, o)))]) hG (pc := 4) d72_4 (ml72 _ (by decide)) rfl (am_c_aload_n hG (pc := 5) d72_5 rfl (x_virtual_i (t := 3) (o := z1.1.toNat) (as2 := []) (rest := []) hG (pc := 6) d72_6 mo72 m4_181 (by decide) dp72_21 rfl rfl (Nat.le_of_ble_eq_true rfl) (Nat.le_of_ble_eq_true rfl) rg21 sd21 (e21 _ _) h (fun z2 h => (am_c_iconst hG (pc := 9) d72_9 (by decide) (x_icmp_ne (tgt := 37) hG (pc := 10) d72_10 rfl h (fun h => (am_c_iconst hG (pc := 37) d72_37 (by decide) (x_istore_n (lv' := [(2, .inl 0), (1, .inr (.inr (3, z1.1.toNat))), (0, .inr (.inr (4, o)))]) hG (pc := 38) d72_38 (ml72 _ (by decide)) rfl (am_c_aload_n hG (pc := 39) d72_39 rfl (am_c_iload_n hG (pc := 40) d72_40 rfl (y_if_eq (tgt := 55) hG (pc := 41) d72_41 rfl (by decide) (am_c_iconst hG (pc := 55) d72_55 (by decide) (x_put_i hG (pc := 56) d72_56 mo72 f4_86 (by decide) (am_c_iload_n hG (pc := 59) d72_59 rfl (xq_zret0 hG (by decide) hr (pc := 60) d72_60 mr72 (am_q0 h))))))))))) (fun h => (am_c_aload_n hG (pc := 13) d72_13 rfl (am_c_iconst hG (pc := 14) d72_14 (by decide) (x_virtual_i (t := 3) (o := z1.1.toNat) (as2 := [.inl 0]) (rest := []) hG (pc := 15) d72_15 mo72 m4_184 (by decide) dp72_30 rfl rfl (Nat.le_of_ble_eq_true rfl) (Nat.le_of_ble_eq_true rfl) rg30 sd30 (e30 _ _ _) h (fun z3 h => (am_c_bipush hG (pc := 18) d72_18 (by decide) (x_icmp_lt (tgt := 37) hG (pc := 20) d72_20 rfl h (fun h => (am_c_iconst hG (pc := 37) d72_37 (by decide) (x_istore_n (lv' := [(2, .inl 0), (1, .inr (.inr (3, z1.1.toNat))), (0, .inr (.inr (4, o)))]) hG (pc := 38) d72_38 (ml72 _ (by decide)) rfl (am_c_aload_n hG (pc := 39) d72_39 rfl (am_c_iload_n hG (pc := 40) d72_40 rfl (y_if_eq (tgt := 55) hG (pc := 41) d72_41 rfl (by decide) (am_c_iconst hG (pc := 55) d72_55 (by decide) (x_put_i hG (pc := 56) d72_56 mo72 f4_86 (by decide) (am_c_iload_n hG (pc := 59) d72_59 rfl (xq_zret0 hG (by decide) hr (pc := 60) d72_60 mr72 (am_q0 h))))))))))) (fun h => (am_c_aload_n hG (pc := 23) d72_23 rfl (am_c_iconst hG (pc := 24) d72_24 (by decide) (x_virtual_i (t := 3) (o := z1.1.toNat) (as2 := [.inl 0]) (rest := []) hG (pc := 25) d72_25 mo72 m4_184 (by decide) dp72_30 rfl rfl (Nat.le_of_ble_eq_true rfl) (Nat.le_of_ble_eq_true rfl) rg30 sd30 (e30 _ _ _) h (fun z4 h => (am_c_bipush hG (pc := 28) d72_28 (by decide) (x_icmp_gt (tgt := 37) hG (pc := 30) d72_30 rfl h (fun h => (am_c_iconst hG (pc := 37) d72_37 (by decide) (x_istore_n (lv' := [(2, .inl 0), (1, .inr (.inr (3, z1.1.toNat))), (0, .inr (.inr (4, o)))]) hG (pc := 38) d72_38 (ml72 _ (by decide)) rfl (am_c_aload_n hG (pc := 39) d72_39 rfl (am_c_iload_n hG (pc := 40) d72_40 rfl (y_if_eq (tgt := 55) hG (pc := 41) d72_41 rfl (by decide) (am_c_iconst hG (pc := 55) d72_55 (by decide) (x_put_i hG (pc := 56) d72_56 mo72 f4_86 (by decide) (am_c_iload_n hG (pc := 59) d72_59 rfl (xq_zret0 hG (by decide) hr (pc := 60) d72_60 mr72 (am_q0 h))))))))))) (fun h => (am_c_iconst hG (pc := 33) d72_33 (by decide) (x_goto (tgt := 38) hG (pc := 34) d72_34 rfl (x_istore_n (lv' := [(2, .inl 1), (1, .inr (.inr (3, z1.1.toNat))), (0, .inr (.inr (4, o)))]) hG (pc := 38) d72_38 (ml72 _ (by decide)) rfl (am_c_aload_n hG (pc := 39) d72_39 rfl (am_c_iload_n hG (pc := 40) d72_40 rfl (n_if_eq (tgt := 55) hG (pc := 41) d72_41 rfl (by decide) (am_c_aload_n hG (pc := 44) d72_44 rfl (am_c_iconst hG (pc := 45) d72_45 (by decide) (x_virtual_i (t := 3) (o := z1.1.toNat) (as2 := [.inl 0]) (rest := [.inr (.inr (4, o))]) hG (pc := 46) d72_46 mo72 m4_184 (by decide) dp72_30 rfl rfl (Nat.le_of_ble_eq_true rfl) (Nat.le_of_ble_eq_true rfl) rg30 sd30 (e30 _ _ _) h (fun z5 h => (am_c_bipush hG (pc := 49) d72_49 (by decide) (am_c_isub hG (pc := 51) d72_51 (x_goto (tgt := 56) hG (pc := 52) d72_52 rfl (x_put_i hG (pc := 56) d72_56 mo72 f4_86 (by decide) (am_c_iload_n hG (pc := 59) d72_59 rfl (xq_zret1 hG (by decide) hr (pc := 60) d72_60 mr72 (am_q0 h))))))))))))))))))))))))))))))))))))))))))
/-! ChartPress$Request.readClause(LChartPress$Table;)Z -/
theorem D73 (k : Nat) {pc : Nat} {i : Instr} (h : tbi73[k]? = some (pc, i)) (hs : am_isw i = false) {n : Nat} (hn : am_il i = n) : decode (am_mc 73) pc = .ok (i, n) := am_d2 (by decide) (by decide) rfl h hs hn
theorem d73_0 : decode (am_mc 73) 0 = .ok (.aload_n 0, 1) := D73 0 rfl rfl rfl
theorem d73_1 : decode (am_mc 73) 1 = .ok (.invokevirtual 112, 3) := D73 1 rfl rfl rfl
theorem d73_4 : decode (am_mc 73) 4 = .ok (.astore_n 2, 1) := D73 2 rfl rfl rfl
theorem d73_5 : decode (am_mc 73) 5 = .ok (.aload_n 2, 1) := D73 3 rfl rfl rfl
theorem d73_6 : decode (am_mc 73) 6 = .ok (.ldc 153, 2) := D73 4 rfl rfl rfl
theorem d73_8 : decode (am_mc 73) 8 = .ok (.invokevirtual 118, 3) := D73 5 rfl rfl rfl
theorem d73_11 : decode (am_mc 73) 11 = .ok (.ifCond .eq 9, 3) := D73 6 rfl rfl rfl
theorem d73_14 : decode (am_mc 73) 14 = .ok (.aload_n 0, 1) := D73 7 rfl rfl rfl
theorem d73_15 : decode (am_mc 73) 15 = .ok (.aload_n 1, 1) := D73 8 rfl rfl rfl
theorem d73_16 : decode (am_mc 73) 16 = .ok (.invokevirtual 155, 3) := D73 9 rfl rfl rfl
theorem d73_19 : decode (am_mc 73) 19 = .ok (.ireturn, 1) := D73 10 rfl rfl rfl
theorem d73_20 : decode (am_mc 73) 20 = .ok (.aload_n 2, 1) := D73 11 rfl rfl rfl
theorem d73_21 : decode (am_mc 73) 21 = .ok (.ldc 158, 2) := D73 12 rfl rfl rfl
theorem d73_23 : decode (am_mc 73) 23 = .ok (.invokevirtual 118, 3) := D73 13 rfl rfl rfl
theorem d73_26 : decode (am_mc 73) 26 = .ok (.ifCond .eq 23, 3) := D73 14 rfl rfl rfl
theorem d73_29 : decode (am_mc 73) 29 = .ok (.aload_n 0, 1) := D73 15 rfl rfl rfl
theorem d73_30 : decode (am_mc 73) 30 = .ok (.getfield 80, 3) := D73 16 rfl rfl rfl
theorem d73_33 : decode (am_mc 73) 33 = .ok (.ifCond .ne 14, 3) := D73 17 rfl rfl rfl
theorem d73_36 : decode (am_mc 73) 36 = .ok (.aload_n 0, 1) := D73 18 rfl rfl rfl
theorem d73_37 : decode (am_mc 73) 37 = .ok (.invokevirtual 160, 3) := D73 19 rfl rfl rfl
theorem d73_40 : decode (am_mc 73) 40 = .ok (.ifCond .eq 7, 3) := D73 20 rfl rfl rfl
theorem d73_43 : decode (am_mc 73) 43 = .ok (.iconst 1, 1) := D73 21 rfl rfl rfl
theorem d73_44 : decode (am_mc 73) 44 = .ok (.goto 4, 3) := D73 22 rfl rfl rfl
theorem d73_47 : decode (am_mc 73) 47 = .ok (.iconst 0, 1) := D73 23 rfl rfl rfl
theorem d73_48 : decode (am_mc 73) 48 = .ok (.ireturn, 1) := D73 24 rfl rfl rfl
theorem d73_49 : decode (am_mc 73) 49 = .ok (.aload_n 2, 1) := D73 25 rfl rfl rfl
theorem d73_50 : decode (am_mc 73) 50 = .ok (.ldc 163, 2) := D73 26 rfl rfl rfl
theorem d73_52 : decode (am_mc 73) 52 = .ok (.invokevirtual 118, 3) := D73 27 rfl rfl rfl
theorem d73_55 : decode (am_mc 73) 55 = .ok (.ifCond .eq 25, 3) := D73 28 rfl rfl rfl
theorem d73_58 : decode (am_mc 73) 58 = .ok (.aload_n 0, 1) := D73 29 rfl rfl rfl
theorem d73_59 : decode (am_mc 73) 59 = .ok (.getfield 83, 3) := D73 30 rfl rfl rfl
theorem d73_62 : decode (am_mc 73) 62 = .ok (.iconst (-1), 1) := D73 31 rfl rfl rfl
theorem d73_63 : decode (am_mc 73) 63 = .ok (.if_icmp .ne 15, 3) := D73 32 rfl rfl rfl
theorem d73_66 : decode (am_mc 73) 66 = .ok (.aload_n 0, 1) := D73 33 rfl rfl rfl
theorem d73_67 : decode (am_mc 73) 67 = .ok (.aload_n 1, 1) := D73 34 rfl rfl rfl
theorem d73_68 : decode (am_mc 73) 68 = .ok (.invokevirtual 165, 3) := D73 35 rfl rfl rfl
theorem d73_71 : decode (am_mc 73) 71 = .ok (.ifCond .eq 7, 3) := D73 36 rfl rfl rfl
theorem d73_74 : decode (am_mc 73) 74 = .ok (.iconst 1, 1) := D73 37 rfl rfl rfl
theorem d73_75 : decode (am_mc 73) 75 = .ok (.goto 4, 3) := D73 38 rfl rfl rfl
theorem d73_78 : decode (am_mc 73) 78 = .ok (.iconst 0, 1) := D73 39 rfl rfl rfl
theorem d73_79 : decode (am_mc 73) 79 = .ok (.ireturn, 1) := D73 40 rfl rfl rfl
theorem d73_80 : decode (am_mc 73) 80 = .ok (.aload_n 2, 1) := D73 41 rfl rfl rfl
theorem d73_81 : decode (am_mc 73) 81 = .ok (.ldc 168, 2) := D73 42 rfl rfl rfl
theorem d73_83 : decode (am_mc 73) 83 = .ok (.invokevirtual 118, 3) := D73 43 rfl rfl rfl
theorem d73_86 : decode (am_mc 73) 86 = .ok (.ifCond .eq 21, 3) := D73 44 rfl rfl rfl
theorem d73_89 : decode (am_mc 73) 89 = .ok (.aload_n 0, 1) := D73 45 rfl rfl rfl
theorem d73_90 : decode (am_mc 73) 90 = .ok (.getfield 86, 3) := D73 46 rfl rfl rfl
theorem d73_93 : decode (am_mc 73) 93 = .ok (.ifCond .ne 14, 3) := D73 47 rfl rfl rfl
theorem d73_96 : decode (am_mc 73) 96 = .ok (.aload_n 0, 1) := D73 48 rfl rfl rfl
theorem d73_97 : decode (am_mc 73) 97 = .ok (.invokevirtual 170, 3) := D73 49 rfl rfl rfl
theorem d73_100 : decode (am_mc 73) 100 = .ok (.ifCond .eq 7, 3) := D73 50 rfl rfl rfl
theorem d73_103 : decode (am_mc 73) 103 = .ok (.iconst 1, 1) := D73 51 rfl rfl rfl
theorem d73_104 : decode (am_mc 73) 104 = .ok (.goto 4, 3) := D73 52 rfl rfl rfl
theorem d73_107 : decode (am_mc 73) 107 = .ok (.iconst 0, 1) := D73 53 rfl rfl rfl
theorem d73_108 : decode (am_mc 73) 108 = .ok (.ireturn, 1) := D73 54 rfl rfl rfl
theorem ml73 : ∀ n, n < 3 → n < am_ml 73 := fun _ h => h
theorem mo73 : am_mo 73 = 4 := by decide +kernel
theorem mr73 : am_mr 73 = some .boolean := by decide +kernel
theorem rg73 : am_rcg 73 = 5 := by decide +kernel
theorem m4_155 : tb_m 4 155 = some (69, 2, 1, 0) := by decide +kernel
theorem m4_160 : tb_m 4 160 = some (70, 1, 1, 0) := by decide +kernel
theorem m4_165 : tb_m 4 165 = some (71, 2, 1, 0) := by decide +kernel
theorem m4_170 : tb_m 4 170 = some (72, 1, 1, 0) := by decide +kernel
theorem dp73_53 : am_md 53 + 1 ≤ am_md 73 ∧ 8 + (am_ml 53 + 11) + am_lr 53 ≤ am_lr 73 := by decide +kernel
theorem dp73_60 : am_md 60 + 1 ≤ am_md 73 ∧ 8 + (am_ml 60 + 11) + am_lr 60 ≤ am_lr 73 := by decide +kernel
theorem dp73_69 : am_md 69 + 1 ≤ am_md 73 ∧ 8 + (am_ml 69 + 11) + am_lr 69 ≤ am_lr 73 := by decide +kernel
theorem dp73_70 : am_md 70 + 1 ≤ am_md 73 ∧ 8 + (am_ml 70 + 11) + am_lr 70 ≤ am_lr 73 := by decide +kernel
theorem dp73_71 : am_md 71 + 1 ≤ am_md 73 ∧ 8 + (am_ml 71 + 11) + am_lr 71 ≤ am_lr 73 := by decide +kernel
theorem dp73_72 : am_md 72 + 1 ≤ am_md 73 ∧ 8 + (am_ml 72 + 11) + am_lr 72 ≤ am_lr 73 := by decide +kernel
def fn73 (o : Nat) (a : Nat) (μ : am_M) : Option (Int × am_M) := (am_op (fn53 o μ) (fun z1 => (am_op (fn60 z1.1.toNat 12 z1.2) (fun z2 => (if z2.1 = 0 then (am_op (fn60 z1.1.toNat 13 z2.2) (fun z3 => (if z3.1 = 0 then (am_op (fn60 z1.1.toNat 16 z3.2) (fun z4 => (if z4.1 = 0 then (am_op (fn60 z1.1.toNat 17 z4.2) (fun z5 => (if z5.1 = 0 then some (0, z5.2) else (if z5.2 o 12 = 0 then (am_op (fn72 o z5.2) (fun z6 => (if z6.1 = 0 then some (0, z6.2) else some (1, z6.2)))) else some (0, z5.2))))) else (if z4.2 o 11 = (-1) then (am_op (fn71 o a z4.2) (fun z7 => (if z7.1 = 0 then some (0, z7.2) else some (1, z7.2)))) else some (0, z4.2))))) else (if z3.2 o 10 = 0 then (am_op (fn70 o z3.2) (fun z8 => (if z8.1 = 0 then some (0, z8.2) else some (1, z8.2)))) else some (0, z3.2))))) else (am_op (fn69 o a z2.2) (fun z9 => (if z9.1 = 0 ∨ z9.1 = 1 then some (z9.1, z9.2) else none))))))))
def sp73 : am_F := fun vs μ => am_aR 4 vs fun o vs => am_aR 2 vs fun a vs => am_a0 vs (fn73 o a μ)
theorem e73 (o : Nat) (a : Nat) (μ : am_M) : sp73 [.inr (.inr (4, o)), .inr (.inr (2, a))] μ = fn73 o a μ := am_aR_c.trans (am_aR_c.trans am_a0_c)
theorem sd73 : am_Sd 73 sp73 := by
  refine am_Sd_of (by decide) (fun vs μ μ' x h hv hM => ?_)
  obtain ⟨o, vs0, rfl, h0⟩ := am_aR_s h
  obtain ⟨a, vs1, rfl, h1⟩ := am_aR_s h0
  obtain ⟨rfl, hz⟩ := am_a0_s h1
  refine ⟨Nat.le_of_ble_eq_true rfl, fun X C hG hr => ?_⟩
  have h := hz
  unfold fn73 at h
  exact (show am_W X C 73 _ 0 0 0 [(0, .inr (.inr (4, o))), (1, .inr (.inr (2, a)))] [] μ from (am_c_aload_n hG (pc := 0) d73_0 rfl (x_virtual_r (t := 4) (o := o) (as2 := []) (rest := []) hG (pc := 1) d73_1 mo73 m4_112 (by decide) dp73_53 rfl rfl (Nat.le_of_ble_eq_true rfl) (Nat.le_of_ble_eq_true rfl) rg53 sd53 (e53 _ _) h (fun z1 h => (x_astore_n (lv' := [(2, .inr (.inr (3, z1.1.toNat))), (0, .inr (.inr (4, o))), (1, .inr (.inr (2, a)))]) hG (pc := 4) d73_4 (ml73 _ (by decide)) rfl (am_c_aload_n hG (pc := 5) d73_5 rfl (am_c_ldc hG (pc := 6) d73_6 (v := .inr (.inr (31, 12))) (by decide +kernel) (x_virtual_i (t := 3) (o := z1.1.toNat) (as2 := [.inr (.inr (31, 12))]) (rest := []) hG (pc := 8) d73_8 mo73 m4_118 (by decide) dp73_60 rfl rfl (Nat.le_of_ble_eq_true rfl) (Nat.le_of_ble_eq_true rfl) rg60 sd60 (e60 _ _ _) h (fun z2 h => (x_if_eq (tgt := 20) hG (pc := 11) d73_11 rfl h (fun h => (am_c_aload_n hG (pc := 20) d73_20 rfl (am_c_ldc hG (pc := 21) d73_21 (v := .inr (.inr (31, 13))) (by decide +kernel) (x_virtual_i (t := 3) (o := z1.1.toNat) (as2 := [.inr (.inr (31, 13))]) (rest := []) hG (pc := 23) d73_23 mo73 m4_118 (by decide) dp73_60 rfl rfl (Nat.le_of_ble_eq_true rfl) (Nat.le_of_ble_eq_true rfl) rg60 sd60 (e60 _ _ _) h (fun z3 h => (x_if_eq (tgt := 49) hG (pc := 26) d73_26 rfl h (fun h => (am_c_aload_n hG (pc := 49) d73_49 rfl (am_c_ldc hG (pc := 50) d73_50 (v := .inr (.inr (31, 16))) (by decide +kernel) (x_virtual_i (t := 3) (o := z1.1.toNat) (as2 := [.inr (.inr (31, 16))]) (rest := []) hG (pc := 52) d73_52 mo73 m4_118 (by decide) dp73_60 rfl rfl (Nat.le_of_ble_eq_true rfl) (Nat.le_of_ble_eq_true rfl) rg60 sd60 (e60 _ _ _) h (fun z4 h => (x_if_eq (tgt := 80) hG (pc := 55) d73_55 rfl h (fun h => (am_c_aload_n hG (pc := 80) d73_80 rfl (am_c_ldc hG (pc := 81) d73_81 (v := .inr (.inr (31, 17))) (by decide +kernel) (x_virtual_i (t := 3) (o := z1.1.toNat) (as2 := [.inr (.inr (31, 17))]) (rest := []) hG (pc := 83) d73_83 mo73 m4_118 (by decide) dp73_60 rfl rfl (Nat.le_of_ble_eq_true rfl) (Nat.le_of_ble_eq_true rfl) rg60 sd60 (e60 _ _ _) h (fun z5 h => (x_if_eq (tgt := 107) hG (pc := 86) d73_86 rfl h (fun h => (am_c_iconst hG (pc := 107) d73_107 (by decide) (xq_zret0 hG (by decide) hr (pc := 108) d73_108 mr73 (am_q0 h)))) (fun h => (am_c_aload_n hG (pc := 89) d73_89 rfl (x_get_n (v := .inl (z5.2 o 12)) hG (pc := 90) d73_90 mo73 f4_86 rfl (x_if_ne (tgt := 107) hG (pc := 93) d73_93 rfl h (fun h => (am_c_iconst hG (pc := 107) d73_107 (by decide) (xq_zret0 hG (by decide) hr (pc := 108) d73_108 mr73 (am_q0 h)))) (fun h => (am_c_aload_n hG (pc := 96) d73_96 rfl (x_virtual_i (t := 4) (o := o) (as2 := []) (rest := []) hG (pc := 97) d73_97 mo73 m4_170 (by decide) dp73_72 rfl rfl (Nat.le_of_ble_eq_true rfl) (Nat.le_of_ble_eq_true rfl) rg72 sd72 (e72 _ _) h (fun z6 h => (x_if_eq (tgt := 107) hG (pc := 100) d73_100 rfl h (fun h => (am_c_iconst hG (pc := 107) d73_107 (by decide) (xq_zret0 hG (by decide) hr (pc := 108) d73_108 mr73 (am_q0 h)))) (fun h => (am_c_iconst hG (pc := 103) d73_103 (by decide) (x_goto (tgt := 108) hG (pc := 104) d73_104 rfl (xq_zret1 hG (by decide) hr (pc := 108) d73_108 mr73 (am_q0 h)))))))))))))))))))) (fun h => (am_c_aload_n hG (pc := 58) d73_58 rfl (x_get_n (v := .inl (z4.2 o 11)) hG (pc := 59) d73_59 mo73 f4_83 rfl (am_c_iconst hG (pc := 62) d73_62 (by decide) (x_icmp_ne (tgt := 78) hG (pc := 63) d73_63 rfl h (fun h => (am_c_iconst hG (pc := 78) d73_78 (by decide) (xq_zret0 hG (by decide) hr (pc := 79) d73_79 mr73 (am_q0 h)))) (fun h => (am_c_aload_n hG (pc := 66) d73_66 rfl (am_c_aload_n hG (pc := 67) d73_67 rfl (x_virtual_i (t := 4) (o := o) (as2 := [.inr (.inr (2, a))]) (rest := []) hG (pc := 68) d73_68 mo73 m4_165 (by decide) dp73_71 rfl rfl (Nat.le_of_ble_eq_true rfl) (Nat.le_of_ble_eq_true rfl) rg71 sd71 (e71 _ _ _) h (fun z7 h => (x_if_eq (tgt := 78) hG (pc := 71) d73_71 rfl h (fun h => (am_c_iconst hG (pc := 78) d73_78 (by decide) (xq_zret0 hG (by decide) hr (pc := 79) d73_79 mr73 (am_q0 h)))) (fun h => (am_c_iconst hG (pc := 74) d73_74 (by decide) (x_goto (tgt := 79) hG (pc := 75) d73_75 rfl (xq_zret1 hG (by decide) hr (pc := 79) d73_79 mr73 (am_q0 h)))))))))))))))))))))) (fun h => (am_c_aload_n hG (pc := 29) d73_29 rfl (x_get_n (v := .inl (z3.2 o 10)) hG (pc := 30) d73_30 mo73 f4_80 rfl (x_if_ne (tgt := 47) hG (pc := 33) d73_33 rfl h (fun h => (am_c_iconst hG (pc := 47) d73_47 (by decide) (xq_zret0 hG (by decide) hr (pc := 48) d73_48 mr73 (am_q0 h)))) (fun h => (am_c_aload_n hG (pc := 36) d73_36 rfl (x_virtual_i (t := 4) (o := o) (as2 := []) (rest := []) hG (pc := 37) d73_37 mo73 m4_160 (by decide) dp73_70 rfl rfl (Nat.le_of_ble_eq_true rfl) (Nat.le_of_ble_eq_true rfl) rg70 sd70 (e70 _ _) h (fun z8 h => (x_if_eq (tgt := 47) hG (pc := 40) d73_40 rfl h (fun h => (am_c_iconst hG (pc := 47) d73_47 (by decide) (xq_zret0 hG (by decide) hr (pc := 48) d73_48 mr73 (am_q0 h)))) (fun h => (am_c_iconst hG (pc := 43) d73_43 (by decide) (x_goto (tgt := 48) hG (pc := 44) d73_44 rfl (xq_zret1 hG (by decide) hr (pc := 48) d73_48 mr73 (am_q0 h)))))))))))))))))))) (fun h => (am_c_aload_n hG (pc := 14) d73_14 rfl (am_c_aload_n hG (pc := 15) d73_15 rfl (x_virtual_i (t := 4) (o := o) (as2 := [.inr (.inr (2, a))]) (rest := []) hG (pc := 16) d73_16 mo73 m4_155 (by decide) dp73_69 rfl rfl (Nat.le_of_ble_eq_true rfl) (Nat.le_of_ble_eq_true rfl) rg69 sd69 (e69 _ _ _) h (fun z9 h => (xq_zret hG (by decide) hr (pc := 19) d73_19 mr73 h (fun h => (am_q0 h))))))))))))))))))
/-! ChartPress$Condition.isFitting()Z -/
theorem D74 (k : Nat) {pc : Nat} {i : Instr} (h : tbi74[k]? = some (pc, i)) (hs : am_isw i = false) {n : Nat} (hn : am_il i = n) : decode (am_mc 74) pc = .ok (i, n) := am_d2 (by decide) (by decide) rfl h hs hn
theorem d74_0 : decode (am_mc 74) 0 = .ok (.aload_n 0, 1) := D74 0 rfl rfl rfl
theorem d74_1 : decode (am_mc 74) 1 = .ok (.getfield 14, 3) := D74 1 rfl rfl rfl
theorem d74_4 : decode (am_mc 74) 4 = .ok (.ldc 52, 2) := D74 2 rfl rfl rfl
theorem d74_6 : decode (am_mc 74) 6 = .ok (.invokevirtual 54, 3) := D74 3 rfl rfl rfl
theorem d74_9 : decode (am_mc 74) 9 = .ok (.istore_n 1, 1) := D74 4 rfl rfl rfl
theorem d74_10 : decode (am_mc 74) 10 = .ok (.iload_n 1, 1) := D74 5 rfl rfl rfl
theorem d74_11 : decode (am_mc 74) 11 = .ok (.ifCond .ne 29, 3) := D74 6 rfl rfl rfl
theorem d74_14 : decode (am_mc 74) 14 = .ok (.aload_n 0, 1) := D74 7 rfl rfl rfl
theorem d74_15 : decode (am_mc 74) 15 = .ok (.getfield 14, 3) := D74 8 rfl rfl rfl
theorem d74_18 : decode (am_mc 74) 18 = .ok (.ldc 58, 2) := D74 9 rfl rfl rfl
theorem d74_20 : decode (am_mc 74) 20 = .ok (.invokevirtual 54, 3) := D74 10 rfl rfl rfl
theorem d74_23 : decode (am_mc 74) 23 = .ok (.ifCond .ne 17, 3) := D74 11 rfl rfl rfl
theorem d74_26 : decode (am_mc 74) 26 = .ok (.aload_n 0, 1) := D74 12 rfl rfl rfl
theorem d74_27 : decode (am_mc 74) 27 = .ok (.getfield 14, 3) := D74 13 rfl rfl rfl
theorem d74_30 : decode (am_mc 74) 30 = .ok (.ldc 60, 2) := D74 14 rfl rfl rfl
theorem d74_32 : decode (am_mc 74) 32 = .ok (.invokevirtual 54, 3) := D74 15 rfl rfl rfl
theorem d74_35 : decode (am_mc 74) 35 = .ok (.ifCond .ne 5, 3) := D74 16 rfl rfl rfl
theorem d74_38 : decode (am_mc 74) 38 = .ok (.iconst 0, 1) := D74 17 rfl rfl rfl
theorem d74_39 : decode (am_mc 74) 39 = .ok (.ireturn, 1) := D74 18 rfl rfl rfl
theorem d74_40 : decode (am_mc 74) 40 = .ok (.aload_n 0, 1) := D74 19 rfl rfl rfl
theorem d74_41 : decode (am_mc 74) 41 = .ok (.getfield 37, 3) := D74 20 rfl rfl rfl
theorem d74_44 : decode (am_mc 74) 44 = .ok (.iconst 1, 1) := D74 21 rfl rfl rfl
theorem d74_45 : decode (am_mc 74) 45 = .ok (.if_icmp .ne 11, 3) := D74 22 rfl rfl rfl
theorem d74_48 : decode (am_mc 74) 48 = .ok (.aload_n 0, 1) := D74 23 rfl rfl rfl
theorem d74_49 : decode (am_mc 74) 49 = .ok (.getfield 20, 3) := D74 24 rfl rfl rfl
theorem d74_52 : decode (am_mc 74) 52 = .ok (.invokevirtual 62, 3) := D74 25 rfl rfl rfl
theorem d74_55 : decode (am_mc 74) 55 = .ok (.ireturn, 1) := D74 26 rfl rfl rfl
theorem d74_56 : decode (am_mc 74) 56 = .ok (.aload_n 0, 1) := D74 27 rfl rfl rfl
theorem d74_57 : decode (am_mc 74) 57 = .ok (.getfield 37, 3) := D74 28 rfl rfl rfl
theorem d74_60 : decode (am_mc 74) 60 = .ok (.iconst 2, 1) := D74 29 rfl rfl rfl
theorem d74_61 : decode (am_mc 74) 61 = .ok (.if_icmp .ne 13, 3) := D74 30 rfl rfl rfl
theorem d74_64 : decode (am_mc 74) 64 = .ok (.aload_n 0, 1) := D74 31 rfl rfl rfl
theorem d74_65 : decode (am_mc 74) 65 = .ok (.getfield 20, 3) := D74 32 rfl rfl rfl
theorem d74_68 : decode (am_mc 74) 68 = .ok (.invokevirtual 65, 3) := D74 33 rfl rfl rfl
theorem d74_71 : decode (am_mc 74) 71 = .ok (.goto 22, 3) := D74 34 rfl rfl rfl
theorem d74_74 : decode (am_mc 74) 74 = .ok (.iload_n 1, 1) := D74 35 rfl rfl rfl
theorem d74_75 : decode (am_mc 74) 75 = .ok (.ifCond .eq 17, 3) := D74 36 rfl rfl rfl
theorem d74_78 : decode (am_mc 74) 78 = .ok (.aload_n 0, 1) := D74 37 rfl rfl rfl
theorem d74_79 : decode (am_mc 74) 79 = .ok (.getfield 20, 3) := D74 38 rfl rfl rfl
theorem d74_82 : decode (am_mc 74) 82 = .ok (.invokevirtual 68, 3) := D74 39 rfl rfl rfl
theorem d74_85 : decode (am_mc 74) 85 = .ok (.ifCond .ne 7, 3) := D74 40 rfl rfl rfl
theorem d74_88 : decode (am_mc 74) 88 = .ok (.iconst 1, 1) := D74 41 rfl rfl rfl
theorem d74_89 : decode (am_mc 74) 89 = .ok (.goto 4, 3) := D74 42 rfl rfl rfl
theorem d74_92 : decode (am_mc 74) 92 = .ok (.iconst 0, 1) := D74 43 rfl rfl rfl
theorem d74_93 : decode (am_mc 74) 93 = .ok (.ireturn, 1) := D74 44 rfl rfl rfl
theorem ml74 : ∀ n, n < 2 → n < am_ml 74 := fun _ h => h
theorem mo74 : am_mo 74 = 5 := by decide +kernel
theorem mr74 : am_mr 74 = some .boolean := by decide +kernel
theorem rg74 : am_rcg 74 = 6 := by decide +kernel
theorem f5_37 : tb_f 5 37 = some (5, 3, 0, 0) := by decide +kernel
theorem m5_54 : tb_m 5 54 = some (60, 2, 1, 0) := by decide +kernel
theorem m5_62 : tb_m 5 62 = some (33, 1, 1, 0) := by decide +kernel
theorem m5_65 : tb_m 5 65 = some (36, 1, 1, 0) := by decide +kernel
theorem m5_68 : tb_m 5 68 = some (29, 1, 1, 0) := by decide +kernel
theorem dp74_29 : am_md 29 + 1 ≤ am_md 74 ∧ 8 + (am_ml 29 + 11) + am_lr 29 ≤ am_lr 74 := by decide +kernel
theorem dp74_33 : am_md 33 + 1 ≤ am_md 74 ∧ 8 + (am_ml 33 + 11) + am_lr 33 ≤ am_lr 74 := by decide +kernel
theorem dp74_36 : am_md 36 + 1 ≤ am_md 74 ∧ 8 + (am_ml 36 + 11) + am_lr 36 ≤ am_lr 74 := by decide +kernel
theorem dp74_60 : am_md 60 + 1 ≤ am_md 74 ∧ 8 + (am_ml 60 + 11) + am_lr 60 ≤ am_lr 74 := by decide +kernel
def fn74 (o : Nat) (μ : am_M) : Option (Int × am_M) := (am_op (fn60 (am_ref o 0) 18 μ) (fun z1 => (if z1.1 = 0 then (am_op (fn60 (am_ref o 0) 19 z1.2) (fun z5 => (if z5.1 = 0 then (am_op (fn60 (am_ref o 0) 20 z5.2) (fun z9 => (if z9.1 = 0 then some (0, z9.2) else (if z9.2 o 3 = 1 then (am_op (fn33 (am_ref o 1) z9.2) (fun z12 => (if z12.1 = 0 ∨ z12.1 = 1 then some (z12.1, z12.2) else none))) else (if z9.2 o 3 = 2 then (am_op (fn36 (am_ref o 1) z9.2) (fun z11 => (if z11.1 = 0 ∨ z11.1 = 1 then some (z11.1, z11.2) else none))) else (if z1.1 = 0 then some (0, z9.2) else (am_op (fn29 (am_ref o 1) z9.2) (fun z10 => (if z10.1 = 0 then some (1, z10.2) else some (0, z10.2)))))))))) else (if z5.2 o 3 = 1 then (am_op (fn33 (am_ref o 1) z5.2) (fun z8 => (if z8.1 = 0 ∨ z8.1 = 1 then some (z8.1, z8.2) else none))) else (if z5.2 o 3 = 2 then (am_op (fn36 (am_ref o 1) z5.2) (fun z7 => (if z7.1 = 0 ∨ z7.1 = 1 then some (z7.1, z7.2) else none))) else (if z1.1 = 0 then some (0, z5.2) else (am_op (fn29 (am_ref o 1) z5.2) (fun z6 => (if z6.1 = 0 then some (1, z6.2) else some (0, z6.2)))))))))) else (if z1.2 o 3 = 1 then (am_op (fn33 (am_ref o 1) z1.2) (fun z4 => (if z4.1 = 0 ∨ z4.1 = 1 then some (z4.1, z4.2) else none))) else (if z1.2 o 3 = 2 then (am_op (fn36 (am_ref o 1) z1.2) (fun z3 => (if z3.1 = 0 ∨ z3.1 = 1 then some (z3.1, z3.2) else none))) else (if z1.1 = 0 then some (0, z1.2) else (am_op (fn29 (am_ref o 1) z1.2) (fun z2 => (if z2.1 = 0 then some (1, z2.2) else some (0, z2.2))))))))))
def sp74 : am_F := fun vs μ => am_aR 5 vs fun o vs => am_a0 vs (fn74 o μ)
theorem e74 (o : Nat) (μ : am_M) : sp74 [.inr (.inr (5, o))] μ = fn74 o μ := am_aR_c.trans am_a0_c
theorem sd74 : am_Sd 74 sp74 := by
  refine am_Sd_of (by decide) (fun vs μ μ' x h hv hM => ?_)
  obtain ⟨o, vs0, rfl, h0⟩ := am_aR_s h
  obtain ⟨rfl, hz⟩ := am_a0_s h0
  refine ⟨Nat.le_of_ble_eq_true rfl, fun X C hG hr => ?_⟩
  have h := hz
  unfold fn74 at h
  exact (show am_W X C 74 _ 0 0 0 [(0, .inr (.inr (5, o)))] [] μ from (am_c_aload_n hG (pc := 0) d74_0 rfl (x_get_n (v := .inr (.inr (3, am_ref o 0))) hG (pc := 1) d74_1 mo74 f5_14 rfl (am_c_ldc hG (pc := 4) d74_4 (v := .inr (.inr (31, 18))) (by decide +kernel) (x_virtual_i (t := 3) (o := am_ref o 0) (as2 := [.inr (.inr (31, 18))]) (rest := []) hG (pc := 6) d74_6 mo74 m5_54 (by decide) dp74_60 rfl rfl (Nat.le_of_ble_eq_true rfl) (Nat.le_of_ble_eq_true rfl) rg60 sd60 (e60 _ _ _) h (fun z1 h => (x_istore_n (lv' := [(1, .inl z1.1), (0, .inr (.inr (5, o)))]) hG (pc := 9) d74_9 (ml74 _ (by decide)) rfl (am_c_iload_n hG (pc := 10) d74_10 rfl (x_if_ne (tgt := 40) hG (pc := 11) d74_11 rfl h (fun h => (am_c_aload_n hG (pc := 40) d74_40 rfl (x_get_n (v := .inl (z1.2 o 3)) hG (pc := 41) d74_41 mo74 f5_37 rfl (am_c_iconst hG (pc := 44) d74_44 (by decide) (x_icmp_ne (tgt := 56) hG (pc := 45) d74_45 rfl h (fun h => (am_c_aload_n hG (pc := 56) d74_56 rfl (x_get_n (v := .inl (z1.2 o 3)) hG (pc := 57) d74_57 mo74 f5_37 rfl (am_c_iconst hG (pc := 60) d74_60 (by decide) (x_icmp_ne (tgt := 74) hG (pc := 61) d74_61 rfl h (fun h => (am_c_iload_n hG (pc := 74) d74_74 rfl (x_if_eq (tgt := 92) hG (pc := 75) d74_75 rfl h (fun h => (am_c_iconst hG (pc := 92) d74_92 (by decide) (xq_zret0 hG (by decide) hr (pc := 93) d74_93 mr74 (am_q0 h)))) (fun h => (am_c_aload_n hG (pc := 78) d74_78 rfl (x_get_n (v := .inr (.inr (3, am_ref o 1))) hG (pc := 79) d74_79 mo74 f5_20 rfl (x_virtual_i (t := 3) (o := am_ref o 1) (as2 := []) (rest := []) hG (pc := 82) d74_82 mo74 m5_68 (by decide) dp74_29 rfl rfl (Nat.le_of_ble_eq_true rfl) (Nat.le_of_ble_eq_true rfl) rg29 sd29 (e29 _ _) h (fun z2 h => (x_if_ne (tgt := 92) hG (pc := 85) d74_85 rfl h (fun h => (am_c_iconst hG (pc := 92) d74_92 (by decide) (xq_zret0 hG (by decide) hr (pc := 93) d74_93 mr74 (am_q0 h)))) (fun h => (am_c_iconst hG (pc := 88) d74_88 (by decide) (x_goto (tgt := 93) hG (pc := 89) d74_89 rfl (xq_zret1 hG (by decide) hr (pc := 93) d74_93 mr74 (am_q0 h)))))))))))))) (fun h => (am_c_aload_n hG (pc := 64) d74_64 rfl (x_get_n (v := .inr (.inr (3, am_ref o 1))) hG (pc := 65) d74_65 mo74 f5_20 rfl (x_virtual_i (t := 3) (o := am_ref o 1) (as2 := []) (rest := []) hG (pc := 68) d74_68 mo74 m5_65 (by decide) dp74_36 rfl rfl (Nat.le_of_ble_eq_true rfl) (Nat.le_of_ble_eq_true rfl) rg36 sd36 (e36 _ _) h (fun z3 h => (x_goto (tgt := 93) hG (pc := 71) d74_71 rfl (xq_zret hG (by decide) hr (pc := 93) d74_93 mr74 h (fun h => (am_q0 h)))))))))))))) (fun h => (am_c_aload_n hG (pc := 48) d74_48 rfl (x_get_n (v := .inr (.inr (3, am_ref o 1))) hG (pc := 49) d74_49 mo74 f5_20 rfl (x_virtual_i (t := 3) (o := am_ref o 1) (as2 := []) (rest := []) hG (pc := 52) d74_52 mo74 m5_62 (by decide) dp74_33 rfl rfl (Nat.le_of_ble_eq_true rfl) (Nat.le_of_ble_eq_true rfl) rg33 sd33 (e33 _ _) h (fun z4 h => (xq_zret hG (by decide) hr (pc := 55) d74_55 mr74 h (fun h => (am_q0 h))))))))))))) (fun h => (am_c_aload_n hG (pc := 14) d74_14 rfl (x_get_n (v := .inr (.inr (3, am_ref o 0))) hG (pc := 15) d74_15 mo74 f5_14 rfl (am_c_ldc hG (pc := 18) d74_18 (v := .inr (.inr (31, 19))) (by decide +kernel) (x_virtual_i (t := 3) (o := am_ref o 0) (as2 := [.inr (.inr (31, 19))]) (rest := []) hG (pc := 20) d74_20 mo74 m5_54 (by decide) dp74_60 rfl rfl (Nat.le_of_ble_eq_true rfl) (Nat.le_of_ble_eq_true rfl) rg60 sd60 (e60 _ _ _) h (fun z5 h => (x_if_ne (tgt := 40) hG (pc := 23) d74_23 rfl h (fun h => (am_c_aload_n hG (pc := 40) d74_40 rfl (x_get_n (v := .inl (z5.2 o 3)) hG (pc := 41) d74_41 mo74 f5_37 rfl (am_c_iconst hG (pc := 44) d74_44 (by decide) (x_icmp_ne (tgt := 56) hG (pc := 45) d74_45 rfl h (fun h => (am_c_aload_n hG (pc := 56) d74_56 rfl (x_get_n (v := .inl (z5.2 o 3)) hG (pc := 57) d74_57 mo74 f5_37 rfl (am_c_iconst hG (pc := 60) d74_60 (by decide) (x_icmp_ne (tgt := 74) hG (pc := 61) d74_61 rfl h (fun h => (am_c_iload_n hG (pc := 74) d74_74 rfl (x_if_eq (tgt := 92) hG (pc := 75) d74_75 rfl h (fun h => (am_c_iconst hG (pc := 92) d74_92 (by decide) (xq_zret0 hG (by decide) hr (pc := 93) d74_93 mr74 (am_q0 h)))) (fun h => (am_c_aload_n hG (pc := 78) d74_78 rfl (x_get_n (v := .inr (.inr (3, am_ref o 1))) hG (pc := 79) d74_79 mo74 f5_20 rfl (x_virtual_i (t := 3) (o := am_ref o 1) (as2 := []) (rest := []) hG (pc := 82) d74_82 mo74 m5_68 (by decide) dp74_29 rfl rfl (Nat.le_of_ble_eq_true rfl) (Nat.le_of_ble_eq_true rfl) rg29 sd29 (e29 _ _) h (fun z6 h => (x_if_ne (tgt := 92) hG (pc := 85) d74_85 rfl h (fun h => (am_c_iconst hG (pc := 92) d74_92 (by decide) (xq_zret0 hG (by decide) hr (pc := 93) d74_93 mr74 (am_q0 h)))) (fun h => (am_c_iconst hG (pc := 88) d74_88 (by decide) (x_goto (tgt := 93) hG (pc := 89) d74_89 rfl (xq_zret1 hG (by decide) hr (pc := 93) d74_93 mr74 (am_q0 h)))))))))))))) (fun h => (am_c_aload_n hG (pc := 64) d74_64 rfl (x_get_n (v := .inr (.inr (3, am_ref o 1))) hG (pc := 65) d74_65 mo74 f5_20 rfl (x_virtual_i (t := 3) (o := am_ref o 1) (as2 := []) (rest := []) hG (pc := 68) d74_68 mo74 m5_65 (by decide) dp74_36 rfl rfl (Nat.le_of_ble_eq_true rfl) (Nat.le_of_ble_eq_true rfl) rg36 sd36 (e36 _ _) h (fun z7 h => (x_goto (tgt := 93) hG (pc := 71) d74_71 rfl (xq_zret hG (by decide) hr (pc := 93) d74_93 mr74 h (fun h => (am_q0 h)))))))))))))) (fun h => (am_c_aload_n hG (pc := 48) d74_48 rfl (x_get_n (v := .inr (.inr (3, am_ref o 1))) hG (pc := 49) d74_49 mo74 f5_20 rfl (x_virtual_i (t := 3) (o := am_ref o 1) (as2 := []) (rest := []) hG (pc := 52) d74_52 mo74 m5_62 (by decide) dp74_33 rfl rfl (Nat.le_of_ble_eq_true rfl) (Nat.le_of_ble_eq_true rfl) rg33 sd33 (e33 _ _) h (fun z8 h => (xq_zret hG (by decide) hr (pc := 55) d74_55 mr74 h (fun h => (am_q0 h))))))))))))) (fun h => (am_c_aload_n hG (pc := 26) d74_26 rfl (x_get_n (v := .inr (.inr (3, am_ref o 0))) hG (pc := 27) d74_27 mo74 f5_14 rfl (am_c_ldc hG (pc := 30) d74_30 (v := .inr (.inr (31, 20))) (by decide +kernel) (x_virtual_i (t := 3) (o := am_ref o 0) (as2 := [.inr (.inr (31, 20))]) (rest := []) hG (pc := 32) d74_32 mo74 m5_54 (by decide) dp74_60 rfl rfl (Nat.le_of_ble_eq_true rfl) (Nat.le_of_ble_eq_true rfl) rg60 sd60 (e60 _ _ _) h (fun z9 h => (x_if_ne (tgt := 40) hG (pc := 35) d74_35 rfl h (fun h => (am_c_aload_n hG (pc := 40) d74_40 rfl (x_get_n (v := .inl (z9.2 o 3)) hG (pc := 41) d74_41 mo74 f5_37 rfl (am_c_iconst hG (pc := 44) d74_44 (by decide) (x_icmp_ne (tgt := 56) hG (pc := 45) d74_45 rfl h (fun h => (am_c_aload_n hG (pc := 56) d74_56 rfl (x_get_n (v := .inl (z9.2 o 3)) hG (pc := 57) d74_57 mo74 f5_37 rfl (am_c_iconst hG (pc := 60) d74_60 (by decide) (x_icmp_ne (tgt := 74) hG (pc := 61) d74_61 rfl h (fun h => (am_c_iload_n hG (pc := 74) d74_74 rfl (x_if_eq (tgt := 92) hG (pc := 75) d74_75 rfl h (fun h => (am_c_iconst hG (pc := 92) d74_92 (by decide) (xq_zret0 hG (by decide) hr (pc := 93) d74_93 mr74 (am_q0 h)))) (fun h => (am_c_aload_n hG (pc := 78) d74_78 rfl (x_get_n (v := .inr (.inr (3, am_ref o 1))) hG (pc := 79) d74_79 mo74 f5_20 rfl (x_virtual_i (t := 3) (o := am_ref o 1) (as2 := []) (rest := []) hG (pc := 82) d74_82 mo74 m5_68 (by decide) dp74_29 rfl rfl (Nat.le_of_ble_eq_true rfl) (Nat.le_of_ble_eq_true rfl) rg29 sd29 (e29 _ _) h (fun z10 h => (x_if_ne (tgt := 92) hG (pc := 85) d74_85 rfl h (fun h => (am_c_iconst hG (pc := 92) d74_92 (by decide) (xq_zret0 hG (by decide) hr (pc := 93) d74_93 mr74 (am_q0 h)))) (fun h => (am_c_iconst hG (pc := 88) d74_88 (by decide) (x_goto (tgt := 93) hG (pc := 89) d74_89 rfl (xq_zret1 hG (by decide) hr (pc := 93) d74_93 mr74 (am_q0 h)))))))))))))) (fun h => (am_c_aload_n hG (pc := 64) d74_64 rfl (x_get_n (v := .inr (.inr (3, am_ref o 1))) hG (pc := 65) d74_65 mo74 f5_20 rfl (x_virtual_i (t := 3) (o := am_ref o 1) (as2 := []) (rest := []) hG (pc := 68) d74_68 mo74 m5_65 (by decide) dp74_36 rfl rfl (Nat.le_of_ble_eq_true rfl) (Nat.le_of_ble_eq_true rfl) rg36 sd36 (e36 _ _) h (fun z11 h => (x_goto (tgt := 93) hG (pc := 71) d74_71 rfl (xq_zret hG (by decide) hr (pc := 93) d74_93 mr74 h (fun h => (am_q0 h)))))))))))))) (fun h => (am_c_aload_n hG (pc := 48) d74_48 rfl (x_get_n (v := .inr (.inr (3, am_ref o 1))) hG (pc := 49) d74_49 mo74 f5_20 rfl (x_virtual_i (t := 3) (o := am_ref o 1) (as2 := []) (rest := []) hG (pc := 52) d74_52 mo74 m5_62 (by decide) dp74_33 rfl rfl (Nat.le_of_ble_eq_true rfl) (Nat.le_of_ble_eq_true rfl) rg33 sd33 (e33 _ _) h (fun z12 h => (xq_zret hG (by decide) hr (pc := 55) d74_55 mr74 h (fun h => (am_q0 h))))))))))))) (fun h => (am_c_iconst hG (pc := 38) d74_38 (by decide) (xq_zret0 hG (by decide) hr (pc := 39) d74_39 mr74 (am_q0 h)))))))))))))))))))))))))))
/-! ChartPress$Condition.settle(LChartPress$Table;)Z -/
theorem D75 (k : Nat) {pc : Nat} {i : Instr} (h : tbi75[k]? = some (pc, i)) (hs : am_isw i = false) {n : Nat} (hn : am_il i = n) : decode (am_mc 75) pc = .ok (i, n) := am_d2 (by decide) (by decide) rfl h hs hn
theorem d75_0 : decode (am_mc 75) 0 = .ok (.aload_n 0, 1) := D75 0 rfl rfl rfl
theorem d75_1 : decode (am_mc 75) 1 = .ok (.aload_n 1, 1) := D75 1 rfl rfl rfl
theorem d75_2 : decode (am_mc 75) 2 = .ok (.aload_n 0, 1) := D75 2 rfl rfl rfl
theorem d75_3 : decode (am_mc 75) 3 = .ok (.getfield 23, 3) := D75 3 rfl rfl rfl
theorem d75_6 : decode (am_mc 75) 6 = .ok (.invokevirtual 31, 3) := D75 4 rfl rfl rfl
theorem d75_9 : decode (am_mc 75) 9 = .ok (.putfield 37, 3) := D75 5 rfl rfl rfl
theorem d75_12 : decode (am_mc 75) 12 = .ok (.aload_n 0, 1) := D75 6 rfl rfl rfl
theorem d75_13 : decode (am_mc 75) 13 = .ok (.invokevirtual 40, 3) := D75 7 rfl rfl rfl
theorem d75_16 : decode (am_mc 75) 16 = .ok (.ifCond .ne 5, 3) := D75 8 rfl rfl rfl
theorem d75_19 : decode (am_mc 75) 19 = .ok (.iconst 0, 1) := D75 9 rfl rfl rfl
theorem d75_20 : decode (am_mc 75) 20 = .ok (.ireturn, 1) := D75 10 rfl rfl rfl
theorem d75_21 : decode (am_mc 75) 21 = .ok (.aload_n 0, 1) := D75 11 rfl rfl rfl
theorem d75_22 : decode (am_mc 75) 22 = .ok (.aload_n 0, 1) := D75 12 rfl rfl rfl
theorem d75_23 : decode (am_mc 75) 23 = .ok (.getfield 37, 3) := D75 13 rfl rfl rfl
theorem d75_26 : decode (am_mc 75) 26 = .ok (.aload_n 0, 1) := D75 14 rfl rfl rfl
theorem d75_27 : decode (am_mc 75) 27 = .ok (.getfield 20, 3) := D75 15 rfl rfl rfl
theorem d75_30 : decode (am_mc 75) 30 = .ok (.invokestatic 44, 3) := D75 16 rfl rfl rfl
theorem d75_33 : decode (am_mc 75) 33 = .ok (.putfield 48, 3) := D75 17 rfl rfl rfl
theorem d75_36 : decode (am_mc 75) 36 = .ok (.iconst 1, 1) := D75 18 rfl rfl rfl
theorem d75_37 : decode (am_mc 75) 37 = .ok (.ireturn, 1) := D75 19 rfl rfl rfl
theorem ml75 : ∀ n, n < 2 → n < am_ml 75 := fun _ h => h
theorem mo75 : am_mo 75 = 5 := by decide +kernel
theorem mr75 : am_mr 75 = some .boolean := by decide +kernel
theorem rg75 : am_rcg 75 = 6 := by decide +kernel
theorem f5_48 : tb_f 5 48 = some (5, 4, 1, 0) := by decide +kernel
theorem m5_31 : tb_m 5 31 = some (45, 2, 1, 0) := by decide +kernel
theorem m5_40 : tb_m 5 40 = some (74, 1, 1, 0) := by decide +kernel
theorem m5_44 : tb_m 5 44 = some (40, 2, 2, 0) := by decide +kernel
theorem dp75_40 : am_md 40 + 1 ≤ am_md 75 ∧ 8 + (am_ml 40 + 11) + am_lr 40 ≤ am_lr 75 := by decide +kernel
theorem dp75_45 : am_md 45 + 1 ≤ am_md 75 ∧ 8 + (am_ml 45 + 11) + am_lr 45 ≤ am_lr 75 := by decide +kernel
theorem dp75_74 : am_md 74 + 1 ≤ am_md 75 ∧ 8 + (am_ml 74 + 11) + am_lr 74 ≤ am_lr 75 := by decide +kernel
def fn75 (o : Nat) (a : Nat) (μ : am_M) : Option (Int × am_M) := (am_op (fn45 a (μ o 2) μ) (fun z1 => (am_op (fn74 o (am_up z1.2 o 3 z1.1)) (fun z2 => (if z2.1 = 0 then some (0, z2.2) else (am_op (fn40 (z2.2 o 3) (am_ref o 1) z2.2) (fun z3 => some (1, am_up z3.2 o 4 z3.1))))))))
def sp75 : am_F := fun vs μ => am_aR 5 vs fun o vs => am_aR 2 vs fun a vs => am_a0 vs (fn75 o a μ)
theorem e75 (o : Nat) (a : Nat) (μ : am_M) : sp75 [.inr (.inr (5, o)), .inr (.inr (2, a))] μ = fn75 o a μ := am_aR_c.trans (am_aR_c.trans am_a0_c)
theorem sd75 : am_Sd 75 sp75 := by
  refine am_Sd_of (by decide) (fun vs μ μ' x h hv hM => ?_)
  obtain ⟨o, vs0, rfl, h0⟩ := am_aR_s h
  obtain ⟨a, vs1, rfl, h1⟩ := am_aR_s h0
  obtain ⟨rfl, hz⟩ := am_a0_s h1
  refine ⟨Nat.le_of_ble_eq_true rfl, fun X C hG hr => ?_⟩
  have h := hz
  unfold fn75 at h
  exact (show am_W X C 75 _ 0 0 0 [(0, .inr (.inr (5, o))), (1, .inr (.inr (2, a)))] [] μ from (am_c_aload_n hG (pc := 0) d75_0 rfl (am_c_aload_n hG (pc := 1) d75_1 rfl (am_c_aload_n hG (pc := 2) d75_2 rfl (x_get_n (v := .inl (μ o 2)) hG (pc := 3) d75_3 mo75 f5_23 rfl (x_virtual_i (t := 2) (o := a) (as2 := [.inl (μ o 2)]) (rest := [.inr (.inr (5, o))]) hG (pc := 6) d75_6 mo75 m5_31 (by decide) dp75_45 rfl rfl (Nat.le_of_ble_eq_true rfl) (Nat.le_of_ble_eq_true rfl) rg45 sd45 (e45 _ _ _) h (fun z1 h => (x_put_i hG (pc := 9) d75_9 mo75 f5_37 (by decide) (am_c_aload_n hG (pc := 12) d75_12 rfl (x_virtual_i (t := 5) (o := o) (as2 := []) (rest := []) hG (pc := 13) d75_13 mo75 m5_40 (by decide) dp75_74 rfl rfl (Nat.le_of_ble_eq_true rfl) (Nat.le_of_ble_eq_true rfl) rg74 sd74 (e74 _ _) h (fun z2 h => (x_if_ne (tgt := 21) hG (pc := 16) d75_16 rfl h (fun h => (am_c_aload_n hG (pc := 21) d75_21 rfl (am_c_aload_n hG (pc := 22) d75_22 rfl (x_get_n (v := .inl (z2.2 o 3)) hG (pc := 23) d75_23 mo75 f5_37 rfl (am_c_aload_n hG (pc := 26) d75_26 rfl (x_get_n (v := .inr (.inr (3, am_ref o 1))) hG (pc := 27) d75_27 mo75 f5_20 rfl (x_static_l (as := [.inl (z2.2 o 3), .inr (.inr (3, am_ref o 1))]) (rest := [.inr (.inr (5, o))]) hG (pc := 30) d75_30 mo75 m5_44 (by decide) dp75_40 rfl rfl (Nat.le_of_ble_eq_true rfl) (Nat.le_of_ble_eq_true rfl) rg40 sd40 (e40 _ _ _) h (fun z3 h => (x_put_l hG (pc := 33) d75_33 mo75 f5_48 (by decide) (am_c_iconst hG (pc := 36) d75_36 (by decide) (xq_zret1 hG (by decide) hr (pc := 37) d75_37 mr75 (am_q0 h)))))))))))) (fun h => (am_c_iconst hG (pc := 19) d75_19 (by decide) (xq_zret0 hG (by decide) hr (pc := 20) d75_20 mr75 (am_q0 h))))))))))))))))
/-! ChartPress$Request.isStackAllowed()Z -/
theorem D76 (k : Nat) {pc : Nat} {i : Instr} (h : tbi76[k]? = some (pc, i)) (hs : am_isw i = false) {n : Nat} (hn : am_il i = n) : decode (am_mc 76) pc = .ok (i, n) := am_d2 (by decide) (by decide) rfl h hs hn
theorem d76_0 : decode (am_mc 76) 0 = .ok (.aload_n 0, 1) := D76 0 rfl rfl rfl
theorem d76_1 : decode (am_mc 76) 1 = .ok (.getfield 83, 3) := D76 1 rfl rfl rfl
theorem d76_4 : decode (am_mc 76) 4 = .ok (.iconst (-1), 1) := D76 2 rfl rfl rfl
theorem d76_5 : decode (am_mc 76) 5 = .ok (.if_icmp .eq 25, 3) := D76 3 rfl rfl rfl
theorem d76_8 : decode (am_mc 76) 8 = .ok (.aload_n 0, 1) := D76 4 rfl rfl rfl
theorem d76_9 : decode (am_mc 76) 9 = .ok (.getfield 68, 3) := D76 5 rfl rfl rfl
theorem d76_12 : decode (am_mc 76) 12 = .ok (.ifCond .ne 22, 3) := D76 6 rfl rfl rfl
theorem d76_15 : decode (am_mc 76) 15 = .ok (.aload_n 0, 1) := D76 7 rfl rfl rfl
theorem d76_16 : decode (am_mc 76) 16 = .ok (.getfield 74, 3) := D76 8 rfl rfl rfl
theorem d76_19 : decode (am_mc 76) 19 = .ok (.ifCond .eq 11, 3) := D76 9 rfl rfl rfl
theorem d76_22 : decode (am_mc 76) 22 = .ok (.aload_n 0, 1) := D76 10 rfl rfl rfl
theorem d76_23 : decode (am_mc 76) 23 = .ok (.getfield 74, 3) := D76 11 rfl rfl rfl
theorem d76_26 : decode (am_mc 76) 26 = .ok (.iconst 1, 1) := D76 12 rfl rfl rfl
theorem d76_27 : decode (am_mc 76) 27 = .ok (.if_icmp .ne 7, 3) := D76 13 rfl rfl rfl
theorem d76_30 : decode (am_mc 76) 30 = .ok (.iconst 1, 1) := D76 14 rfl rfl rfl
theorem d76_31 : decode (am_mc 76) 31 = .ok (.goto 4, 3) := D76 15 rfl rfl rfl
theorem d76_34 : decode (am_mc 76) 34 = .ok (.iconst 0, 1) := D76 16 rfl rfl rfl
theorem d76_35 : decode (am_mc 76) 35 = .ok (.ireturn, 1) := D76 17 rfl rfl rfl
theorem ml76 : ∀ n, n < 1 → n < am_ml 76 := fun _ h => h
theorem mo76 : am_mo 76 = 4 := by decide +kernel
theorem mr76 : am_mr 76 = some .boolean := by decide +kernel
theorem rg76 : am_rcg 76 = 5 := by decide +kernel
def fn76 (o : Nat) (μ : am_M) : Option (Int × am_M) := (if μ o 11 = (-1) then some (1, μ) else (if μ o 5 = 0 then (if μ o 7 = 0 then some (1, μ) else (if μ o 7 = 1 then some (1, μ) else some (0, μ))) else some (0, μ)))
def sp76 : am_F := fun vs μ => am_aR 4 vs fun o vs => am_a0 vs (fn76 o μ)
theorem e76 (o : Nat) (μ : am_M) : sp76 [.inr (.inr (4, o))] μ = fn76 o μ := am_aR_c.trans am_a0_c
theorem sd76 : am_Sd 76 sp76 := by
  refine am_Sd_of (by decide) (fun vs μ μ' x h hv hM => ?_)
  obtain ⟨o, vs0, rfl, h0⟩ := am_aR_s h
  obtain ⟨rfl, hz⟩ := am_a0_s h0
  refine ⟨Nat.le_of_ble_eq_true rfl, fun X C hG hr => ?_⟩
  have h := hz
  unfold fn76 at h
  exact (show am_W X C 76 _ 0 0 0 [(0, .inr (.inr (4, o)))] [] μ from (am_c_aload_n hG (pc := 0) d76_0 rfl (x_get_n (v := .inl (μ o 11)) hG (pc := 1) d76_1 mo76 f4_83 rfl (am_c_iconst hG (pc := 4) d76_4 (by decide) (x_icmp_eq (tgt := 30) hG (pc := 5) d76_5 rfl h (fun h => (am_c_iconst hG (pc := 30) d76_30 (by decide) (x_goto (tgt := 35) hG (pc := 31) d76_31 rfl (xq_zret1 hG (by decide) hr (pc := 35) d76_35 mr76 (am_q0 h))))) (fun h => (am_c_aload_n hG (pc := 8) d76_8 rfl (x_get_n (v := .inl (μ o 5)) hG (pc := 9) d76_9 mo76 f4_68 rfl (x_if_ne (tgt := 34) hG (pc := 12) d76_12 rfl h (fun h => (am_c_iconst hG (pc := 34) d76_34 (by decide) (xq_zret0 hG (by decide) hr (pc := 35) d76_35 mr76 (am_q0 h)))) (fun h => (am_c_aload_n hG (pc := 15) d76_15 rfl (x_get_n (v := .inl (μ o 7)) hG (pc := 16) d76_16 mo76 f4_74 rfl (x_if_eq (tgt := 30) hG (pc := 19) d76_19 rfl h (fun h => (am_c_iconst hG (pc := 30) d76_30 (by decide) (x_goto (tgt := 35) hG (pc := 31) d76_31 rfl (xq_zret1 hG (by decide) hr (pc := 35) d76_35 mr76 (am_q0 h))))) (fun h => (am_c_aload_n hG (pc := 22) d76_22 rfl (x_get_n (v := .inl (μ o 7)) hG (pc := 23) d76_23 mo76 f4_74 rfl (am_c_iconst hG (pc := 26) d76_26 (by decide) (x_icmp_ne (tgt := 34) hG (pc := 27) d76_27 rfl h (fun h => (am_c_iconst hG (pc := 34) d76_34 (by decide) (xq_zret0 hG (by decide) hr (pc := 35) d76_35 mr76 (am_q0 h)))) (fun h => (am_c_iconst hG (pc := 30) d76_30 (by decide) (x_goto (tgt := 35) hG (pc := 31) d76_31 rfl (xq_zret1 hG (by decide) hr (pc := 35) d76_35 mr76 (am_q0 h)))))))))))))))))))))))
/-! ChartPress$Request.read(LChartPress$Script;LChartPress$Table;)Z -/
theorem D77 (k : Nat) {pc : Nat} {i : Instr} (h : tbi77[k]? = some (pc, i)) (hs : am_isw i = false) {n : Nat} (hn : am_il i = n) : decode (am_mc 77) pc = .ok (i, n) := am_d2 (by decide) (by decide) rfl h hs hn
theorem d77_0 : decode (am_mc 77) 0 = .ok (.aload_n 0, 1) := D77 0 rfl rfl rfl
theorem d77_1 : decode (am_mc 77) 1 = .ok (.invokevirtual 31, 3) := D77 1 rfl rfl rfl
theorem d77_4 : decode (am_mc 77) 4 = .ok (.aload_n 0, 1) := D77 2 rfl rfl rfl
theorem d77_5 : decode (am_mc 77) 5 = .ok (.aload_n 1, 1) := D77 3 rfl rfl rfl
theorem d77_6 : decode (am_mc 77) 6 = .ok (.invokevirtual 34, 3) := D77 4 rfl rfl rfl
theorem d77_9 : decode (am_mc 77) 9 = .ok (.aload_n 0, 1) := D77 5 rfl rfl rfl
theorem d77_10 : decode (am_mc 77) 10 = .ok (.getfield 38, 3) := D77 6 rfl rfl rfl
theorem d77_13 : decode (am_mc 77) 13 = .ok (.bipush 20, 2) := D77 7 rfl rfl rfl
theorem d77_15 : decode (am_mc 77) 15 = .ok (.if_icmp .gt 30, 3) := D77 8 rfl rfl rfl
theorem d77_18 : decode (am_mc 77) 18 = .ok (.aload_n 0, 1) := D77 9 rfl rfl rfl
theorem d77_19 : decode (am_mc 77) 19 = .ok (.invokevirtual 42, 3) := D77 10 rfl rfl rfl
theorem d77_22 : decode (am_mc 77) 22 = .ok (.ifCond .eq 23, 3) := D77 11 rfl rfl rfl
theorem d77_25 : decode (am_mc 77) 25 = .ok (.aload_n 0, 1) := D77 12 rfl rfl rfl
theorem d77_26 : decode (am_mc 77) 26 = .ok (.aload_n 2, 1) := D77 13 rfl rfl rfl
theorem d77_27 : decode (am_mc 77) 27 = .ok (.invokevirtual 46, 3) := D77 14 rfl rfl rfl
theorem d77_30 : decode (am_mc 77) 30 = .ok (.ifCond .eq 15, 3) := D77 15 rfl rfl rfl
theorem d77_33 : decode (am_mc 77) 33 = .ok (.aload_n 0, 1) := D77 16 rfl rfl rfl
theorem d77_34 : decode (am_mc 77) 34 = .ok (.aload_n 2, 1) := D77 17 rfl rfl rfl
theorem d77_35 : decode (am_mc 77) 35 = .ok (.invokevirtual 50, 3) := D77 18 rfl rfl rfl
theorem d77_38 : decode (am_mc 77) 38 = .ok (.ifCond .eq 7, 3) := D77 19 rfl rfl rfl
theorem d77_41 : decode (am_mc 77) 41 = .ok (.iconst 1, 1) := D77 20 rfl rfl rfl
theorem d77_42 : decode (am_mc 77) 42 = .ok (.goto 4, 3) := D77 21 rfl rfl rfl
theorem d77_45 : decode (am_mc 77) 45 = .ok (.iconst 0, 1) := D77 22 rfl rfl rfl
theorem d77_46 : decode (am_mc 77) 46 = .ok (.istore_n 3, 1) := D77 23 rfl rfl rfl
theorem d77_47 : decode (am_mc 77) 47 = .ok (.iconst 0, 1) := D77 24 rfl rfl rfl
theorem d77_48 : decode (am_mc 77) 48 = .ok (.istore 4, 2) := D77 25 rfl rfl rfl
theorem d77_50 : decode (am_mc 77) 50 = .ok (.iload_n 3, 1) := D77 26 rfl rfl rfl
theorem d77_51 : decode (am_mc 77) 51 = .ok (.ifCond .eq 33, 3) := D77 27 rfl rfl rfl
theorem d77_54 : decode (am_mc 77) 54 = .ok (.iload 4, 2) := D77 28 rfl rfl rfl
theorem d77_56 : decode (am_mc 77) 56 = .ok (.bipush 20, 2) := D77 29 rfl rfl rfl
theorem d77_58 : decode (am_mc 77) 58 = .ok (.if_icmp .ge 26, 3) := D77 30 rfl rfl rfl
theorem d77_61 : decode (am_mc 77) 61 = .ok (.aload_n 0, 1) := D77 31 rfl rfl rfl
theorem d77_62 : decode (am_mc 77) 62 = .ok (.getfield 53, 3) := D77 32 rfl rfl rfl
theorem d77_65 : decode (am_mc 77) 65 = .ok (.aload_n 0, 1) := D77 33 rfl rfl rfl
theorem d77_66 : decode (am_mc 77) 66 = .ok (.getfield 38, 3) := D77 34 rfl rfl rfl
theorem d77_69 : decode (am_mc 77) 69 = .ok (.if_icmp .ge 15, 3) := D77 35 rfl rfl rfl
theorem d77_72 : decode (am_mc 77) 72 = .ok (.aload_n 0, 1) := D77 36 rfl rfl rfl
theorem d77_73 : decode (am_mc 77) 73 = .ok (.aload_n 2, 1) := D77 37 rfl rfl rfl
theorem d77_74 : decode (am_mc 77) 74 = .ok (.invokevirtual 56, 3) := D77 38 rfl rfl rfl
theorem d77_77 : decode (am_mc 77) 77 = .ok (.istore_n 3, 1) := D77 39 rfl rfl rfl
theorem d77_78 : decode (am_mc 77) 78 = .ok (.iinc 4 1, 3) := D77 40 rfl rfl rfl
theorem d77_81 : decode (am_mc 77) 81 = .ok (.goto (-31), 3) := D77 41 rfl rfl rfl
theorem d77_84 : decode (am_mc 77) 84 = .ok (.iconst 0, 1) := D77 42 rfl rfl rfl
theorem d77_85 : decode (am_mc 77) 85 = .ok (.istore 4, 2) := D77 43 rfl rfl rfl
theorem d77_87 : decode (am_mc 77) 87 = .ok (.iload_n 3, 1) := D77 44 rfl rfl rfl
theorem d77_88 : decode (am_mc 77) 88 = .ok (.ifCond .eq 40, 3) := D77 45 rfl rfl rfl
theorem d77_91 : decode (am_mc 77) 91 = .ok (.iload 4, 2) := D77 46 rfl rfl rfl
theorem d77_93 : decode (am_mc 77) 93 = .ok (.aload_n 0, 1) := D77 47 rfl rfl rfl
theorem d77_94 : decode (am_mc 77) 94 = .ok (.getfield 59, 3) := D77 48 rfl rfl rfl
theorem d77_97 : decode (am_mc 77) 97 = .ok (.if_icmp .ge 31, 3) := D77 49 rfl rfl rfl
theorem d77_100 : decode (am_mc 77) 100 = .ok (.iload 4, 2) := D77 50 rfl rfl rfl
theorem d77_102 : decode (am_mc 77) 102 = .ok (.aload_n 0, 1) := D77 51 rfl rfl rfl
theorem d77_103 : decode (am_mc 77) 103 = .ok (.getfield 26, 3) := D77 52 rfl rfl rfl
theorem d77_106 : decode (am_mc 77) 106 = .ok (.arraylength, 1) := D77 53 rfl rfl rfl
theorem d77_107 : decode (am_mc 77) 107 = .ok (.if_icmp .ge 21, 3) := D77 54 rfl rfl rfl
theorem d77_110 : decode (am_mc 77) 110 = .ok (.aload_n 0, 1) := D77 55 rfl rfl rfl
theorem d77_111 : decode (am_mc 77) 111 = .ok (.getfield 26, 3) := D77 56 rfl rfl rfl
theorem d77_114 : decode (am_mc 77) 114 = .ok (.iload 4, 2) := D77 57 rfl rfl rfl
theorem d77_116 : decode (am_mc 77) 116 = .ok (.aaload, 1) := D77 58 rfl rfl rfl
theorem d77_117 : decode (am_mc 77) 117 = .ok (.aload_n 2, 1) := D77 59 rfl rfl rfl
theorem d77_118 : decode (am_mc 77) 118 = .ok (.invokevirtual 62, 3) := D77 60 rfl rfl rfl
theorem d77_121 : decode (am_mc 77) 121 = .ok (.istore_n 3, 1) := D77 61 rfl rfl rfl
theorem d77_122 : decode (am_mc 77) 122 = .ok (.iinc 4 1, 3) := D77 62 rfl rfl rfl
theorem d77_125 : decode (am_mc 77) 125 = .ok (.goto (-38), 3) := D77 63 rfl rfl rfl
theorem d77_128 : decode (am_mc 77) 128 = .ok (.iload_n 3, 1) := D77 64 rfl rfl rfl
theorem d77_129 : decode (am_mc 77) 129 = .ok (.ifCond .eq 14, 3) := D77 65 rfl rfl rfl
theorem d77_132 : decode (am_mc 77) 132 = .ok (.aload_n 0, 1) := D77 66 rfl rfl rfl
theorem d77_133 : decode (am_mc 77) 133 = .ok (.invokevirtual 65, 3) := D77 67 rfl rfl rfl
theorem d77_136 : decode (am_mc 77) 136 = .ok (.ifCond .eq 7, 3) := D77 68 rfl rfl rfl
theorem d77_139 : decode (am_mc 77) 139 = .ok (.iconst 1, 1) := D77 69 rfl rfl rfl
theorem d77_140 : decode (am_mc 77) 140 = .ok (.goto 4, 3) := D77 70 rfl rfl rfl
theorem d77_143 : decode (am_mc 77) 143 = .ok (.iconst 0, 1) := D77 71 rfl rfl rfl
theorem d77_144 : decode (am_mc 77) 144 = .ok (.ireturn, 1) := D77 72 rfl rfl rfl
theorem ml77 : ∀ n, n < 5 → n < am_ml 77 := fun _ h => h
theorem mo77 : am_mo 77 = 4 := by decide +kernel
theorem mr77 : am_mr 77 = some .boolean := by decide +kernel
theorem rg77 : am_rcg 77 = 5 := by decide +kernel
theorem m4_31 : tb_m 4 31 = some (49, 1, 0, 0) := by decide +kernel
theorem m4_34 : tb_m 4 34 = some (52, 2, 0, 0) := by decide +kernel
theorem m4_42 : tb_m 4 42 = some (61, 1, 1, 0) := by decide +kernel
theorem m4_46 : tb_m 4 46 = some (64, 2, 1, 0) := by decide +kernel
theorem m4_50 : tb_m 4 50 = some (66, 2, 1, 0) := by decide +kernel
theorem m4_56 : tb_m 4 56 = some (73, 2, 1, 0) := by decide +kernel
theorem m4_62 : tb_m 4 62 = some (75, 2, 1, 0) := by decide +kernel
theorem m4_65 : tb_m 4 65 = some (76, 1, 1, 0) := by decide +kernel
theorem dp77_49 : am_md 49 + 1 ≤ am_md 77 ∧ 8 + (am_ml 49 + 11) + am_lr 49 ≤ am_lr 77 := by decide +kernel
theorem dp77_52 : am_md 52 + 1 ≤ am_md 77 ∧ 8 + (am_ml 52 + 11) + am_lr 52 ≤ am_lr 77 := by decide +kernel
theorem dp77_61 : am_md 61 + 1 ≤ am_md 77 ∧ 8 + (am_ml 61 + 11) + am_lr 61 ≤ am_lr 77 := by decide +kernel
theorem dp77_64 : am_md 64 + 1 ≤ am_md 77 ∧ 8 + (am_ml 64 + 11) + am_lr 64 ≤ am_lr 77 := by decide +kernel
theorem dp77_66 : am_md 66 + 1 ≤ am_md 77 ∧ 8 + (am_ml 66 + 11) + am_lr 66 ≤ am_lr 77 := by decide +kernel
theorem dp77_73 : am_md 73 + 1 ≤ am_md 77 ∧ 8 + (am_ml 73 + 11) + am_lr 73 ≤ am_lr 77 := by decide +kernel
theorem dp77_75 : am_md 75 + 1 ≤ am_md 77 ∧ 8 + (am_ml 75 + 11) + am_lr 75 ≤ am_lr 77 := by decide +kernel
theorem dp77_76 : am_md 76 + 1 ≤ am_md 77 ∧ 8 + (am_ml 76 + 11) + am_lr 76 ≤ am_lr 77 := by decide +kernel
def L77_50 (l0 : Nat) (l2 : Nat) : Nat → Int → Int → am_M → Option ((Int × am_M) ⊕ (Int × Int × am_M))
  | 0, _, _, _ => none
  | n + 1, l3, l4, μ => (if l3 = 0 then (some (.inr (l3, l4, μ))) else (if l4 < 20 then (if μ l0 4 < μ l0 3 then (am_op (fn73 l0 l2 μ) (fun z3 => (L77_50 l0 l2 n z3.1 (w32 (l4 + 1)) z3.2))) else (some (.inr (l3, l4, μ)))) else (some (.inr (l3, l4, μ)))))
theorem w77_50 {X : am_K} {C : am_C} {Q : State → Prop} (hG : am_G X C 77 0 0 (0, fun _ => 0)) (hr : match X with | (_, _, _, _, _, _, _, _, meth, _) => meth.sig.returnType = am_mr 77 ∧ meth.locks = false) (l0 : Nat) (l2 : Nat) : ∀ (n : Nat) (l3 : Int) (l4 : Int) (μ : am_M) (r : (Int × am_M) ⊕ (Int × Int × am_M)), L77_50 l0 l2 n l3 l4 μ = some r → (∀ q, r = .inl q → Q = am_E X C 77 q.1 q.2) → (∀ t, r = .inr t → am_W X C 77 Q 0 0 84 [(0, .inr (.inr (4, l0))), (2, .inr (.inr (2, l2))), (3, .inl t.1)] [] t.2.2) → am_W X C 77 Q 0 0 50 [(0, .inr (.inr (4, l0))), (2, .inr (.inr (2, l2))), (3, .inl l3), (4, .inl l4)] [] μ := by
  intro n
  induction n with
  | zero => intro l3 l4 μ r h; cases h
  | succ n ih =>
    intro l3 l4 μ r h hI hX
    unfold L77_50 at h
    exact (am_c_iload_n hG (pc := 50) d77_50 rfl (x_if_eq (tgt := 84) hG (pc := 51) d77_51 rfl h (fun h => (am_lvw (lv2 := [(0, .inr (.inr (4, l0))), (2, .inr (.inr (2, l2))), (3, .inl l3)]) [0, 1, 2] rfl (hX (l3, l4, μ) (Option.some.inj h).symm))) (fun h => (am_c_iload hG (pc := 54) d77_54 rfl (am_c_bipush hG (pc := 56) d77_56 (by decide) (x_icmp_ge (tgt := 84) hG (pc := 58) d77_58 rfl h (fun h => (am_lvw (lv2 := [(0, .inr (.inr (4, l0))), (2, .inr (.inr (2, l2))), (3, .inl l3)]) [0, 1, 2] rfl (hX (l3, l4, μ) (Option.some.inj h).symm))) (fun h => (am_c_aload_n hG (pc := 61) d77_61 rfl (x_get_n (v := .inl (μ l0 4)) hG (pc := 62) d77_62 mo77 f4_53 rfl (am_c_aload_n hG (pc := 65) d77_65 rfl (x_get_n (v := .inl (μ l0 3)) hG (pc := 66) d77_66 mo77 f4_38 rfl (x_icmp_ge (tgt := 84) hG (pc := 69) d77_69 rfl h (fun h => (am_lvw (lv2 := [(0, .inr (.inr (4, l0))), (2, .inr (.inr (2, l2))), (3, .inl l3)]) [0, 1, 2] rfl (hX (l3, l4, μ) (Option.some.inj h).symm))) (fun h => (am_c_aload_n hG (pc := 72) d77_72 rfl (am_c_aload_n hG (pc := 73) d77_73 rfl (x_virtual_i (t := 4) (o := l0) (as2 := [.inr (.inr (2, l2))]) (rest := []) hG (pc := 74) d77_74 mo77 m4_56 (by decide) dp77_73 rfl rfl (Nat.le_of_ble_eq_true rfl) (Nat.le_of_ble_eq_true rfl) rg73 sd73 (e73 _ _ _) h (fun z3 h => (x_istore_n (lv' := [(3, .inl z3.1), (0, .inr (.inr (4, l0))), (2, .inr (.inr (2, l2))), (4, .inl l4)]) hG (pc := 77) d77_77 (ml77 _ (by decide)) rfl (x_iinc (lv' := [(4, .inl (w32 (l4 + 1))), (3, .inl z3.1), (0, .inr (.inr (4, l0))), (2, .inr (.inr (2, l2)))]) hG (pc := 78) d77_78 rfl (ml77 _ (by decide)) rfl (x_goto (tgt := 50) hG (pc := 81) d77_81 rfl (am_lvw (lv2 := [(0, .inr (.inr (4, l0))), (2, .inr (.inr (2, l2))), (3, .inl z3.1), (4, .inl (w32 (l4 + 1)))]) [2, 3, 1, 0] rfl (ih _ _ _ _ h hI hX))))))))))))))))))))))
def L77_87 (l0 : Nat) (l2 : Nat) : Nat → Int → Int → am_M → Option ((Int × am_M) ⊕ (Int × Int × am_M))
  | 0, _, _, _ => none
  | n + 1, l3, l4, μ => (if l3 = 0 then (some (.inr (l3, l4, μ))) else (if l4 < μ l0 9 then (if l4 < ((am_len (am_ref l0 2) : Nat) : Int) then (if (0 : Int) ≤ l4 ∧ l4 < ((am_len (am_ref l0 2) : Nat) : Int) then (am_op (fn75 (am_ref (am_ref l0 2) (l4 : Int).toNat) l2 μ) (fun z4 => (L77_87 l0 l2 n z4.1 (w32 (l4 + 1)) z4.2))) else none) else (some (.inr (l3, l4, μ)))) else (some (.inr (l3, l4, μ)))))
theorem w77_87 {X : am_K} {C : am_C} {Q : State → Prop} (hG : am_G X C 77 0 0 (0, fun _ => 0)) (hr : match X with | (_, _, _, _, _, _, _, _, meth, _) => meth.sig.returnType = am_mr 77 ∧ meth.locks = false) (l0 : Nat) (l2 : Nat) : ∀ (n : Nat) (l3 : Int) (l4 : Int) (μ : am_M) (r : (Int × am_M) ⊕ (Int × Int × am_M)), L77_87 l0 l2 n l3 l4 μ = some r → (∀ q, r = .inl q → Q = am_E X C 77 q.1 q.2) → (∀ t, r = .inr t → am_W X C 77 Q 0 0 128 [(0, .inr (.inr (4, l0))), (3, .inl t.1)] [] t.2.2) → am_W X C 77 Q 0 0 87 [(0, .inr (.inr (4, l0))), (2, .inr (.inr (2, l2))), (3, .inl l3), (4, .inl l4)] [] μ := by
  intro n
  induction n with
  | zero => intro l3 l4 μ r h; cases h
  | succ n ih =>
    intro l3 l4 μ r h hI hX
    unfold L77_87 at h
    exact (am_c_iload_n hG (pc := 87) d77_87 rfl (x_if_eq (tgt := 128) hG (pc := 88) d77_88 rfl h (fun h => (am_lvw (lv2 := [(0, .inr (.inr (4, l0))), (3, .inl l3)]) [0, 2] rfl (hX (l3, l4, μ) (Option.some.inj h).symm))) (fun h => (am_c_iload hG (pc := 91) d77_91 rfl (am_c_aload_n hG (pc := 93) d77_93 rfl (x_get_n (v := .inl (μ l0 9)) hG (pc := 94) d77_94 mo77 f4_59 rfl (x_icmp_ge (tgt := 128) hG (pc := 97) d77_97 rfl h (fun h => (am_lvw (lv2 := [(0, .inr (.inr (4, l0))), (3, .inl l3)]) [0, 2] rfl (hX (l3, l4, μ) (Option.some.inj h).symm))) (fun h => (am_c_iload hG (pc := 100) d77_100 rfl (am_c_aload_n hG (pc := 102) d77_102 rfl (x_get_n (v := .inr (.inr (22, am_ref l0 2))) hG (pc := 103) d77_103 mo77 f4_26 rfl (am_c_len hG (pc := 106) d77_106 (by decide) (x_icmp_ge (tgt := 128) hG (pc := 107) d77_107 rfl h (fun h => (am_lvw (lv2 := [(0, .inr (.inr (4, l0))), (3, .inl l3)]) [0, 2] rfl (hX (l3, l4, μ) (Option.some.inj h).symm))) (fun h => (am_c_aload_n hG (pc := 110) d77_110 rfl (x_get_n (v := .inr (.inr (22, am_ref l0 2))) hG (pc := 111) d77_111 mo77 f4_26 rfl (am_c_iload hG (pc := 114) d77_114 rfl (x_aaload_C hG (pc := 116) d77_116 h (fun h => (am_c_aload_n hG (pc := 117) d77_117 rfl (x_virtual_i (t := 5) (o := am_ref (am_ref l0 2) (l4 : Int).toNat) (as2 := [.inr (.inr (2, l2))]) (rest := []) hG (pc := 118) d77_118 mo77 m4_62 (by decide) dp77_75 rfl rfl (Nat.le_of_ble_eq_true rfl) (Nat.le_of_ble_eq_true rfl) rg75 sd75 (e75 _ _ _) h (fun z4 h => (x_istore_n (lv' := [(3, .inl z4.1), (0, .inr (.inr (4, l0))), (2, .inr (.inr (2, l2))), (4, .inl l4)]) hG (pc := 121) d77_121 (ml77 _ (by decide)) rfl (x_iinc (lv' := [(4, .inl (w32 (l4 + 1))), (3, .inl z4.1), (0, .inr (.inr (4, l0))), (2, .inr (.inr (2, l2)))]) hG (pc := 122) d77_122 rfl (ml77 _ (by decide)) rfl (x_goto (tgt := 87) hG (pc := 125) d77_125 rfl (am_lvw (lv2 := [(0, .inr (.inr (4, l0))), (2, .inr (.inr (2, l2))), (3, .inl z4.1), (4, .inl (w32 (l4 + 1)))]) [2, 3, 1, 0] rfl (ih _ _ _ _ h hI hX)))))))))))))))))))))))))))
def fn77 (o : Nat) (a : Nat) (b : Nat) (μ : am_M) : Option (Int × am_M) := (am_op (fn49 o μ) (fun z1 => (am_op (fn52 o a z1.2) (fun z2 => (if 20 < z2.2 o 3 then (am_op (L77_50 o b am_fuel 0 0 z2.2) (fun s => am_lp s (fun q1 => some q1) (fun t1 => (am_op (L77_87 o b am_fuel t1.1 0 t1.2.2) (fun s => am_lp s (fun q2 => some q2) (fun t2 => (if t2.1 = 0 then some (0, t2.2.2) else (am_op (fn76 o t2.2.2) (fun z5 => (if z5.1 = 0 then some (0, z5.2) else some (1, z5.2))))))))))) else (am_op (fn61 o z2.2) (fun z6 => (if z6.1 = 0 then (am_op (L77_50 o b am_fuel 0 0 z6.2) (fun s => am_lp s (fun q3 => some q3) (fun t3 => (am_op (L77_87 o b am_fuel t3.1 0 t3.2.2) (fun s => am_lp s (fun q4 => some q4) (fun t4 => (if t4.1 = 0 then some (0, t4.2.2) else (am_op (fn76 o t4.2.2) (fun z7 => (if z7.1 = 0 then some (0, z7.2) else some (1, z7.2))))))))))) else (am_op (fn64 o b z6.2) (fun z8 => (if z8.1 = 0 then (am_op (L77_50 o b am_fuel 0 0 z8.2) (fun s => am_lp s (fun q5 => some q5) (fun t5 => (am_op (L77_87 o b am_fuel t5.1 0 t5.2.2) (fun s => am_lp s (fun q6 => some q6) (fun t6 => (if t6.1 = 0 then some (0, t6.2.2) else (am_op (fn76 o t6.2.2) (fun z9 => (if z9.1 = 0 then some (0, z9.2) else some (1, z9.2))))))))))) else (am_op (fn66 o b z8.2) (fun z10 => (if z10.1 = 0 then (am_op (L77_50 o b am_fuel 0 0 z10.2) (fun s => am_lp s (fun q7 => some q7) (fun t7 => (am_op (L77_87 o b am_fuel t7.1 0 t7.2.2) (fun s => am_lp s (fun q8 => some q8) (fun t8 => (if t8.1 = 0 then some (0, t8.2.2) else (am_op (fn76 o t8.2.2) (fun z11 => (if z11.1 = 0 then some (0, z11.2) else some (1, z11.2))))))))))) else (am_op (L77_50 o b am_fuel 1 0 z10.2) (fun s => am_lp s (fun q9 => some q9) (fun t9 => (am_op (L77_87 o b am_fuel t9.1 0 t9.2.2) (fun s => am_lp s (fun q10 => some q10) (fun t10 => (if t10.1 = 0 then some (0, t10.2.2) else (am_op (fn76 o t10.2.2) (fun z12 => (if z12.1 = 0 then some (0, z12.2) else some (1, z12.2)))))))))))))))))))))))))
def sp77 : am_F := fun vs μ => am_aR 4 vs fun o vs => am_aR 1 vs fun a vs => am_aR 2 vs fun b vs => am_a0 vs (fn77 o a b μ)
theorem e77 (o : Nat) (a : Nat) (b : Nat) (μ : am_M) : sp77 [.inr (.inr (4, o)), .inr (.inr (1, a)), .inr (.inr (2, b))] μ = fn77 o a b μ := am_aR_c.trans (am_aR_c.trans (am_aR_c.trans am_a0_c))
theorem sd77 : am_Sd 77 sp77 := by
  refine am_Sd_of (by decide) (fun vs μ μ' x h hv hM => ?_)
  obtain ⟨o, vs0, rfl, h0⟩ := am_aR_s h
  obtain ⟨a, vs1, rfl, h1⟩ := am_aR_s h0
  obtain ⟨b, vs2, rfl, h2⟩ := am_aR_s h1
  obtain ⟨rfl, hz⟩ := am_a0_s h2
  refine ⟨Nat.le_of_ble_eq_true rfl, fun X C hG hr => ?_⟩
  have h := hz
  unfold fn77 at h
  exact (show am_W X C 77 _ 0 0 0 [(0, .inr (.inr (4, o))), (1, .inr (.inr (1, a))), (2, .inr (.inr (2, b)))] [] μ from (am_c_aload_n hG (pc := 0) d77_0 rfl (x_virtual_v (t := 4) (o := o) (as2 := []) (rest := []) hG (pc := 1) d77_1 mo77 m4_31 (by decide) dp77_49 rfl rfl (Nat.le_of_ble_eq_true rfl) (Nat.le_of_ble_eq_true rfl) rg49 sd49 (e49 _ _) h (fun z1 h => (am_c_aload_n hG (pc := 4) d77_4 rfl (am_c_aload_n hG (pc := 5) d77_5 rfl (x_virtual_v (t := 4) (o := o) (as2 := [.inr (.inr (1, a))]) (rest := []) hG (pc := 6) d77_6 mo77 m4_34 (by decide) dp77_52 rfl rfl (Nat.le_of_ble_eq_true rfl) (Nat.le_of_ble_eq_true rfl) rg52 sd52 (e52 _ _ _) h (fun z2 h => (am_c_aload_n hG (pc := 9) d77_9 rfl (x_get_n (v := .inl (z2.2 o 3)) hG (pc := 10) d77_10 mo77 f4_38 rfl (am_c_bipush hG (pc := 13) d77_13 (by decide) (x_icmp_gt (tgt := 45) hG (pc := 15) d77_15 rfl h (fun h => (am_c_iconst hG (pc := 45) d77_45 (by decide) (x_istore_n (lv' := [(3, .inl 0), (0, .inr (.inr (4, o))), (1, .inr (.inr (1, a))), (2, .inr (.inr (2, b)))]) hG (pc := 46) d77_46 (ml77 _ (by decide)) rfl (am_c_iconst hG (pc := 47) d77_47 (by decide) (x_istore (lv' := [(4, .inl 0), (3, .inl 0), (0, .inr (.inr (4, o))), (1, .inr (.inr (1, a))), (2, .inr (.inr (2, b)))]) hG (pc := 48) d77_48 (ml77 _ (by decide)) rfl (x_lp h (fun r h1 h2 => (am_lvw (lv2 := [(0, .inr (.inr (4, o))), (2, .inr (.inr (2, b))), (3, .inl 0), (4, .inl 0)]) [2, 4, 1, 0] rfl (w77_50 hG hr _ _ _ _ _ _ _ h1 (fun q1 e => am_q1 e h2 (fun h => am_q0 h)) (fun t1 e => am_q2 e h2 (fun h => (am_c_iconst hG (pc := 84) d77_84 (by decide) (x_istore (lv' := [(4, .inl 0), (0, .inr (.inr (4, o))), (2, .inr (.inr (2, b))), (3, .inl t1.1)]) hG (pc := 85) d77_85 (ml77 _ (by decide)) rfl (x_lp h (fun r h1 h2 => (am_lvw (lv2 := [(0, .inr (.inr (4, o))), (2, .inr (.inr (2, b))), (3, .inl t1.1), (4, .inl 0)]) [1, 2, 3, 0] rfl (w77_87 hG hr _ _ _ _ _ _ _ h1 (fun q2 e => am_q1 e h2 (fun h => am_q0 h)) (fun t2 e => am_q2 e h2 (fun h => (am_c_iload_n hG (pc := 128) d77_128 rfl (x_if_eq (tgt := 143) hG (pc := 129) d77_129 rfl h (fun h => (am_c_iconst hG (pc := 143) d77_143 (by decide) (xq_zret0 hG (by decide) hr (pc := 144) d77_144 mr77 (am_q0 h)))) (fun h => (am_c_aload_n hG (pc := 132) d77_132 rfl (x_virtual_i (t := 4) (o := o) (as2 := []) (rest := []) hG (pc := 133) d77_133 mo77 m4_65 (by decide) dp77_76 rfl rfl (Nat.le_of_ble_eq_true rfl) (Nat.le_of_ble_eq_true rfl) rg76 sd76 (e76 _ _) h (fun z5 h => (x_if_eq (tgt := 143) hG (pc := 136) d77_136 rfl h (fun h => (am_c_iconst hG (pc := 143) d77_143 (by decide) (xq_zret0 hG (by decide) hr (pc := 144) d77_144 mr77 (am_q0 h)))) (fun h => (am_c_iconst hG (pc := 139) d77_139 (by decide) (x_goto (tgt := 144) hG (pc := 140) d77_140 rfl (xq_zret1 hG (by decide) hr (pc := 144) d77_144 mr77 (am_q0 h))))))))))))))))))))))))))))))) (fun h => (am_c_aload_n hG (pc := 18) d77_18 rfl (x_virtual_i (t := 4) (o := o) (as2 := []) (rest := []) hG (pc := 19) d77_19 mo77 m4_42 (by decide) dp77_61 rfl rfl (Nat.le_of_ble_eq_true rfl) (Nat.le_of_ble_eq_true rfl) rg61 sd61 (e61 _ _) h (fun z6 h => (x_if_eq (tgt := 45) hG (pc := 22) d77_22 rfl h (fun h => (am_c_iconst hG (pc := 45) d77_45 (by decide) (x_istore_n (lv' := [(3, .inl 0), (0, .inr (.inr (4, o))), (1, .inr (.inr (1, a))), (2, .inr (.inr (2, b)))]) hG (pc := 46) d77_46 (ml77 _ (by decide)) rfl (am_c_iconst hG (pc := 47) d77_47 (by decide) (x_istore (lv' := [(4, .inl 0), (3, .inl 0), (0, .inr (.inr (4, o))), (1, .inr (.inr (1, a))), (2, .inr (.inr (2, b)))]) hG (pc := 48) d77_48 (ml77 _ (by decide)) rfl (x_lp h (fun r h1 h2 => (am_lvw (lv2 := [(0, .inr (.inr (4, o))), (2, .inr (.inr (2, b))), (3, .inl 0), (4, .inl 0)]) [2, 4, 1, 0] rfl (w77_50 hG hr _ _ _ _ _ _ _ h1 (fun q3 e => am_q1 e h2 (fun h => am_q0 h)) (fun t3 e => am_q2 e h2 (fun h => (am_c_iconst hG (pc := 84) d77_84 (by decide) (x_istore (lv' := [(4, .inl 0), (0, .inr (.inr (4, o))), (2, .inr (.inr (2, b))), (3, .inl t3.1)]) hG (pc := 85) d77_85 (ml77 _ (by decide)) rfl (x_lp h (fun r h1 h2 => (am_lvw (lv2 := [(0, .inr (.inr (4, o))), (2, .inr (.inr (2, b))), (3, .inl t3.1), (4, .inl 0)]) [1, 2, 3, 0] rfl (w77_87 hG hr _ _ _ _ _ _ _ h1 (fun q4 e => am_q1 e h2 (fun h => am_q0 h)) (fun t4 e => am_q2 e h2 (fun h => (am_c_iload_n hG (pc := 128) d77_128 rfl (x_if_eq (tgt := 143) hG (pc := 129) d77_129 rfl h (fun h => (am_c_iconst hG (pc := 143) d77_143 (by decide) (xq_zret0 hG (by decide) hr (pc := 144) d77_144 mr77 (am_q0 h)))) (fun h => (am_c_aload_n hG (pc := 132) d77_132 rfl (x_virtual_i (t := 4) (o := o) (as2 := []) (rest := []) hG (pc := 133) d77_133 mo77 m4_65 (by decide) dp77_76 rfl rfl (Nat.le_of_ble_eq_true rfl) (Nat.le_of_ble_eq_true rfl) rg76 sd76 (e76 _ _) h (fun z7 h => (x_if_eq (tgt := 143) hG (pc := 136) d77_136 rfl h (fun h => (am_c_iconst hG (pc := 143) d77_143 (by decide) (xq_zret0 hG (by decide) hr (pc := 144) d77_144 mr77 (am_q0 h)))) (fun h => (am_c_iconst hG (pc := 139) d77_139 (by decide) (x_goto (tgt := 144) hG (pc := 140) d77_140 rfl (xq_zret1 hG (by decide) hr (pc := 144) d77_144 mr77 (am_q0 h))))))))))))))))))))))))))))))) (fun h => (am_c_aload_n hG (pc := 25) d77_25 rfl (am_c_aload_n hG (pc := 26) d77_26 rfl (x_virtual_i (t := 4) (o := o) (as2 := [.inr (.inr (2, b))]) (rest := []) hG (pc := 27) d77_27 mo77 m4_46 (by decide) dp77_64 rfl rfl (Nat.le_of_ble_eq_true rfl) (Nat.le_of_ble_eq_true rfl) rg64 sd64 (e64 _ _ _) h (fun z8 h => (x_if_eq (tgt := 45) hG (pc := 30) d77_30 rfl h (fun h => (am_c_iconst hG (pc := 45) d77_45 (by decide) (x_istore_n (lv' := [(3, .inl 0), (0, .inr (.inr (4, o))), (1, .inr (.inr (1, a))), (2, .inr (.inr (2, b)))]) hG (pc := 46) d77_46 (ml77 _ (by decide)) rfl (am_c_iconst hG (pc := 47) d77_47 (by decide) (x_istore (lv' := [(4, .inl 0), (3, .inl 0), (0, .inr (.inr (4, o))), (1, .inr (.inr (1, a))), (2, .inr (.inr (2, b)))]) hG (pc := 48) d77_48 (ml77 _ (by decide)) rfl (x_lp h (fun r h1 h2 => (am_lvw (lv2 := [(0, .inr (.inr (4, o))), (2, .inr (.inr (2, b))), (3, .inl 0), (4, .inl 0)]) [2, 4, 1, 0] rfl (w77_50 hG hr _ _ _ _ _ _ _ h1 (fun q5 e => am_q1 e h2 (fun h => am_q0 h)) (fun t5 e => am_q2 e h2 (fun h => (am_c_iconst hG (pc := 84) d77_84 (by decide) (x_istore (lv' := [(4, .inl 0), (0, .inr (.inr (4, o))), (2, .inr (.inr (2, b))), (3, .inl t5.1)]) hG (pc := 85) d77_85 (ml77 _ (by decide)) rfl (x_lp h (fun r h1 h2 => (am_lvw (lv2 := [(0, .inr (.inr (4, o))), (2, .inr (.inr (2, b))), (3, .inl t5.1), (4, .inl 0)]) [1, 2, 3, 0] rfl (w77_87 hG hr _ _ _ _ _ _ _ h1 (fun q6 e => am_q1 e h2 (fun h => am_q0 h)) (fun t6 e => am_q2 e h2 (fun h => (am_c_iload_n hG (pc := 128) d77_128 rfl (x_if_eq (tgt := 143) hG (pc := 129) d77_129 rfl h (fun h => (am_c_iconst hG (pc := 143) d77_143 (by decide) (xq_zret0 hG (by decide) hr (pc := 144) d77_144 mr77 (am_q0 h)))) (fun h => (am_c_aload_n hG (pc := 132) d77_132 rfl (x_virtual_i (t := 4) (o := o) (as2 := []) (rest := []) hG (pc := 133) d77_133 mo77 m4_65 (by decide) dp77_76 rfl rfl (Nat.le_of_ble_eq_true rfl) (Nat.le_of_ble_eq_true rfl) rg76 sd76 (e76 _ _) h (fun z9 h => (x_if_eq (tgt := 143) hG (pc := 136) d77_136 rfl h (fun h => (am_c_iconst hG (pc := 143) d77_143 (by decide) (xq_zret0 hG (by decide) hr (pc := 144) d77_144 mr77 (am_q0 h)))) (fun h => (am_c_iconst hG (pc := 139) d77_139 (by decide) (x_goto (tgt := 144) hG (pc := 140) d77_140 rfl (xq_zret1 hG (by decide) hr (pc := 144) d77_144 mr77 (am_q0 h))))))))))))))))))))))))))))))) (fun h => (am_c_aload_n hG (pc := 33) d77_33 rfl (am_c_aload_n hG (pc := 34) d77_34 rfl (x_virtual_i (t := 4) (o := o) (as2 := [.inr (.inr (2, b))]) (rest := []) hG (pc := 35) d77_35 mo77 m4_50 (by decide) dp77_66 rfl rfl (Nat.le_of_ble_eq_true rfl) (Nat.le_of_ble_eq_true rfl) rg66 sd66 (e66 _ _ _) h (fun z10 h => (x_if_eq (tgt := 45) hG (pc := 38) d77_38 rfl h (fun h => (am_c_iconst hG (pc := 45) d77_45 (by decide) (x_istore_n (lv' := [(3, .inl 0), (0, .inr (.inr (4, o))), (1, .inr (.inr (1, a))), (2, .inr (.inr (2, b)))]) hG (pc := 46) d77_46 (ml77 _ (by decide)) rfl (am_c_iconst hG (pc := 47) d77_47 (by decide) (x_istore (lv' := [(4, .inl 0), (3, .inl 0), (0, .inr (.inr (4, o))), (1, .inr (.inr (1, a))), (2, .inr (.inr (2, b)))]) hG (pc := 48) d77_48 (ml77 _ (by decide)) rfl (x_lp h (fun r h1 h2 => (am_lvw (lv2 := [(0, .inr (.inr (4, o))), (2, .inr (.inr (2, b))), (3, .inl 0), (4, .inl 0)]) [2, 4, 1, 0] rfl (w77_50 hG hr _ _ _ _ _ _ _ h1 (fun q7 e => am_q1 e h2 (fun h => am_q0 h)) (fun t7 e => am_q2 e h2 (fun h => (am_c_iconst hG (pc := 84) d77_84 (by decide) (x_istore (lv' := [(4, .inl 0), (0, .inr (.inr (4, o))), (2, .inr (.inr (2, b))), (3, .inl t7.1)]) hG (pc := 85) d77_85 (ml77 _ (by decide)) rfl (x_lp h (fun r h1 h2 => (am_lvw (lv2 := [(0, .inr (.inr (4, o))), (2, .inr (.inr (2, b))), (3, .inl t7.1), (4, .inl 0)]) [1, 2, 3, 0] rfl (w77_87 hG hr _ _ _ _ _ _ _ h1 (fun q8 e => am_q1 e h2 (fun h => am_q0 h)) (fun t8 e => am_q2 e h2 (fun h => (am_c_iload_n hG (pc := 128) d77_128 rfl (x_if_eq (tgt := 143) hG (pc := 129) d77_129 rfl h (fun h => (am_c_iconst hG (pc := 143) d77_143 (by decide) (xq_zret0 hG (by decide) hr (pc := 144) d77_144 mr77 (am_q0 h)))) (fun h => (am_c_aload_n hG (pc := 132) d77_132 rfl (x_virtual_i (t := 4) (o := o) (as2 := []) (rest := []) hG (pc := 133) d77_133 mo77 m4_65 (by decide) dp77_76 rfl rfl (Nat.le_of_ble_eq_true rfl) (Nat.le_of_ble_eq_true rfl) rg76 sd76 (e76 _ _) h (fun z11 h => (x_if_eq (tgt := 143) hG (pc := 136) d77_136 rfl h (fun h => (am_c_iconst hG (pc := 143) d77_143 (by decide) (xq_zret0 hG (by decide) hr (pc := 144) d77_144 mr77 (am_q0 h)))) (fun h => (am_c_iconst hG (pc := 139) d77_139 (by decide) (x_goto (tgt := 144) hG (pc := 140) d77_140 rfl (xq_zret1 hG (by decide) hr (pc := 144) d77_144 mr77 (am_q0 h))))))))))))))))))))))))))))))) (fun h => (am_c_iconst hG (pc := 41) d77_41 (by decide) (x_goto (tgt := 46) hG (pc := 42) d77_42 rfl (x_istore_n (lv' := [(3, .inl 1), (0, .inr (.inr (4, o))), (1, .inr (.inr (1, a))), (2, .inr (.inr (2, b)))]) hG (pc := 46) d77_46 (ml77 _ (by decide)) rfl (am_c_iconst hG (pc := 47) d77_47 (by decide) (x_istore (lv' := [(4, .inl 0), (3, .inl 1), (0, .inr (.inr (4, o))), (1, .inr (.inr (1, a))), (2, .inr (.inr (2, b)))]) hG (pc := 48) d77_48 (ml77 _ (by decide)) rfl (x_lp h (fun r h1 h2 => (am_lvw (lv2 := [(0, .inr (.inr (4, o))), (2, .inr (.inr (2, b))), (3, .inl 1), (4, .inl 0)]) [2, 4, 1, 0] rfl (w77_50 hG hr _ _ _ _ _ _ _ h1 (fun q9 e => am_q1 e h2 (fun h => am_q0 h)) (fun t9 e => am_q2 e h2 (fun h => (am_c_iconst hG (pc := 84) d77_84 (by decide) (x_istore (lv' := [(4, .inl 0), (0, .inr (.inr (4, o))), (2, .inr (.inr (2, b))), (3, .inl t9.1)]) hG (pc := 85) d77_85 (ml77 _ (by decide)) rfl (x_lp h (fun r h1 h2 => (am_lvw (lv2 := [(0, .inr (.inr (4, o))), (2, .inr (.inr (2, b))), (3, .inl t9.1), (4, .inl 0)]) [1, 2, 3, 0] rfl (w77_87 hG hr _ _ _ _ _ _ _ h1 (fun q10 e => am_q1 e h2 (fun h => am_q0 h)) (fun t10 e => am_q2 e h2 (fun h => (am_c_iload_n hG (pc := 128) d77_128 rfl (x_if_eq (tgt := 143) hG (pc := 129) d77_129 rfl h (fun h => (am_c_iconst hG (pc := 143) d77_143 (by decide) (xq_zret0 hG (by decide) hr (pc := 144) d77_144 mr77 (am_q0 h)))) (fun h => (am_c_aload_n hG (pc := 132) d77_132 rfl (x_virtual_i (t := 4) (o := o) (as2 := []) (rest := []) hG (pc := 133) d77_133 mo77 m4_65 (by decide) dp77_76 rfl rfl (Nat.le_of_ble_eq_true rfl) (Nat.le_of_ble_eq_true rfl) rg76 sd76 (e76 _ _) h (fun z12 h => (x_if_eq (tgt := 143) hG (pc := 136) d77_136 rfl h (fun h => (am_c_iconst hG (pc := 143) d77_143 (by decide) (xq_zret0 hG (by decide) hr (pc := 144) d77_144 mr77 (am_q0 h)))) (fun h => (am_c_iconst hG (pc := 139) d77_139 (by decide) (x_goto (tgt := 144) hG (pc := 140) d77_140 rfl (xq_zret1 hG (by decide) hr (pc := 144) d77_144 mr77 (am_q0 h)))))))))))))))))))))))))))))))))))))))))))))))))))))))))))))
/-! java/lang/Math.min(II)I -/
theorem D78 (k : Nat) {pc : Nat} {i : Instr} (h : tbi78[k]? = some (pc, i)) (hs : am_isw i = false) {n : Nat} (hn : am_il i = n) : decode (am_mc 78) pc = .ok (i, n) := am_d2 (by decide) (by decide) rfl h hs hn
theorem d78_0 : decode (am_mc 78) 0 = .ok (.iload_n 0, 1) := D78 0 rfl rfl rfl
theorem d78_1 : decode (am_mc 78) 1 = .ok (.iload_n 1, 1) := D78 1 rfl rfl rfl
theorem d78_2 : decode (am_mc 78) 2 = .ok (.if_icmp .gt 7, 3) := D78 2 rfl rfl rfl
theorem d78_5 : decode (am_mc 78) 5 = .ok (.iload_n 0, 1) := D78 3 rfl rfl rfl
theorem d78_6 : decode (am_mc 78) 6 = .ok (.goto 4, 3) := D78 4 rfl rfl rfl
theorem d78_9 : decode (am_mc 78) 9 = .ok (.iload_n 1, 1) := D78 5 rfl rfl rfl
theorem d78_10 : decode (am_mc 78) 10 = .ok (.ireturn, 1) := D78 6 rfl rfl rfl
theorem ml78 : ∀ n, n < 2 → n < am_ml 78 := fun _ h => h
theorem mo78 : am_mo 78 = 13 := by decide +kernel
theorem mr78 : am_mr 78 = some .int := by decide +kernel
theorem rg78 : am_rcg 78 = 0 := by decide +kernel
def fn78 (a : Int) (b : Int) (μ : am_M) : Option (Int × am_M) := (if b < a then some (b, μ) else some (a, μ))
def sp78 : am_F := fun vs μ => am_aI vs fun a vs => am_aI vs fun b vs => am_a0 vs (fn78 a b μ)
theorem e78 (a : Int) (b : Int) (μ : am_M) : sp78 [.inl a, .inl b] μ = fn78 a b μ := am_aI_c.trans (am_aI_c.trans am_a0_c)
theorem sd78 : am_Sd 78 sp78 := by
  refine am_Sd_of (by decide) (fun vs μ μ' x h hv hM => ?_)
  obtain ⟨a, vs0, rfl, h0⟩ := am_aI_s h
  obtain ⟨b, vs1, rfl, h1⟩ := am_aI_s h0
  obtain ⟨rfl, hz⟩ := am_a0_s h1
  refine ⟨Nat.le_of_ble_eq_true rfl, fun X C hG hr => ?_⟩
  have h := hz
  unfold fn78 at h
  exact (show am_W X C 78 _ 0 0 0 [(0, .inl a), (1, .inl b)] [] μ from (am_c_iload_n hG (pc := 0) d78_0 rfl (am_c_iload_n hG (pc := 1) d78_1 rfl (x_icmp_gt (tgt := 9) hG (pc := 2) d78_2 rfl h (fun h => (am_c_iload_n hG (pc := 9) d78_9 rfl (xq_iret hG (by decide) hr (pc := 10) d78_10 mr78 (am_q0 h)))) (fun h => (am_c_iload_n hG (pc := 5) d78_5 rfl (x_goto (tgt := 10) hG (pc := 6) d78_6 rfl (xq_iret hG (by decide) hr (pc := 10) d78_10 mr78 (am_q0 h)))))))))
/-! ChartPress$Table.isMissing(II)Z -/
theorem D79 (k : Nat) {pc : Nat} {i : Instr} (h : tbi79[k]? = some (pc, i)) (hs : am_isw i = false) {n : Nat} (hn : am_il i = n) : decode (am_mc 79) pc = .ok (i, n) := am_d2 (by decide) (by decide) rfl h hs hn
theorem d79_0 : decode (am_mc 79) 0 = .ok (.aload_n 0, 1) := D79 0 rfl rfl rfl
theorem d79_1 : decode (am_mc 79) 1 = .ok (.iload_n 1, 1) := D79 1 rfl rfl rfl
theorem d79_2 : decode (am_mc 79) 2 = .ok (.iload_n 2, 1) := D79 2 rfl rfl rfl
theorem d79_3 : decode (am_mc 79) 3 = .ok (.invokevirtual 116, 3) := D79 3 rfl rfl rfl
theorem d79_6 : decode (am_mc 79) 6 = .ok (.invokevirtual 120, 3) := D79 4 rfl rfl rfl
theorem d79_9 : decode (am_mc 79) 9 = .ok (.ireturn, 1) := D79 5 rfl rfl rfl
theorem ml79 : ∀ n, n < 3 → n < am_ml 79 := fun _ h => h
theorem mo79 : am_mo 79 = 2 := by decide +kernel
theorem mr79 : am_mr 79 = some .boolean := by decide +kernel
theorem rg79 : am_rcg 79 = 3 := by decide +kernel
theorem dp79_28 : am_md 28 + 1 ≤ am_md 79 ∧ 8 + (am_ml 28 + 11) + am_lr 28 ≤ am_lr 79 := by decide +kernel
theorem dp79_29 : am_md 29 + 1 ≤ am_md 79 ∧ 8 + (am_ml 29 + 11) + am_lr 29 ≤ am_lr 79 := by decide +kernel
def fn79 (o : Nat) (a : Int) (b : Int) (μ : am_M) : Option (Int × am_M) := (am_op (fn28 o a b μ) (fun z1 => (am_op (fn29 z1.1.toNat z1.2) (fun z2 => (if z2.1 = 0 ∨ z2.1 = 1 then some (z2.1, z2.2) else none)))))
def sp79 : am_F := fun vs μ => am_aR 2 vs fun o vs => am_aI vs fun a vs => am_aI vs fun b vs => am_a0 vs (fn79 o a b μ)
theorem e79 (o : Nat) (a : Int) (b : Int) (μ : am_M) : sp79 [.inr (.inr (2, o)), .inl a, .inl b] μ = fn79 o a b μ := am_aR_c.trans (am_aI_c.trans (am_aI_c.trans am_a0_c))
theorem sd79 : am_Sd 79 sp79 := by
  refine am_Sd_of (by decide) (fun vs μ μ' x h hv hM => ?_)
  obtain ⟨o, vs0, rfl, h0⟩ := am_aR_s h
  obtain ⟨a, vs1, rfl, h1⟩ := am_aI_s h0
  obtain ⟨b, vs2, rfl, h2⟩ := am_aI_s h1
  obtain ⟨rfl, hz⟩ := am_a0_s h2
  refine ⟨Nat.le_of_ble_eq_true rfl, fun X C hG hr => ?_⟩
  have h := hz
  unfold fn79 at h
  exact (show am_W X C 79 _ 0 0 0 [(0, .inr (.inr (2, o))), (1, .inl a), (2, .inl b)] [] μ from (am_c_aload_n hG (pc := 0) d79_0 rfl (am_c_iload_n hG (pc := 1) d79_1 rfl (am_c_iload_n hG (pc := 2) d79_2 rfl (x_virtual_r (t := 2) (o := o) (as2 := [.inl a, .inl b]) (rest := []) hG (pc := 3) d79_3 mo79 m2_116 (by decide) dp79_28 rfl rfl (Nat.le_of_ble_eq_true rfl) (Nat.le_of_ble_eq_true rfl) rg28 sd28 (e28 _ _ _ _) h (fun z1 h => (x_virtual_i (t := 3) (o := z1.1.toNat) (as2 := []) (rest := []) hG (pc := 6) d79_6 mo79 m2_120 (by decide) dp79_29 rfl rfl (Nat.le_of_ble_eq_true rfl) (Nat.le_of_ble_eq_true rfl) rg29 sd29 (e29 _ _) h (fun z2 h => (xq_zret hG (by decide) hr (pc := 9) d79_9 mr79 h (fun h => (am_q0 h)))))))))))
/-! ChartPress$Table.worth(II)J -/
theorem D80 (k : Nat) {pc : Nat} {i : Instr} (h : tbi80[k]? = some (pc, i)) (hs : am_isw i = false) {n : Nat} (hn : am_il i = n) : decode (am_mc 80) pc = .ok (i, n) := am_d2 (by decide) (by decide) rfl h hs hn
theorem d80_0 : decode (am_mc 80) 0 = .ok (.aload_n 0, 1) := D80 0 rfl rfl rfl
theorem d80_1 : decode (am_mc 80) 1 = .ok (.iload_n 1, 1) := D80 1 rfl rfl rfl
theorem d80_2 : decode (am_mc 80) 2 = .ok (.iload_n 2, 1) := D80 2 rfl rfl rfl
theorem d80_3 : decode (am_mc 80) 3 = .ok (.invokevirtual 130, 3) := D80 3 rfl rfl rfl
theorem d80_6 : decode (am_mc 80) 6 = .ok (.istore_n 3, 1) := D80 4 rfl rfl rfl
theorem d80_7 : decode (am_mc 80) 7 = .ok (.iload_n 3, 1) := D80 5 rfl rfl rfl
theorem d80_8 : decode (am_mc 80) 8 = .ok (.iconst (-1), 1) := D80 6 rfl rfl rfl
theorem d80_9 : decode (am_mc 80) 9 = .ok (.if_icmp .eq 12, 3) := D80 7 rfl rfl rfl
theorem d80_12 : decode (am_mc 80) 12 = .ok (.aload_n 0, 1) := D80 8 rfl rfl rfl
theorem d80_13 : decode (am_mc 80) 13 = .ok (.getfield 24, 3) := D80 9 rfl rfl rfl
theorem d80_16 : decode (am_mc 80) 16 = .ok (.iload_n 3, 1) := D80 10 rfl rfl rfl
theorem d80_17 : decode (am_mc 80) 17 = .ok (.laload, 1) := D80 11 rfl rfl rfl
theorem d80_18 : decode (am_mc 80) 18 = .ok (.goto 4, 3) := D80 12 rfl rfl rfl
theorem d80_21 : decode (am_mc 80) 21 = .ok (.lconst 0, 1) := D80 13 rfl rfl rfl
theorem d80_22 : decode (am_mc 80) 22 = .ok (.lreturn, 1) := D80 14 rfl rfl rfl
theorem ml80 : ∀ n, n < 4 → n < am_ml 80 := fun _ h => h
theorem mo80 : am_mo 80 = 2 := by decide +kernel
theorem rk80 : am_rk 80 = 2 := by decide +kernel
theorem rg80 : am_rcg 80 = 3 := by decide +kernel
theorem dp80_27 : am_md 27 + 1 ≤ am_md 80 ∧ 8 + (am_ml 27 + 11) + am_lr 27 ≤ am_lr 80 := by decide +kernel
def fn80 (o : Nat) (a : Int) (b : Int) (μ : am_M) : Option (Int × am_M) := (am_op (fn27 o a b μ) (fun z1 => (if z1.1 = (-1) then some (0, z1.2) else (if (0 : Int) ≤ z1.1 ∧ z1.1 < ((am_len (am_ref o 2) : Nat) : Int) then some (z1.2 (am_ref o 2) (z1.1 : Int).toNat, z1.2) else none))))
def sp80 : am_F := fun vs μ => am_aR 2 vs fun o vs => am_aI vs fun a vs => am_aI vs fun b vs => am_a0 vs (fn80 o a b μ)
theorem e80 (o : Nat) (a : Int) (b : Int) (μ : am_M) : sp80 [.inr (.inr (2, o)), .inl a, .inl b] μ = fn80 o a b μ := am_aR_c.trans (am_aI_c.trans (am_aI_c.trans am_a0_c))
theorem sd80 : am_Sd 80 sp80 := by
  refine am_Sd_of (by decide) (fun vs μ μ' x h hv hM => ?_)
  obtain ⟨o, vs0, rfl, h0⟩ := am_aR_s h
  obtain ⟨a, vs1, rfl, h1⟩ := am_aI_s h0
  obtain ⟨b, vs2, rfl, h2⟩ := am_aI_s h1
  obtain ⟨rfl, hz⟩ := am_a0_s h2
  refine ⟨Nat.le_of_ble_eq_true rfl, fun X C hG hr => ?_⟩
  have h := hz
  unfold fn80 at h
  exact (show am_W X C 80 _ 0 0 0 [(0, .inr (.inr (2, o))), (1, .inl a), (2, .inl b)] [] μ from (am_c_aload_n hG (pc := 0) d80_0 rfl (am_c_iload_n hG (pc := 1) d80_1 rfl (am_c_iload_n hG (pc := 2) d80_2 rfl (x_virtual_i (t := 2) (o := o) (as2 := [.inl a, .inl b]) (rest := []) hG (pc := 3) d80_3 mo80 m2_130 (by decide) dp80_27 rfl rfl (Nat.le_of_ble_eq_true rfl) (Nat.le_of_ble_eq_true rfl) rg27 sd27 (e27 _ _ _ _) h (fun z1 h => (x_istore_n (lv' := [(3, .inl z1.1), (0, .inr (.inr (2, o))), (1, .inl a), (2, .inl b)]) hG (pc := 6) d80_6 (ml80 _ (by decide)) rfl (am_c_iload_n hG (pc := 7) d80_7 rfl (am_c_iconst hG (pc := 8) d80_8 (by decide) (x_icmp_eq (tgt := 21) hG (pc := 9) d80_9 rfl h (fun h => (am_c_lconst hG (pc := 21) d80_21 (xq_lret hG (by decide) hr (pc := 22) d80_22 rk80 (am_q0 h)))) (fun h => (am_c_aload_n hG (pc := 12) d80_12 rfl (x_get_n (v := .inr (.inr (17, am_ref o 2))) hG (pc := 13) d80_13 mo80 f2_24 rfl (am_c_iload_n hG (pc := 16) d80_16 rfl (x_laload hG (pc := 17) d80_17 h (fun h => (x_goto (tgt := 22) hG (pc := 18) d80_18 rfl (xq_lret hG (by decide) hr (pc := 22) d80_22 rk80 (am_q0 h)))))))))))))))))))
/-! ChartPress$Condition.holds(LChartPress$Table;I)Z -/
theorem D81 (k : Nat) {pc : Nat} {i : Instr} (h : tbi81[k]? = some (pc, i)) (hs : am_isw i = false) {n : Nat} (hn : am_il i = n) : decode (am_mc 81) pc = .ok (i, n) := am_d2 (by decide) (by decide) rfl h hs hn
theorem d81_0 : decode (am_mc 81) 0 = .ok (.aload_n 1, 1) := D81 0 rfl rfl rfl
theorem d81_1 : decode (am_mc 81) 1 = .ok (.iload_n 2, 1) := D81 1 rfl rfl rfl
theorem d81_2 : decode (am_mc 81) 2 = .ok (.aload_n 0, 1) := D81 2 rfl rfl rfl
theorem d81_3 : decode (am_mc 81) 3 = .ok (.getfield 23, 3) := D81 3 rfl rfl rfl
theorem d81_6 : decode (am_mc 81) 6 = .ok (.invokevirtual 71, 3) := D81 4 rfl rfl rfl
theorem d81_9 : decode (am_mc 81) 9 = .ok (.ifCond .eq 5, 3) := D81 5 rfl rfl rfl
theorem d81_12 : decode (am_mc 81) 12 = .ok (.iconst 0, 1) := D81 6 rfl rfl rfl
theorem d81_13 : decode (am_mc 81) 13 = .ok (.ireturn, 1) := D81 7 rfl rfl rfl
theorem d81_14 : decode (am_mc 81) 14 = .ok (.aload_n 0, 1) := D81 8 rfl rfl rfl
theorem d81_15 : decode (am_mc 81) 15 = .ok (.getfield 37, 3) := D81 9 rfl rfl rfl
theorem d81_18 : decode (am_mc 81) 18 = .ok (.iconst 3, 1) := D81 10 rfl rfl rfl
theorem d81_19 : decode (am_mc 81) 19 = .ok (.if_icmp .ne 20, 3) := D81 11 rfl rfl rfl
theorem d81_22 : decode (am_mc 81) 22 = .ok (.aload_n 1, 1) := D81 12 rfl rfl rfl
theorem d81_23 : decode (am_mc 81) 23 = .ok (.iload_n 2, 1) := D81 13 rfl rfl rfl
theorem d81_24 : decode (am_mc 81) 24 = .ok (.aload_n 0, 1) := D81 14 rfl rfl rfl
theorem d81_25 : decode (am_mc 81) 25 = .ok (.getfield 23, 3) := D81 15 rfl rfl rfl
theorem d81_28 : decode (am_mc 81) 28 = .ok (.invokevirtual 74, 3) := D81 16 rfl rfl rfl
theorem d81_31 : decode (am_mc 81) 31 = .ok (.aload_n 0, 1) := D81 17 rfl rfl rfl
theorem d81_32 : decode (am_mc 81) 32 = .ok (.getfield 20, 3) := D81 18 rfl rfl rfl
theorem d81_35 : decode (am_mc 81) 35 = .ok (.invokevirtual 78, 3) := D81 19 rfl rfl rfl
theorem d81_38 : decode (am_mc 81) 38 = .ok (.ireturn, 1) := D81 20 rfl rfl rfl
theorem d81_39 : decode (am_mc 81) 39 = .ok (.aload_n 1, 1) := D81 21 rfl rfl rfl
theorem d81_40 : decode (am_mc 81) 40 = .ok (.iload_n 2, 1) := D81 22 rfl rfl rfl
theorem d81_41 : decode (am_mc 81) 41 = .ok (.aload_n 0, 1) := D81 23 rfl rfl rfl
theorem d81_42 : decode (am_mc 81) 42 = .ok (.getfield 23, 3) := D81 24 rfl rfl rfl
theorem d81_45 : decode (am_mc 81) 45 = .ok (.invokevirtual 82, 3) := D81 25 rfl rfl rfl
theorem d81_48 : decode (am_mc 81) 48 = .ok (.lstore_n 3, 1) := D81 26 rfl rfl rfl
theorem d81_49 : decode (am_mc 81) 49 = .ok (.aload_n 0, 1) := D81 27 rfl rfl rfl
theorem d81_50 : decode (am_mc 81) 50 = .ok (.getfield 14, 3) := D81 28 rfl rfl rfl
theorem d81_53 : decode (am_mc 81) 53 = .ok (.ldc 52, 2) := D81 29 rfl rfl rfl
theorem d81_55 : decode (am_mc 81) 55 = .ok (.invokevirtual 54, 3) := D81 30 rfl rfl rfl
theorem d81_58 : decode (am_mc 81) 58 = .ok (.ifCond .eq 18, 3) := D81 31 rfl rfl rfl
theorem d81_61 : decode (am_mc 81) 61 = .ok (.lload_n 3, 1) := D81 32 rfl rfl rfl
theorem d81_62 : decode (am_mc 81) 62 = .ok (.aload_n 0, 1) := D81 33 rfl rfl rfl
theorem d81_63 : decode (am_mc 81) 63 = .ok (.getfield 48, 3) := D81 34 rfl rfl rfl
theorem d81_66 : decode (am_mc 81) 66 = .ok (.lcmp, 1) := D81 35 rfl rfl rfl
theorem d81_67 : decode (am_mc 81) 67 = .ok (.ifCond .ne 7, 3) := D81 36 rfl rfl rfl
theorem d81_70 : decode (am_mc 81) 70 = .ok (.iconst 1, 1) := D81 37 rfl rfl rfl
theorem d81_71 : decode (am_mc 81) 71 = .ok (.goto 4, 3) := D81 38 rfl rfl rfl
theorem d81_74 : decode (am_mc 81) 74 = .ok (.iconst 0, 1) := D81 39 rfl rfl rfl
theorem d81_75 : decode (am_mc 81) 75 = .ok (.ireturn, 1) := D81 40 rfl rfl rfl
theorem d81_76 : decode (am_mc 81) 76 = .ok (.aload_n 0, 1) := D81 41 rfl rfl rfl
theorem d81_77 : decode (am_mc 81) 77 = .ok (.getfield 14, 3) := D81 42 rfl rfl rfl
theorem d81_80 : decode (am_mc 81) 80 = .ok (.ldc 58, 2) := D81 43 rfl rfl rfl
theorem d81_82 : decode (am_mc 81) 82 = .ok (.invokevirtual 54, 3) := D81 44 rfl rfl rfl
theorem d81_85 : decode (am_mc 81) 85 = .ok (.ifCond .eq 20, 3) := D81 45 rfl rfl rfl
theorem d81_88 : decode (am_mc 81) 88 = .ok (.lload_n 3, 1) := D81 46 rfl rfl rfl
theorem d81_89 : decode (am_mc 81) 89 = .ok (.aload_n 0, 1) := D81 47 rfl rfl rfl
theorem d81_90 : decode (am_mc 81) 90 = .ok (.getfield 48, 3) := D81 48 rfl rfl rfl
theorem d81_93 : decode (am_mc 81) 93 = .ok (.lcmp, 1) := D81 49 rfl rfl rfl
theorem d81_94 : decode (am_mc 81) 94 = .ok (.ifCond .ge 7, 3) := D81 50 rfl rfl rfl
theorem d81_97 : decode (am_mc 81) 97 = .ok (.iconst 1, 1) := D81 51 rfl rfl rfl
theorem d81_98 : decode (am_mc 81) 98 = .ok (.goto 21, 3) := D81 52 rfl rfl rfl
theorem d81_101 : decode (am_mc 81) 101 = .ok (.iconst 0, 1) := D81 53 rfl rfl rfl
theorem d81_102 : decode (am_mc 81) 102 = .ok (.goto 17, 3) := D81 54 rfl rfl rfl
theorem d81_105 : decode (am_mc 81) 105 = .ok (.lload_n 3, 1) := D81 55 rfl rfl rfl
theorem d81_106 : decode (am_mc 81) 106 = .ok (.aload_n 0, 1) := D81 56 rfl rfl rfl
theorem d81_107 : decode (am_mc 81) 107 = .ok (.getfield 48, 3) := D81 57 rfl rfl rfl
theorem d81_110 : decode (am_mc 81) 110 = .ok (.lcmp, 1) := D81 58 rfl rfl rfl
theorem d81_111 : decode (am_mc 81) 111 = .ok (.ifCond .le 7, 3) := D81 59 rfl rfl rfl
theorem d81_114 : decode (am_mc 81) 114 = .ok (.iconst 1, 1) := D81 60 rfl rfl rfl
theorem d81_115 : decode (am_mc 81) 115 = .ok (.goto 4, 3) := D81 61 rfl rfl rfl
theorem d81_118 : decode (am_mc 81) 118 = .ok (.iconst 0, 1) := D81 62 rfl rfl rfl
theorem d81_119 : decode (am_mc 81) 119 = .ok (.ireturn, 1) := D81 63 rfl rfl rfl
theorem ml81 : ∀ n, n < 5 → n < am_ml 81 := fun _ h => h
theorem mo81 : am_mo 81 = 5 := by decide +kernel
theorem mr81 : am_mr 81 = some .boolean := by decide +kernel
theorem rg81 : am_rcg 81 = 6 := by decide +kernel
theorem m5_71 : tb_m 5 71 = some (79, 3, 1, 0) := by decide +kernel
theorem m5_74 : tb_m 5 74 = some (28, 3, 3, 3) := by decide +kernel
theorem m5_78 : tb_m 5 78 = some (62, 2, 1, 0) := by decide +kernel
theorem m5_82 : tb_m 5 82 = some (80, 3, 2, 0) := by decide +kernel
theorem dp81_28 : am_md 28 + 1 ≤ am_md 81 ∧ 8 + (am_ml 28 + 11) + am_lr 28 ≤ am_lr 81 := by decide +kernel
theorem dp81_60 : am_md 60 + 1 ≤ am_md 81 ∧ 8 + (am_ml 60 + 11) + am_lr 60 ≤ am_lr 81 := by decide +kernel
theorem dp81_62 : am_md 62 + 1 ≤ am_md 81 ∧ 8 + (am_ml 62 + 11) + am_lr 62 ≤ am_lr 81 := by decide +kernel
theorem dp81_79 : am_md 79 + 1 ≤ am_md 81 ∧ 8 + (am_ml 79 + 11) + am_lr 79 ≤ am_lr 81 := by decide +kernel
theorem dp81_80 : am_md 80 + 1 ≤ am_md 81 ∧ 8 + (am_ml 80 + 11) + am_lr 80 ≤ am_lr 81 := by decide +kernel
def fn81 (o : Nat) (a : Nat) (b : Int) (μ : am_M) : Option (Int × am_M) := (am_op (fn79 a b (μ o 2) μ) (fun z1 => (if z1.1 = 0 then (if z1.2 o 3 = 3 then (am_op (fn28 a b (z1.2 o 2) z1.2) (fun z5 => (am_op (fn62 z5.1.toNat (am_ref o 1) z5.2) (fun z6 => (if z6.1 = 0 ∨ z6.1 = 1 then some (z6.1, z6.2) else none))))) else (am_op (fn80 a b (z1.2 o 2) z1.2) (fun z2 => (am_op (fn60 (am_ref o 0) 18 z2.2) (fun z3 => (if z3.1 = 0 then (am_op (fn60 (am_ref o 0) 19 z3.2) (fun z4 => (if z4.1 = 0 then (if 0 < o_cmp z2.1 (z4.2 o 4) then some (1, z4.2) else some (0, z4.2)) else (if o_cmp z2.1 (z4.2 o 4) < 0 then some (1, z4.2) else some (0, z4.2))))) else (if o_cmp z2.1 (z3.2 o 4) = 0 then some (1, z3.2) else some (0, z3.2)))))))) else some (0, z1.2))))
def sp81 : am_F := fun vs μ => am_aR 5 vs fun o vs => am_aR 2 vs fun a vs => am_aI vs fun b vs => am_a0 vs (fn81 o a b μ)
theorem e81 (o : Nat) (a : Nat) (b : Int) (μ : am_M) : sp81 [.inr (.inr (5, o)), .inr (.inr (2, a)), .inl b] μ = fn81 o a b μ := am_aR_c.trans (am_aR_c.trans (am_aI_c.trans am_a0_c))
theorem sd81 : am_Sd 81 sp81 := by
  refine am_Sd_of (by decide) (fun vs μ μ' x h hv hM => ?_)
  obtain ⟨o, vs0, rfl, h0⟩ := am_aR_s h
  obtain ⟨a, vs1, rfl, h1⟩ := am_aR_s h0
  obtain ⟨b, vs2, rfl, h2⟩ := am_aI_s h1
  obtain ⟨rfl, hz⟩ := am_a0_s h2
  refine ⟨Nat.le_of_ble_eq_true rfl, fun X C hG hr => ?_⟩
  have h := hz
  unfold fn81 at h
  exact (show am_W X C 81 _ 0 0 0 [(0, .inr (.inr (5, o))), (1, .inr (.inr (2, a))), (2, .inl b)] [] μ from (am_c_aload_n hG (pc := 0) d81_0 rfl (am_c_iload_n hG (pc := 1) d81_1 rfl (am_c_aload_n hG (pc := 2) d81_2 rfl (x_get_n (v := .inl (μ o 2)) hG (pc := 3) d81_3 mo81 f5_23 rfl (x_virtual_i (t := 2) (o := a) (as2 := [.inl b, .inl (μ o 2)]) (rest := []) hG (pc := 6) d81_6 mo81 m5_71 (by decide) dp81_79 rfl rfl (Nat.le_of_ble_eq_true rfl) (Nat.le_of_ble_eq_true rfl) rg79 sd79 (e79 _ _ _ _) h (fun z1 h => (x_if_eq (tgt := 14) hG (pc := 9) d81_9 rfl h (fun h => (am_c_aload_n hG (pc := 14) d81_14 rfl (x_get_n (v := .inl (z1.2 o 3)) hG (pc := 15) d81_15 mo81 f5_37 rfl (am_c_iconst hG (pc := 18) d81_18 (by decide) (x_icmp_ne (tgt := 39) hG (pc := 19) d81_19 rfl h (fun h => (am_c_aload_n hG (pc := 39) d81_39 rfl (am_c_iload_n hG (pc := 40) d81_40 rfl (am_c_aload_n hG (pc := 41) d81_41 rfl (x_get_n (v := .inl (z1.2 o 2)) hG (pc := 42) d81_42 mo81 f5_23 rfl (x_virtual_l (t := 2) (o := a) (as2 := [.inl b, .inl (z1.2 o 2)]) (rest := []) hG (pc := 45) d81_45 mo81 m5_82 (by decide) dp81_80 rfl rfl (Nat.le_of_ble_eq_true rfl) (Nat.le_of_ble_eq_true rfl) rg80 sd80 (e80 _ _ _ _) h (fun z2 h => (x_lstore_n (lv' := [(3, .inr (.inl z2.1)), (0, .inr (.inr (5, o))), (1, .inr (.inr (2, a))), (2, .inl b)]) hG (pc := 48) d81_48 (ml81 _ (by decide)) rfl (am_c_aload_n hG (pc := 49) d81_49 rfl (x_get_n (v := .inr (.inr (3, am_ref o 0))) hG (pc := 50) d81_50 mo81 f5_14 rfl (am_c_ldc hG (pc := 53) d81_53 (v := .inr (.inr (31, 18))) (by decide +kernel) (x_virtual_i (t := 3) (o := am_ref o 0) (as2 := [.inr (.inr (31, 18))]) (rest := []) hG (pc := 55) d81_55 mo81 m5_54 (by decide) dp81_60 rfl rfl (Nat.le_of_ble_eq_true rfl) (Nat.le_of_ble_eq_true rfl) rg60 sd60 (e60 _ _ _) h (fun z3 h => (x_if_eq (tgt := 76) hG (pc := 58) d81_58 rfl h (fun h => (am_c_aload_n hG (pc := 76) d81_76 rfl (x_get_n (v := .inr (.inr (3, am_ref o 0))) hG (pc := 77) d81_77 mo81 f5_14 rfl (am_c_ldc hG (pc := 80) d81_80 (v := .inr (.inr (31, 19))) (by decide +kernel) (x_virtual_i (t := 3) (o := am_ref o 0) (as2 := [.inr (.inr (31, 19))]) (rest := []) hG (pc := 82) d81_82 mo81 m5_54 (by decide) dp81_60 rfl rfl (Nat.le_of_ble_eq_true rfl) (Nat.le_of_ble_eq_true rfl) rg60 sd60 (e60 _ _ _) h (fun z4 h => (x_if_eq (tgt := 105) hG (pc := 85) d81_85 rfl h (fun h => (am_c_lload_n hG (pc := 105) d81_105 rfl (am_c_aload_n hG (pc := 106) d81_106 rfl (x_get_n (v := .inr (.inl (z4.2 o 4))) hG (pc := 107) d81_107 mo81 f5_48 rfl (am_c_lcmp hG (pc := 110) d81_110 (x_if_le (tgt := 118) hG (pc := 111) d81_111 rfl h (fun h => (am_c_iconst hG (pc := 118) d81_118 (by decide) (xq_zret0 hG (by decide) hr (pc := 119) d81_119 mr81 (am_q0 h)))) (fun h => (am_c_iconst hG (pc := 114) d81_114 (by decide) (x_goto (tgt := 119) hG (pc := 115) d81_115 rfl (xq_zret1 hG (by decide) hr (pc := 119) d81_119 mr81 (am_q0 h))))))))))) (fun h => (am_c_lload_n hG (pc := 88) d81_88 rfl (am_c_aload_n hG (pc := 89) d81_89 rfl (x_get_n (v := .inr (.inl (z4.2 o 4))) hG (pc := 90) d81_90 mo81 f5_48 rfl (am_c_lcmp hG (pc := 93) d81_93 (x_if_ge (tgt := 101) hG (pc := 94) d81_94 rfl h (fun h => (am_c_iconst hG (pc := 101) d81_101 (by decide) (x_goto (tgt := 119) hG (pc := 102) d81_102 rfl (xq_zret0 hG (by decide) hr (pc := 119) d81_119 mr81 (am_q0 h))))) (fun h => (am_c_iconst hG (pc := 97) d81_97 (by decide) (x_goto (tgt := 119) hG (pc := 98) d81_98 rfl (xq_zret1 hG (by decide) hr (pc := 119) d81_119 mr81 (am_q0 h)))))))))))))))))) (fun h => (am_c_lload_n hG (pc := 61) d81_61 rfl (am_c_aload_n hG (pc := 62) d81_62 rfl (x_get_n (v := .inr (.inl (z3.2 o 4))) hG (pc := 63) d81_63 mo81 f5_48 rfl (am_c_lcmp hG (pc := 66) d81_66 (x_if_ne (tgt := 74) hG (pc := 67) d81_67 rfl h (fun h => (am_c_iconst hG (pc := 74) d81_74 (by decide) (xq_zret0 hG (by decide) hr (pc := 75) d81_75 mr81 (am_q0 h)))) (fun h => (am_c_iconst hG (pc := 70) d81_70 (by decide) (x_goto (tgt := 75) hG (pc := 71) d81_71 rfl (xq_zret1 hG (by decide) hr (pc := 75) d81_75 mr81 (am_q0 h))))))))))))))))))))))))) (fun h => (am_c_aload_n hG (pc := 22) d81_22 rfl (am_c_iload_n hG (pc := 23) d81_23 rfl (am_c_aload_n hG (pc := 24) d81_24 rfl (x_get_n (v := .inl (z1.2 o 2)) hG (pc := 25) d81_25 mo81 f5_23 rfl (x_virtual_r (t := 2) (o := a) (as2 := [.inl b, .inl (z1.2 o 2)]) (rest := []) hG (pc := 28) d81_28 mo81 m5_74 (by decide) dp81_28 rfl rfl (Nat.le_of_ble_eq_true rfl) (Nat.le_of_ble_eq_true rfl) rg28 sd28 (e28 _ _ _ _) h (fun z5 h => (am_c_aload_n hG (pc := 31) d81_31 rfl (x_get_n (v := .inr (.inr (3, am_ref o 1))) hG (pc := 32) d81_32 mo81 f5_20 rfl (x_virtual_i (t := 3) (o := z5.1.toNat) (as2 := [.inr (.inr (3, am_ref o 1))]) (rest := []) hG (pc := 35) d81_35 mo81 m5_78 (by decide) dp81_62 rfl rfl (Nat.le_of_ble_eq_true rfl) (Nat.le_of_ble_eq_true rfl) rg62 sd62 (e62 _ _ _) h (fun z6 h => (xq_zret hG (by decide) hr (pc := 38) d81_38 mr81 h (fun h => (am_q0 h))))))))))))))))))) (fun h => (am_c_iconst hG (pc := 12) d81_12 (by decide) (xq_zret0 hG (by decide) hr (pc := 13) d81_13 mr81 (am_q0 h))))))))))))
/-! ChartPress$Request.counts(LChartPress$Table;I)Z -/
theorem D82 (k : Nat) {pc : Nat} {i : Instr} (h : tbi82[k]? = some (pc, i)) (hs : am_isw i = false) {n : Nat} (hn : am_il i = n) : decode (am_mc 82) pc = .ok (i, n) := am_d2 (by decide) (by decide) rfl h hs hn
theorem d82_0 : decode (am_mc 82) 0 = .ok (.aload_n 1, 1) := D82 0 rfl rfl rfl
theorem d82_1 : decode (am_mc 82) 1 = .ok (.iload_n 2, 1) := D82 1 rfl rfl rfl
theorem d82_2 : decode (am_mc 82) 2 = .ok (.aload_n 0, 1) := D82 2 rfl rfl rfl
theorem d82_3 : decode (am_mc 82) 3 = .ok (.getfield 71, 3) := D82 3 rfl rfl rfl
theorem d82_6 : decode (am_mc 82) 6 = .ok (.invokevirtual 185, 3) := D82 4 rfl rfl rfl
theorem d82_9 : decode (am_mc 82) 9 = .ok (.ifCond .ne 7, 3) := D82 5 rfl rfl rfl
theorem d82_12 : decode (am_mc 82) 12 = .ok (.iconst 1, 1) := D82 6 rfl rfl rfl
theorem d82_13 : decode (am_mc 82) 13 = .ok (.goto 4, 3) := D82 7 rfl rfl rfl
theorem d82_16 : decode (am_mc 82) 16 = .ok (.iconst 0, 1) := D82 8 rfl rfl rfl
theorem d82_17 : decode (am_mc 82) 17 = .ok (.istore_n 3, 1) := D82 9 rfl rfl rfl
theorem d82_18 : decode (am_mc 82) 18 = .ok (.iconst 0, 1) := D82 10 rfl rfl rfl
theorem d82_19 : decode (am_mc 82) 19 = .ok (.istore 4, 2) := D82 11 rfl rfl rfl
theorem d82_21 : decode (am_mc 82) 21 = .ok (.iload_n 3, 1) := D82 12 rfl rfl rfl
theorem d82_22 : decode (am_mc 82) 22 = .ok (.ifCond .eq 41, 3) := D82 13 rfl rfl rfl
theorem d82_25 : decode (am_mc 82) 25 = .ok (.iload 4, 2) := D82 14 rfl rfl rfl
theorem d82_27 : decode (am_mc 82) 27 = .ok (.aload_n 0, 1) := D82 15 rfl rfl rfl
theorem d82_28 : decode (am_mc 82) 28 = .ok (.getfield 59, 3) := D82 16 rfl rfl rfl
theorem d82_31 : decode (am_mc 82) 31 = .ok (.if_icmp .ge 32, 3) := D82 17 rfl rfl rfl
theorem d82_34 : decode (am_mc 82) 34 = .ok (.iload 4, 2) := D82 18 rfl rfl rfl
theorem d82_36 : decode (am_mc 82) 36 = .ok (.aload_n 0, 1) := D82 19 rfl rfl rfl
theorem d82_37 : decode (am_mc 82) 37 = .ok (.getfield 26, 3) := D82 20 rfl rfl rfl
theorem d82_40 : decode (am_mc 82) 40 = .ok (.arraylength, 1) := D82 21 rfl rfl rfl
theorem d82_41 : decode (am_mc 82) 41 = .ok (.if_icmp .ge 22, 3) := D82 22 rfl rfl rfl
theorem d82_44 : decode (am_mc 82) 44 = .ok (.aload_n 0, 1) := D82 23 rfl rfl rfl
theorem d82_45 : decode (am_mc 82) 45 = .ok (.getfield 26, 3) := D82 24 rfl rfl rfl
theorem d82_48 : decode (am_mc 82) 48 = .ok (.iload 4, 2) := D82 25 rfl rfl rfl
theorem d82_50 : decode (am_mc 82) 50 = .ok (.aaload, 1) := D82 26 rfl rfl rfl
theorem d82_51 : decode (am_mc 82) 51 = .ok (.aload_n 1, 1) := D82 27 rfl rfl rfl
theorem d82_52 : decode (am_mc 82) 52 = .ok (.iload_n 2, 1) := D82 28 rfl rfl rfl
theorem d82_53 : decode (am_mc 82) 53 = .ok (.invokevirtual 189, 3) := D82 29 rfl rfl rfl
theorem d82_56 : decode (am_mc 82) 56 = .ok (.istore_n 3, 1) := D82 30 rfl rfl rfl
theorem d82_57 : decode (am_mc 82) 57 = .ok (.iinc 4 1, 3) := D82 31 rfl rfl rfl
theorem d82_60 : decode (am_mc 82) 60 = .ok (.goto (-39), 3) := D82 32 rfl rfl rfl
theorem d82_63 : decode (am_mc 82) 63 = .ok (.iload_n 3, 1) := D82 33 rfl rfl rfl
theorem d82_64 : decode (am_mc 82) 64 = .ok (.ireturn, 1) := D82 34 rfl rfl rfl
theorem ml82 : ∀ n, n < 5 → n < am_ml 82 := fun _ h => h
theorem mo82 : am_mo 82 = 4 := by decide +kernel
theorem mr82 : am_mr 82 = some .boolean := by decide +kernel
theorem rg82 : am_rcg 82 = 5 := by decide +kernel
theorem m4_185 : tb_m 4 185 = some (79, 3, 1, 0) := by decide +kernel
theorem m4_189 : tb_m 4 189 = some (81, 3, 1, 0) := by decide +kernel
theorem dp82_79 : am_md 79 + 1 ≤ am_md 82 ∧ 8 + (am_ml 79 + 11) + am_lr 79 ≤ am_lr 82 := by decide +kernel
theorem dp82_81 : am_md 81 + 1 ≤ am_md 82 ∧ 8 + (am_ml 81 + 11) + am_lr 81 ≤ am_lr 82 := by decide +kernel
def L82_21 (l0 : Nat) (l1 : Nat) (l2 : Int) : Nat → Int → Int → am_M → Option ((Int × am_M) ⊕ (Int × Int × am_M))
  | 0, _, _, _ => none
  | n + 1, l3, l4, μ => (if l3 = 0 then (some (.inr (l3, l4, μ))) else (if l4 < μ l0 9 then (if l4 < ((am_len (am_ref l0 2) : Nat) : Int) then (if (0 : Int) ≤ l4 ∧ l4 < ((am_len (am_ref l0 2) : Nat) : Int) then (am_op (fn81 (am_ref (am_ref l0 2) (l4 : Int).toNat) l1 l2 μ) (fun z2 => (L82_21 l0 l1 l2 n z2.1 (w32 (l4 + 1)) z2.2))) else none) else (some (.inr (l3, l4, μ)))) else (some (.inr (l3, l4, μ)))))
theorem w82_21 {X : am_K} {C : am_C} {Q : State → Prop} (hG : am_G X C 82 0 0 (0, fun _ => 0)) (hr : match X with | (_, _, _, _, _, _, _, _, meth, _) => meth.sig.returnType = am_mr 82 ∧ meth.locks = false) (l0 : Nat) (l1 : Nat) (l2 : Int) : ∀ (n : Nat) (l3 : Int) (l4 : Int) (μ : am_M) (r : (Int × am_M) ⊕ (Int × Int × am_M)), L82_21 l0 l1 l2 n l3 l4 μ = some r → (∀ q, r = .inl q → Q = am_E X C 82 q.1 q.2) → (∀ t, r = .inr t → am_W X C 82 Q 0 0 63 [(3, .inl t.1)] [] t.2.2) → am_W X C 82 Q 0 0 21 [(0, .inr (.inr (4, l0))), (1, .inr (.inr (2, l1))), (2, .inl l2), (3, .inl l3), (4, .inl l4)] [] μ := by
  intro n
  induction n with
  | zero => intro l3 l4 μ r h; cases h
  | succ n ih =>
    intro l3 l4 μ r h hI hX
    unfold L82_21 at h
    exact (am_c_iload_n hG (pc := 21) d82_21 rfl (x_if_eq (tgt := 63) hG (pc := 22) d82_22 rfl h (fun h => (am_lvw (lv2 := [(3, .inl l3)]) [3] rfl (hX (l3, l4, μ) (Option.some.inj h).symm))) (fun h => (am_c_iload hG (pc := 25) d82_25 rfl (am_c_aload_n hG (pc := 27) d82_27 rfl (x_get_n (v := .inl (μ l0 9)) hG (pc := 28) d82_28 mo82 f4_59 rfl (x_icmp_ge (tgt := 63) hG (pc := 31) d82_31 rfl h (fun h => (am_lvw (lv2 := [(3, .inl l3)]) [3] rfl (hX (l3, l4, μ) (Option.some.inj h).symm))) (fun h => (am_c_iload hG (pc := 34) d82_34 rfl (am_c_aload_n hG (pc := 36) d82_36 rfl (x_get_n (v := .inr (.inr (22, am_ref l0 2))) hG (pc := 37) d82_37 mo82 f4_26 rfl (am_c_len hG (pc := 40) d82_40 (by decide) (x_icmp_ge (tgt := 63) hG (pc := 41) d82_41 rfl h (fun h => (am_lvw (lv2 := [(3, .inl l3)]) [3] rfl (hX (l3, l4, μ) (Option.some.inj h).symm))) (fun h => (am_c_aload_n hG (pc := 44) d82_44 rfl (x_get_n (v := .inr (.inr (22, am_ref l0 2))) hG (pc := 45) d82_45 mo82 f4_26 rfl (am_c_iload hG (pc := 48) d82_48 rfl (x_aaload_C hG (pc := 50) d82_50 h (fun h => (am_c_aload_n hG (pc := 51) d82_51 rfl (am_c_iload_n hG (pc := 52) d82_52 rfl (x_virtual_i (t := 5) (o := am_ref (am_ref l0 2) (l4 : Int).toNat) (as2 := [.inr (.inr (2, l1)), .inl l2]) (rest := []) hG (pc := 53) d82_53 mo82 m4_189 (by decide) dp82_81 rfl rfl (Nat.le_of_ble_eq_true rfl) (Nat.le_of_ble_eq_true rfl) rg81 sd81 (e81 _ _ _ _) h (fun z2 h => (x_istore_n (lv' := [(3, .inl z2.1), (0, .inr (.inr (4, l0))), (1, .inr (.inr (2, l1))), (2, .inl l2), (4, .inl l4)]) hG (pc := 56) d82_56 (ml82 _ (by decide)) rfl (x_iinc (lv' := [(4, .inl (w32 (l4 + 1))), (3, .inl z2.1), (0, .inr (.inr (4, l0))), (1, .inr (.inr (2, l1))), (2, .inl l2)]) hG (pc := 57) d82_57 rfl (ml82 _ (by decide)) rfl (x_goto (tgt := 21) hG (pc := 60) d82_60 rfl (am_lvw (lv2 := [(0, .inr (.inr (4, l0))), (1, .inr (.inr (2, l1))), (2, .inl l2), (3, .inl z2.1), (4, .inl (w32 (l4 + 1)))]) [2, 3, 4, 1, 0] rfl (ih _ _ _ _ h hI hX))))))))))))))))))))))))))))
def fn82 (o : Nat) (a : Nat) (b : Int) (μ : am_M) : Option (Int × am_M) := (am_op (fn79 a b (μ o 6) μ) (fun z1 => (if z1.1 = 0 then (am_op (L82_21 o a b am_fuel 1 0 z1.2) (fun s => am_lp s (fun q2 => some q2) (fun t2 => (if t2.1 = 0 ∨ t2.1 = 1 then some (t2.1, t2.2.2) else none)))) else (am_op (L82_21 o a b am_fuel 0 0 z1.2) (fun s => am_lp s (fun q1 => some q1) (fun t1 => (if t1.1 = 0 ∨ t1.1 = 1 then some (t1.1, t1.2.2) else none)))))))
def sp82 : am_F := fun vs μ => am_aR 4 vs fun o vs => am_aR 2 vs fun a vs => am_aI vs fun b vs => am_a0 vs (fn82 o a b μ)
theorem e82 (o : Nat) (a : Nat) (b : Int) (μ : am_M) : sp82 [.inr (.inr (4, o)), .inr (.inr (2, a)), .inl b] μ = fn82 o a b μ := am_aR_c.trans (am_aR_c.trans (am_aI_c.trans am_a0_c))
theorem sd82 : am_Sd 82 sp82 := by
  refine am_Sd_of (by decide) (fun vs μ μ' x h hv hM => ?_)
  obtain ⟨o, vs0, rfl, h0⟩ := am_aR_s h
  obtain ⟨a, vs1, rfl, h1⟩ := am_aR_s h0
  obtain ⟨b, vs2, rfl, h2⟩ := am_aI_s h1
  obtain ⟨rfl, hz⟩ := am_a0_s h2
  refine ⟨Nat.le_of_ble_eq_true rfl, fun X C hG hr => ?_⟩
  have h := hz
  unfold fn82 at h
  exact (show am_W X C 82 _ 0 0 0 [(0, .inr (.inr (4, o))), (1, .inr (.inr (2, a))), (2, .inl b)] [] μ from (am_c_aload_n hG (pc := 0) d82_0 rfl (am_c_iload_n hG (pc := 1) d82_1 rfl (am_c_aload_n hG (pc := 2) d82_2 rfl (x_get_n (v := .inl (μ o 6)) hG (pc := 3) d82_3 mo82 f4_71 rfl (x_virtual_i (t := 2) (o := a) (as2 := [.inl b, .inl (μ o 6)]) (rest := []) hG (pc := 6) d82_6 mo82 m4_185 (by decide) dp82_79 rfl rfl (Nat.le_of_ble_eq_true rfl) (Nat.le_of_ble_eq_true rfl) rg79 sd79 (e79 _ _ _ _) h (fun z1 h => (x_if_ne (tgt := 16) hG (pc := 9) d82_9 rfl h (fun h => (am_c_iconst hG (pc := 16) d82_16 (by decide) (x_istore_n (lv' := [(3, .inl 0), (0, .inr (.inr (4, o))), (1, .inr (.inr (2, a))), (2, .inl b)]) hG (pc := 17) d82_17 (ml82 _ (by decide)) rfl (am_c_iconst hG (pc := 18) d82_18 (by decide) (x_istore (lv' := [(4, .inl 0), (3, .inl 0), (0, .inr (.inr (4, o))), (1, .inr (.inr (2, a))), (2, .inl b)]) hG (pc := 19) d82_19 (ml82 _ (by decide)) rfl (x_lp h (fun r h1 h2 => (am_lvw (lv2 := [(0, .inr (.inr (4, o))), (1, .inr (.inr (2, a))), (2, .inl b), (3, .inl 0), (4, .inl 0)]) [2, 3, 4, 1, 0] rfl (w82_21 hG hr _ _ _ _ _ _ _ _ h1 (fun q1 e => am_q1 e h2 (fun h => am_q0 h)) (fun t1 e => am_q2 e h2 (fun h => (am_c_iload_n hG (pc := 63) d82_63 rfl (xq_zret hG (by decide) hr (pc := 64) d82_64 mr82 h (fun h => (am_q0 h))))))))))))))) (fun h => (am_c_iconst hG (pc := 12) d82_12 (by decide) (x_goto (tgt := 17) hG (pc := 13) d82_13 rfl (x_istore_n (lv' := [(3, .inl 1), (0, .inr (.inr (4, o))), (1, .inr (.inr (2, a))), (2, .inl b)]) hG (pc := 17) d82_17 (ml82 _ (by decide)) rfl (am_c_iconst hG (pc := 18) d82_18 (by decide) (x_istore (lv' := [(4, .inl 0), (3, .inl 1), (0, .inr (.inr (4, o))), (1, .inr (.inr (2, a))), (2, .inl b)]) hG (pc := 19) d82_19 (ml82 _ (by decide)) rfl (x_lp h (fun r h1 h2 => (am_lvw (lv2 := [(0, .inr (.inr (4, o))), (1, .inr (.inr (2, a))), (2, .inl b), (3, .inl 1), (4, .inl 0)]) [2, 3, 4, 1, 0] rfl (w82_21 hG hr _ _ _ _ _ _ _ _ h1 (fun q2 e => am_q1 e h2 (fun h => am_q0 h)) (fun t2 e => am_q2 e h2 (fun h => (am_c_iload_n hG (pc := 63) d82_63 rfl (xq_zret hG (by decide) hr (pc := 64) d82_64 mr82 h (fun h => (am_q0 h))))))))))))))))))))))))
/-! ChartPress$Request.xColumn()I -/
theorem D83 (k : Nat) {pc : Nat} {i : Instr} (h : tbi83[k]? = some (pc, i)) (hs : am_isw i = false) {n : Nat} (hn : am_il i = n) : decode (am_mc 83) pc = .ok (i, n) := am_d2 (by decide) (by decide) rfl h hs hn
theorem d83_0 : decode (am_mc 83) 0 = .ok (.aload_n 0, 1) := D83 0 rfl rfl rfl
theorem d83_1 : decode (am_mc 83) 1 = .ok (.getfield 71, 3) := D83 1 rfl rfl rfl
theorem d83_4 : decode (am_mc 83) 4 = .ok (.ireturn, 1) := D83 2 rfl rfl rfl
theorem ml83 : ∀ n, n < 1 → n < am_ml 83 := fun _ h => h
theorem mo83 : am_mo 83 = 4 := by decide +kernel
theorem mr83 : am_mr 83 = some .int := by decide +kernel
theorem rg83 : am_rcg 83 = 5 := by decide +kernel
def fn83 (o : Nat) (μ : am_M) : Option (Int × am_M) := some (μ o 6, μ)
def sp83 : am_F := fun vs μ => am_aR 4 vs fun o vs => am_a0 vs (fn83 o μ)
theorem e83 (o : Nat) (μ : am_M) : sp83 [.inr (.inr (4, o))] μ = fn83 o μ := am_aR_c.trans am_a0_c
theorem sd83 : am_Sd 83 sp83 := by
  refine am_Sd_of (by decide) (fun vs μ μ' x h hv hM => ?_)
  obtain ⟨o, vs0, rfl, h0⟩ := am_aR_s h
  obtain ⟨rfl, hz⟩ := am_a0_s h0
  refine ⟨Nat.le_of_ble_eq_true rfl, fun X C hG hr => ?_⟩
  have h := hz
  unfold fn83 at h
  exact (show am_W X C 83 _ 0 0 0 [(0, .inr (.inr (4, o)))] [] μ from (am_c_aload_n hG (pc := 0) d83_0 rfl (x_get_n (v := .inl (μ o 6)) hG (pc := 1) d83_1 mo83 f4_71 rfl (xq_iret hG (by decide) hr (pc := 4) d83_4 mr83 (am_q0 h)))))
/-! ChartPress$Table.sameByType(III)Z -/
theorem D84 (k : Nat) {pc : Nat} {i : Instr} (h : tbi84[k]? = some (pc, i)) (hs : am_isw i = false) {n : Nat} (hn : am_il i = n) : decode (am_mc 84) pc = .ok (i, n) := am_d2 (by decide) (by decide) rfl h hs hn
theorem d84_0 : decode (am_mc 84) 0 = .ok (.aload_n 0, 1) := D84 0 rfl rfl rfl
theorem d84_1 : decode (am_mc 84) 1 = .ok (.iload_n 3, 1) := D84 1 rfl rfl rfl
theorem d84_2 : decode (am_mc 84) 2 = .ok (.invokevirtual 145, 3) := D84 2 rfl rfl rfl
theorem d84_5 : decode (am_mc 84) 5 = .ok (.iconst 3, 1) := D84 3 rfl rfl rfl
theorem d84_6 : decode (am_mc 84) 6 = .ok (.if_icmp .ne 19, 3) := D84 4 rfl rfl rfl
theorem d84_9 : decode (am_mc 84) 9 = .ok (.aload_n 0, 1) := D84 5 rfl rfl rfl
theorem d84_10 : decode (am_mc 84) 10 = .ok (.iload_n 1, 1) := D84 6 rfl rfl rfl
theorem d84_11 : decode (am_mc 84) 11 = .ok (.iload_n 3, 1) := D84 7 rfl rfl rfl
theorem d84_12 : decode (am_mc 84) 12 = .ok (.invokevirtual 116, 3) := D84 8 rfl rfl rfl
theorem d84_15 : decode (am_mc 84) 15 = .ok (.aload_n 0, 1) := D84 9 rfl rfl rfl
theorem d84_16 : decode (am_mc 84) 16 = .ok (.iload_n 2, 1) := D84 10 rfl rfl rfl
theorem d84_17 : decode (am_mc 84) 17 = .ok (.iload_n 3, 1) := D84 11 rfl rfl rfl
theorem d84_18 : decode (am_mc 84) 18 = .ok (.invokevirtual 116, 3) := D84 12 rfl rfl rfl
theorem d84_21 : decode (am_mc 84) 21 = .ok (.invokevirtual 148, 3) := D84 13 rfl rfl rfl
theorem d84_24 : decode (am_mc 84) 24 = .ok (.ireturn, 1) := D84 14 rfl rfl rfl
theorem d84_25 : decode (am_mc 84) 25 = .ok (.aload_n 0, 1) := D84 15 rfl rfl rfl
theorem d84_26 : decode (am_mc 84) 26 = .ok (.iload_n 1, 1) := D84 16 rfl rfl rfl
theorem d84_27 : decode (am_mc 84) 27 = .ok (.iload_n 3, 1) := D84 17 rfl rfl rfl
theorem d84_28 : decode (am_mc 84) 28 = .ok (.invokevirtual 152, 3) := D84 18 rfl rfl rfl
theorem d84_31 : decode (am_mc 84) 31 = .ok (.aload_n 0, 1) := D84 19 rfl rfl rfl
theorem d84_32 : decode (am_mc 84) 32 = .ok (.iload_n 2, 1) := D84 20 rfl rfl rfl
theorem d84_33 : decode (am_mc 84) 33 = .ok (.iload_n 3, 1) := D84 21 rfl rfl rfl
theorem d84_34 : decode (am_mc 84) 34 = .ok (.invokevirtual 152, 3) := D84 22 rfl rfl rfl
theorem d84_37 : decode (am_mc 84) 37 = .ok (.lcmp, 1) := D84 23 rfl rfl rfl
theorem d84_38 : decode (am_mc 84) 38 = .ok (.ifCond .ne 7, 3) := D84 24 rfl rfl rfl
theorem d84_41 : decode (am_mc 84) 41 = .ok (.iconst 1, 1) := D84 25 rfl rfl rfl
theorem d84_42 : decode (am_mc 84) 42 = .ok (.goto 4, 3) := D84 26 rfl rfl rfl
theorem d84_45 : decode (am_mc 84) 45 = .ok (.iconst 0, 1) := D84 27 rfl rfl rfl
theorem d84_46 : decode (am_mc 84) 46 = .ok (.ireturn, 1) := D84 28 rfl rfl rfl
theorem ml84 : ∀ n, n < 4 → n < am_ml 84 := fun _ h => h
theorem mo84 : am_mo 84 = 2 := by decide +kernel
theorem mr84 : am_mr 84 = some .boolean := by decide +kernel
theorem rg84 : am_rcg 84 = 3 := by decide +kernel
theorem m2_145 : tb_m 2 145 = some (45, 2, 1, 0) := by decide +kernel
theorem m2_152 : tb_m 2 152 = some (80, 3, 2, 0) := by decide +kernel
theorem dp84_28 : am_md 28 + 1 ≤ am_md 84 ∧ 8 + (am_ml 28 + 11) + am_lr 28 ≤ am_lr 84 := by decide +kernel
theorem dp84_45 : am_md 45 + 1 ≤ am_md 84 ∧ 8 + (am_ml 45 + 11) + am_lr 45 ≤ am_lr 84 := by decide +kernel
theorem dp84_62 : am_md 62 + 1 ≤ am_md 84 ∧ 8 + (am_ml 62 + 11) + am_lr 62 ≤ am_lr 84 := by decide +kernel
theorem dp84_80 : am_md 80 + 1 ≤ am_md 84 ∧ 8 + (am_ml 80 + 11) + am_lr 80 ≤ am_lr 84 := by decide +kernel
def fn84 (o : Nat) (a : Int) (b : Int) (c : Int) (μ : am_M) : Option (Int × am_M) := (am_op (fn45 o c μ) (fun z1 => (if z1.1 = 3 then (am_op (fn28 o a c z1.2) (fun z4 => (am_op (fn28 o b c z4.2) (fun z5 => (am_op (fn62 z4.1.toNat z5.1.toNat z5.2) (fun z6 => (if z6.1 = 0 ∨ z6.1 = 1 then some (z6.1, z6.2) else none))))))) else (am_op (fn80 o a c z1.2) (fun z2 => (am_op (fn80 o b c z2.2) (fun z3 => (if o_cmp z2.1 z3.1 = 0 then some (1, z3.2) else some (0, z3.2)))))))))
def sp84 : am_F := fun vs μ => am_aR 2 vs fun o vs => am_aI vs fun a vs => am_aI vs fun b vs => am_aI vs fun c vs => am_a0 vs (fn84 o a b c μ)
theorem e84 (o : Nat) (a : Int) (b : Int) (c : Int) (μ : am_M) : sp84 [.inr (.inr (2, o)), .inl a, .inl b, .inl c] μ = fn84 o a b c μ := am_aR_c.trans (am_aI_c.trans (am_aI_c.trans (am_aI_c.trans am_a0_c)))
theorem sd84 : am_Sd 84 sp84 := by
  refine am_Sd_of (by decide) (fun vs μ μ' x h hv hM => ?_)
  obtain ⟨o, vs0, rfl, h0⟩ := am_aR_s h
  obtain ⟨a, vs1, rfl, h1⟩ := am_aI_s h0
  obtain ⟨b, vs2, rfl, h2⟩ := am_aI_s h1
  obtain ⟨c, vs3, rfl, h3⟩ := am_aI_s h2
  obtain ⟨rfl, hz⟩ := am_a0_s h3
  refine ⟨Nat.le_of_ble_eq_true rfl, fun X C hG hr => ?_⟩
  have h := hz
  unfold fn84 at h
  exact (show am_W X C 84 _ 0 0 0 [(0, .inr (.inr (2, o))), (1, .inl a), (2, .inl b), (3, .inl c)] [] μ from (am_c_aload_n hG (pc := 0) d84_0 rfl (am_c_iload_n hG (pc := 1) d84_1 rfl (x_virtual_i (t := 2) (o := o) (as2 := [.inl c]) (rest := []) hG (pc := 2) d84_2 mo84 m2_145 (by decide) dp84_45 rfl rfl (Nat.le_of_ble_eq_true rfl) (Nat.le_of_ble_eq_true rfl) rg45 sd45 (e45 _ _ _) h (fun z1 h => (am_c_iconst hG (pc := 5) d84_5 (by decide) (x_icmp_ne (tgt := 25) hG (pc := 6) d84_6 rfl h (fun h => (am_c_aload_n hG (pc := 25) d84_25 rfl (am_c_iload_n hG (pc := 26) d84_26 rfl (am_c_iload_n hG (pc := 27) d84_27 rfl (x_virtual_l (t := 2) (o := o) (as2 := [.inl a, .inl c]) (rest := []) hG (pc := 28) d84_28 mo84 m2_152 (by decide) dp84_80 rfl rfl (Nat.le_of_ble_eq_true rfl) (Nat.le_of_ble_eq_true rfl) rg80 sd80 (e80 _ _ _ _) h (fun z2 h => (am_c_aload_n hG (pc := 31) d84_31 rfl (am_c_iload_n hG (pc := 32) d84_32 rfl (am_c_iload_n hG (pc := 33) d84_33 rfl (x_virtual_l (t := 2) (o := o) (as2 := [.inl b, .inl c]) (rest := [.inr (.inl z2.1)]) hG (pc := 34) d84_34 mo84 m2_152 (by decide) dp84_80 rfl rfl (Nat.le_of_ble_eq_true rfl) (Nat.le_of_ble_eq_true rfl) rg80 sd80 (e80 _ _ _ _) h (fun z3 h => (am_c_lcmp hG (pc := 37) d84_37 (x_if_ne (tgt := 45) hG (pc := 38) d84_38 rfl h (fun h => (am_c_iconst hG (pc := 45) d84_45 (by decide) (xq_zret0 hG (by decide) hr (pc := 46) d84_46 mr84 (am_q0 h)))) (fun h => (am_c_iconst hG (pc := 41) d84_41 (by decide) (x_goto (tgt := 46) hG (pc := 42) d84_42 rfl (xq_zret1 hG (by decide) hr (pc := 46) d84_46 mr84 (am_q0 h)))))))))))))))))) (fun h => (am_c_aload_n hG (pc := 9) d84_9 rfl (am_c_iload_n hG (pc := 10) d84_10 rfl (am_c_iload_n hG (pc := 11) d84_11 rfl (x_virtual_r (t := 2) (o := o) (as2 := [.inl a, .inl c]) (rest := []) hG (pc := 12) d84_12 mo84 m2_116 (by decide) dp84_28 rfl rfl (Nat.le_of_ble_eq_true rfl) (Nat.le_of_ble_eq_true rfl) rg28 sd28 (e28 _ _ _ _) h (fun z4 h => (am_c_aload_n hG (pc := 15) d84_15 rfl (am_c_iload_n hG (pc := 16) d84_16 rfl (am_c_iload_n hG (pc := 17) d84_17 rfl (x_virtual_r (t := 2) (o := o) (as2 := [.inl b, .inl c]) (rest := [.inr (.inr (3, z4.1.toNat))]) hG (pc := 18) d84_18 mo84 m2_116 (by decide) dp84_28 rfl rfl (Nat.le_of_ble_eq_true rfl) (Nat.le_of_ble_eq_true rfl) rg28 sd28 (e28 _ _ _ _) h (fun z5 h => (x_virtual_i (t := 3) (o := z4.1.toNat) (as2 := [.inr (.inr (3, z5.1.toNat))]) (rest := []) hG (pc := 21) d84_21 mo84 m2_148 (by decide) dp84_62 rfl rfl (Nat.le_of_ble_eq_true rfl) (Nat.le_of_ble_eq_true rfl) rg62 sd62 (e62 _ _ _) h (fun z6 h => (xq_zret hG (by decide) hr (pc := 24) d84_24 mr84 h (fun h => (am_q0 h)))))))))))))))))))))))
/-! ChartPress$Groups.joinGroup(LChartPress$Table;II)V -/
theorem D85 (k : Nat) {pc : Nat} {i : Instr} (h : tbi85[k]? = some (pc, i)) (hs : am_isw i = false) {n : Nat} (hn : am_il i = n) : decode (am_mc 85) pc = .ok (i, n) := am_d2 (by decide) (by decide) rfl h hs hn
theorem d85_0 : decode (am_mc 85) 0 = .ok (.iconst 0, 1) := D85 0 rfl rfl rfl
theorem d85_1 : decode (am_mc 85) 1 = .ok (.istore 4, 2) := D85 1 rfl rfl rfl
theorem d85_3 : decode (am_mc 85) 3 = .ok (.iload 4, 2) := D85 2 rfl rfl rfl
theorem d85_5 : decode (am_mc 85) 5 = .ok (.aload_n 0, 1) := D85 3 rfl rfl rfl
theorem d85_6 : decode (am_mc 85) 6 = .ok (.getfield 62, 3) := D85 4 rfl rfl rfl
theorem d85_9 : decode (am_mc 85) 9 = .ok (.if_icmp .ge 41, 3) := D85 5 rfl rfl rfl
theorem d85_12 : decode (am_mc 85) 12 = .ok (.iload 4, 2) := D85 6 rfl rfl rfl
theorem d85_14 : decode (am_mc 85) 14 = .ok (.bipush 12, 2) := D85 7 rfl rfl rfl
theorem d85_16 : decode (am_mc 85) 16 = .ok (.if_icmp .ge 34, 3) := D85 8 rfl rfl rfl
theorem d85_19 : decode (am_mc 85) 19 = .ok (.aload_n 1, 1) := D85 9 rfl rfl rfl
theorem d85_20 : decode (am_mc 85) 20 = .ok (.aload_n 0, 1) := D85 10 rfl rfl rfl
theorem d85_21 : decode (am_mc 85) 21 = .ok (.getfield 18, 3) := D85 11 rfl rfl rfl
theorem d85_24 : decode (am_mc 85) 24 = .ok (.iload 4, 2) := D85 12 rfl rfl rfl
theorem d85_26 : decode (am_mc 85) 26 = .ok (.iaload, 1) := D85 13 rfl rfl rfl
theorem d85_27 : decode (am_mc 85) 27 = .ok (.iload_n 3, 1) := D85 14 rfl rfl rfl
theorem d85_28 : decode (am_mc 85) 28 = .ok (.iload_n 2, 1) := D85 15 rfl rfl rfl
theorem d85_29 : decode (am_mc 85) 29 = .ok (.invokevirtual 99, 3) := D85 16 rfl rfl rfl
theorem d85_32 : decode (am_mc 85) 32 = .ok (.ifCond .eq 12, 3) := D85 17 rfl rfl rfl
theorem d85_35 : decode (am_mc 85) 35 = .ok (.aload_n 0, 1) := D85 18 rfl rfl rfl
theorem d85_36 : decode (am_mc 85) 36 = .ok (.getfield 9, 3) := D85 19 rfl rfl rfl
theorem d85_39 : decode (am_mc 85) 39 = .ok (.iload_n 3, 1) := D85 20 rfl rfl rfl
theorem d85_40 : decode (am_mc 85) 40 = .ok (.iload 4, 2) := D85 21 rfl rfl rfl
theorem d85_42 : decode (am_mc 85) 42 = .ok (.iastore, 1) := D85 22 rfl rfl rfl
theorem d85_43 : decode (am_mc 85) 43 = .ok (.return_, 1) := D85 23 rfl rfl rfl
theorem d85_44 : decode (am_mc 85) 44 = .ok (.iinc 4 1, 3) := D85 24 rfl rfl rfl
theorem d85_47 : decode (am_mc 85) 47 = .ok (.goto (-44), 3) := D85 25 rfl rfl rfl
theorem d85_50 : decode (am_mc 85) 50 = .ok (.aload_n 0, 1) := D85 26 rfl rfl rfl
theorem d85_51 : decode (am_mc 85) 51 = .ok (.getfield 62, 3) := D85 27 rfl rfl rfl
theorem d85_54 : decode (am_mc 85) 54 = .ok (.bipush 12, 2) := D85 28 rfl rfl rfl
theorem d85_56 : decode (am_mc 85) 56 = .ok (.if_icmp .ge 51, 3) := D85 29 rfl rfl rfl
theorem d85_59 : decode (am_mc 85) 59 = .ok (.aload_n 0, 1) := D85 30 rfl rfl rfl
theorem d85_60 : decode (am_mc 85) 60 = .ok (.getfield 9, 3) := D85 31 rfl rfl rfl
theorem d85_63 : decode (am_mc 85) 63 = .ok (.iload_n 3, 1) := D85 32 rfl rfl rfl
theorem d85_64 : decode (am_mc 85) 64 = .ok (.aload_n 0, 1) := D85 33 rfl rfl rfl
theorem d85_65 : decode (am_mc 85) 65 = .ok (.getfield 62, 3) := D85 34 rfl rfl rfl
theorem d85_68 : decode (am_mc 85) 68 = .ok (.iastore, 1) := D85 35 rfl rfl rfl
theorem d85_69 : decode (am_mc 85) 69 = .ok (.aload_n 0, 1) := D85 36 rfl rfl rfl
theorem d85_70 : decode (am_mc 85) 70 = .ok (.getfield 18, 3) := D85 37 rfl rfl rfl
theorem d85_73 : decode (am_mc 85) 73 = .ok (.aload_n 0, 1) := D85 38 rfl rfl rfl
theorem d85_74 : decode (am_mc 85) 74 = .ok (.getfield 62, 3) := D85 39 rfl rfl rfl
theorem d85_77 : decode (am_mc 85) 77 = .ok (.iload_n 3, 1) := D85 40 rfl rfl rfl
theorem d85_78 : decode (am_mc 85) 78 = .ok (.iastore, 1) := D85 41 rfl rfl rfl
theorem d85_79 : decode (am_mc 85) 79 = .ok (.aload_n 0, 1) := D85 42 rfl rfl rfl
theorem d85_80 : decode (am_mc 85) 80 = .ok (.getfield 23, 3) := D85 43 rfl rfl rfl
theorem d85_83 : decode (am_mc 85) 83 = .ok (.aload_n 0, 1) := D85 44 rfl rfl rfl
theorem d85_84 : decode (am_mc 85) 84 = .ok (.getfield 62, 3) := D85 45 rfl rfl rfl
theorem d85_87 : decode (am_mc 85) 87 = .ok (.aaload, 1) := D85 46 rfl rfl rfl
theorem d85_88 : decode (am_mc 85) 88 = .ok (.aload_n 1, 1) := D85 47 rfl rfl rfl
theorem d85_89 : decode (am_mc 85) 89 = .ok (.iload_n 3, 1) := D85 48 rfl rfl rfl
theorem d85_90 : decode (am_mc 85) 90 = .ok (.iload_n 2, 1) := D85 49 rfl rfl rfl
theorem d85_91 : decode (am_mc 85) 91 = .ok (.invokevirtual 103, 3) := D85 50 rfl rfl rfl
theorem d85_94 : decode (am_mc 85) 94 = .ok (.invokevirtual 107, 3) := D85 51 rfl rfl rfl
theorem d85_97 : decode (am_mc 85) 97 = .ok (.aload_n 0, 1) := D85 52 rfl rfl rfl
theorem d85_98 : decode (am_mc 85) 98 = .ok (.dup, 1) := D85 53 rfl rfl rfl
theorem d85_99 : decode (am_mc 85) 99 = .ok (.getfield 62, 3) := D85 54 rfl rfl rfl
theorem d85_102 : decode (am_mc 85) 102 = .ok (.iconst 1, 1) := D85 55 rfl rfl rfl
theorem d85_103 : decode (am_mc 85) 103 = .ok (.iadd, 1) := D85 56 rfl rfl rfl
theorem d85_104 : decode (am_mc 85) 104 = .ok (.putfield 62, 3) := D85 57 rfl rfl rfl
theorem d85_107 : decode (am_mc 85) 107 = .ok (.return_, 1) := D85 58 rfl rfl rfl
theorem ml85 : ∀ n, n < 5 → n < am_ml 85 := fun _ h => h
theorem mo85 : am_mo 85 = 6 := by decide +kernel
theorem rk85 : am_rk 85 = 0 := by decide +kernel
theorem rg85 : am_rcg 85 = 7 := by decide +kernel
theorem f6_9 : tb_f 6 9 = some (6, 0, 5, 16) := by decide +kernel
theorem f6_18 : tb_f 6 18 = some (6, 2, 5, 16) := by decide +kernel
theorem f6_23 : tb_f 6 23 = some (6, 3, 5, 21) := by decide +kernel
theorem f6_62 : tb_f 6 62 = some (6, 9, 0, 0) := by decide +kernel
theorem m6_99 : tb_m 6 99 = some (84, 4, 1, 0) := by decide +kernel
theorem m6_103 : tb_m 6 103 = some (28, 3, 3, 3) := by decide +kernel
theorem m6_107 : tb_m 6 107 = some (67, 2, 0, 0) := by decide +kernel
theorem dp85_28 : am_md 28 + 1 ≤ am_md 85 ∧ 8 + (am_ml 28 + 11) + am_lr 28 ≤ am_lr 85 := by decide +kernel
theorem dp85_67 : am_md 67 + 1 ≤ am_md 85 ∧ 8 + (am_ml 67 + 11) + am_lr 67 ≤ am_lr 85 := by decide +kernel
theorem dp85_84 : am_md 84 + 1 ≤ am_md 85 ∧ 8 + (am_ml 84 + 11) + am_lr 84 ≤ am_lr 85 := by decide +kernel
def L85_3 (l0 : Nat) (l1 : Nat) (l2 : Int) (l3 : Int) : Nat → Int → am_M → Option ((Int × am_M) ⊕ (Int × am_M))
  | 0, _, _ => none
  | n + 1, l4, μ => (if l4 < μ l0 9 then (if l4 < 12 then (if (0 : Int) ≤ l4 ∧ l4 < ((am_len (am_ref l0 2) : Nat) : Int) then (am_op (fn84 l1 (μ (am_ref l0 2) (l4 : Int).toNat) l3 l2 μ) (fun z1 => (if z1.1 = 0 then (L85_3 l0 l1 l2 l3 n (w32 (l4 + 1)) z1.2) else (if (0 : Int) ≤ l3 ∧ l3 < ((am_len (am_ref l0 0) : Nat) : Int) then some (.inl (0, am_up z1.2 (am_ref l0 0) (l3 : Int).toNat l4)) else none)))) else none) else (some (.inr (l4, μ)))) else (some (.inr (l4, μ))))
theorem w85_3 {X : am_K} {C : am_C} {Q : State → Prop} (hG : am_G X C 85 0 0 (0, fun _ => 0)) (hr : match X with | (_, _, _, _, _, _, _, _, meth, _) => meth.sig.returnType = am_mr 85 ∧ meth.locks = false) (l0 : Nat) (l1 : Nat) (l2 : Int) (l3 : Int) : ∀ (n : Nat) (l4 : Int) (μ : am_M) (r : (Int × am_M) ⊕ (Int × am_M)), L85_3 l0 l1 l2 l3 n l4 μ = some r → (∀ q, r = .inl q → Q = am_E X C 85 q.1 q.2) → (∀ t, r = .inr t → am_W X C 85 Q 0 0 50 [(0, .inr (.inr (6, l0))), (1, .inr (.inr (2, l1))), (2, .inl l2), (3, .inl l3)] [] t.2) → am_W X C 85 Q 0 0 3 [(0, .inr (.inr (6, l0))), (1, .inr (.inr (2, l1))), (2, .inl l2), (3, .inl l3), (4, .inl l4)] [] μ := by
  intro n
  induction n with
  | zero => intro l4 μ r h; cases h
  | succ n ih =>
    intro l4 μ r h hI hX
    unfold L85_3 at h
    exact (am_c_iload hG (pc := 3) d85_3 rfl (am_c_aload_n hG (pc := 5) d85_5 rfl (x_get_n (v := .inl (μ l0 9)) hG (pc := 6) d85_6 mo85 f6_62 rfl (x_icmp_ge (tgt := 50) hG (pc := 9) d85_9 rfl h (fun h => (am_lvw (lv2 := [(0, .inr (.inr (6, l0))), (1, .inr (.inr (2, l1))), (2, .inl l2), (3, .inl l3)]) [0, 1, 2, 3] rfl (hX (l4, μ) (Option.some.inj h).symm))) (fun h => (am_c_iload hG (pc := 12) d85_12 rfl (am_c_bipush hG (pc := 14) d85_14 (by decide) (x_icmp_ge (tgt := 50) hG (pc := 16) d85_16 rfl h (fun h => (am_lvw (lv2 := [(0, .inr (.inr (6, l0))), (1, .inr (.inr (2, l1))), (2, .inl l2), (3, .inl l3)]) [0, 1, 2, 3] rfl (hX (l4, μ) (Option.some.inj h).symm))) (fun h => (am_c_aload_n hG (pc := 19) d85_19 rfl (am_c_aload_n hG (pc := 20) d85_20 rfl (x_get_n (v := .inr (.inr (16, am_ref l0 2))) hG (pc := 21) d85_21 mo85 f6_18 rfl (am_c_iload hG (pc := 24) d85_24 rfl (x_iaload hG (pc := 26) d85_26 h (fun h => (am_c_iload_n hG (pc := 27) d85_27 rfl (am_c_iload_n hG (pc := 28) d85_28 rfl (x_virtual_i (t := 2) (o := l1) (as2 := [.inl (μ (am_ref l0 2) (l4 : Int).toNat), .inl l3, .inl l2]) (rest := []) hG (pc := 29) d85_29 mo85 m6_99 (by decide) dp85_84 rfl rfl (Nat.le_of_ble_eq_true rfl) (Nat.le_of_ble_eq_true rfl) rg84 sd84 (e84 _ _ _ _ _) h (fun z1 h => (x_if_eq (tgt := 44) hG (pc := 32) d85_32 rfl h (fun h => (x_iinc (lv' := [(4, .inl (w32 (l4 + 1))), (0, .inr (.inr (6, l0))), (1, .inr (.inr (2, l1))), (2, .inl l2), (3, .inl l3)]) hG (pc := 44) d85_44 rfl (ml85 _ (by decide)) rfl (x_goto (tgt := 3) hG (pc := 47) d85_47 rfl (am_lvw (lv2 := [(0, .inr (.inr (6, l0))), (1, .inr (.inr (2, l1))), (2, .inl l2), (3, .inl l3), (4, .inl (w32 (l4 + 1)))]) [1, 2, 3, 4, 0] rfl (ih _ _ _ h hI hX))))) (fun h => (am_c_aload_n hG (pc := 35) d85_35 rfl (x_get_n (v := .inr (.inr (16, am_ref l0 0))) hG (pc := 36) d85_36 mo85 f6_9 rfl (am_c_iload_n hG (pc := 39) d85_39 rfl (am_c_iload hG (pc := 40) d85_40 rfl (x_iastore hG (pc := 42) d85_42 h (fun h => (xq_vret hG (by decide) hr (pc := 43) d85_43 rk85 (hI _ (Option.some.inj h).symm)))))))))))))))))))))))))))))
def fn85 (o : Nat) (a : Nat) (b : Int) (c : Int) (μ : am_M) : Option (Int × am_M) := (am_op (L85_3 o a b c am_fuel 0 μ) (fun s => am_lp s (fun q1 => some q1) (fun t1 => (if t1.2 o 9 < 12 then (if (0 : Int) ≤ c ∧ c < ((am_len (am_ref o 0) : Nat) : Int) then (if (0 : Int) ≤ (am_up t1.2 (am_ref o 0) (c : Int).toNat (t1.2 o 9)) o 9 ∧ (am_up t1.2 (am_ref o 0) (c : Int).toNat (t1.2 o 9)) o 9 < ((am_len (am_ref o 2) : Nat) : Int) then (if (0 : Int) ≤ (am_up (am_up t1.2 (am_ref o 0) (c : Int).toNat (t1.2 o 9)) (am_ref o 2) ((am_up t1.2 (am_ref o 0) (c : Int).toNat (t1.2 o 9)) o 9 : Int).toNat c) o 9 ∧ (am_up (am_up t1.2 (am_ref o 0) (c : Int).toNat (t1.2 o 9)) (am_ref o 2) ((am_up t1.2 (am_ref o 0) (c : Int).toNat (t1.2 o 9)) o 9 : Int).toNat c) o 9 < ((am_len (am_ref o 3) : Nat) : Int) then (am_op (fn28 a c b (am_up (am_up t1.2 (am_ref o 0) (c : Int).toNat (t1.2 o 9)) (am_ref o 2) ((am_up t1.2 (am_ref o 0) (c : Int).toNat (t1.2 o 9)) o 9 : Int).toNat c)) (fun z2 => (am_op (fn67 (am_ref (am_ref o 3) ((am_up (am_up t1.2 (am_ref o 0) (c : Int).toNat (t1.2 o 9)) (am_ref o 2) ((am_up t1.2 (am_ref o 0) (c : Int).toNat (t1.2 o 9)) o 9 : Int).toNat c) o 9 : Int).toNat) z2.1.toNat z2.2) (fun z3 => some (0, am_up z3.2 o 9 (w32 ((z3.2 o 9) + 1))))))) else none) else none) else none) else some (0, t1.2)))))
def sp85 : am_F := fun vs μ => am_aR 6 vs fun o vs => am_aR 2 vs fun a vs => am_aI vs fun b vs => am_aI vs fun c vs => am_a0 vs (fn85 o a b c μ)
theorem e85 (o : Nat) (a : Nat) (b : Int) (c : Int) (μ : am_M) : sp85 [.inr (.inr (6, o)), .inr (.inr (2, a)), .inl b, .inl c] μ = fn85 o a b c μ := am_aR_c.trans (am_aR_c.trans (am_aI_c.trans (am_aI_c.trans am_a0_c)))
theorem sd85 : am_Sd 85 sp85 := by
  refine am_Sd_of (by decide) (fun vs μ μ' x h hv hM => ?_)
  obtain ⟨o, vs0, rfl, h0⟩ := am_aR_s h
  obtain ⟨a, vs1, rfl, h1⟩ := am_aR_s h0
  obtain ⟨b, vs2, rfl, h2⟩ := am_aI_s h1
  obtain ⟨c, vs3, rfl, h3⟩ := am_aI_s h2
  obtain ⟨rfl, hz⟩ := am_a0_s h3
  refine ⟨Nat.le_of_ble_eq_true rfl, fun X C hG hr => ?_⟩
  have h := hz
  unfold fn85 at h
  exact (show am_W X C 85 _ 0 0 0 [(0, .inr (.inr (6, o))), (1, .inr (.inr (2, a))), (2, .inl b), (3, .inl c)] [] μ from (am_c_iconst hG (pc := 0) d85_0 (by decide) (x_istore (lv' := [(4, .inl 0), (0, .inr (.inr (6, o))), (1, .inr (.inr (2, a))), (2, .inl b), (3, .inl c)]) hG (pc := 1) d85_1 (ml85 _ (by decide)) rfl (x_lp h (fun r h1 h2 => (am_lvw (lv2 := [(0, .inr (.inr (6, o))), (1, .inr (.inr (2, a))), (2, .inl b), (3, .inl c), (4, .inl 0)]) [1, 2, 3, 4, 0] rfl (w85_3 hG hr _ _ _ _ _ _ _ _ h1 (fun q1 e => am_q1 e h2 (fun h => am_q0 h)) (fun t1 e => am_q2 e h2 (fun h => (am_c_aload_n hG (pc := 50) d85_50 rfl (x_get_n (v := .inl (t1.2 o 9)) hG (pc := 51) d85_51 mo85 f6_62 rfl (am_c_bipush hG (pc := 54) d85_54 (by decide) (x_icmp_ge (tgt := 107) hG (pc := 56) d85_56 rfl h (fun h => (xq_vret hG (by decide) hr (pc := 107) d85_107 rk85 (am_q0 h))) (fun h => (am_c_aload_n hG (pc := 59) d85_59 rfl (x_get_n (v := .inr (.inr (16, am_ref o 0))) hG (pc := 60) d85_60 mo85 f6_9 rfl (am_c_iload_n hG (pc := 63) d85_63 rfl (am_c_aload_n hG (pc := 64) d85_64 rfl (x_get_n (v := .inl (t1.2 o 9)) hG (pc := 65) d85_65 mo85 f6_62 rfl (x_iastore hG (pc := 68) d85_68 h (fun h => (am_c_aload_n hG (pc := 69) d85_69 rfl (x_get_n (v := .inr (.inr (16, am_ref o 2))) hG (pc := 70) d85_70 mo85 f6_18 rfl (am_c_aload_n hG (pc := 73) d85_73 rfl (x_get_n (v := .inl ((am_up t1.2 (am_ref o 0) (c : Int).toNat (t1.2 o 9)) o 9)) hG (pc := 74) d85_74 mo85 f6_62 rfl (am_c_iload_n hG (pc := 77) d85_77 rfl (x_iastore hG (pc := 78) d85_78 h (fun h => (am_c_aload_n hG (pc := 79) d85_79 rfl (x_get_n (v := .inr (.inr (21, am_ref o 3))) hG (pc := 80) d85_80 mo85 f6_23 rfl (am_c_aload_n hG (pc := 83) d85_83 rfl (x_get_n (v := .inl ((am_up (am_up t1.2 (am_ref o 0) (c : Int).toNat (t1.2 o 9)) (am_ref o 2) ((am_up t1.2 (am_ref o 0) (c : Int).toNat (t1.2 o 9)) o 9 : Int).toNat c) o 9)) hG (pc := 84) d85_84 mo85 f6_62 rfl (x_aaload_L hG (pc := 87) d85_87 h (fun h => (am_c_aload_n hG (pc := 88) d85_88 rfl (am_c_iload_n hG (pc := 89) d85_89 rfl (am_c_iload_n hG (pc := 90) d85_90 rfl (x_virtual_r (t := 2) (o := a) (as2 := [.inl c, .inl b]) (rest := [.inr (.inr (3, am_ref (am_ref o 3) ((am_up (am_up t1.2 (am_ref o 0) (c : Int).toNat (t1.2 o 9)) (am_ref o 2) ((am_up t1.2 (am_ref o 0) (c : Int).toNat (t1.2 o 9)) o 9 : Int).toNat c) o 9 : Int).toNat))]) hG (pc := 91) d85_91 mo85 m6_103 (by decide) dp85_28 rfl rfl (Nat.le_of_ble_eq_true rfl) (Nat.le_of_ble_eq_true rfl) rg28 sd28 (e28 _ _ _ _) h (fun z2 h => (x_virtual_v (t := 3) (o := am_ref (am_ref o 3) ((am_up (am_up t1.2 (am_ref o 0) (c : Int).toNat (t1.2 o 9)) (am_ref o 2) ((am_up t1.2 (am_ref o 0) (c : Int).toNat (t1.2 o 9)) o 9 : Int).toNat c) o 9 : Int).toNat) (as2 := [.inr (.inr (3, z2.1.toNat))]) (rest := []) hG (pc := 94) d85_94 mo85 m6_107 (by decide) dp85_67 rfl rfl (Nat.le_of_ble_eq_true rfl) (Nat.le_of_ble_eq_true rfl) rg67 sd67 (e67 _ _ _) h (fun z3 h => (am_c_aload_n hG (pc := 97) d85_97 rfl (am_c_dup hG (pc := 98) d85_98 rfl (x_get_n (v := .inl (z3.2 o 9)) hG (pc := 99) d85_99 mo85 f6_62 rfl (am_c_iconst hG (pc := 102) d85_102 (by decide) (am_c_iadd hG (pc := 103) d85_103 (x_put_i hG (pc := 104) d85_104 mo85 f6_62 (by decide) (xq_vret hG (by decide) hr (pc := 107) d85_107 rk85 (am_q0 h)))))))))))))))))))))))))))))))))))))))))))))))))
/-! ChartPress$Request.stackColumn()I -/
theorem D86 (k : Nat) {pc : Nat} {i : Instr} (h : tbi86[k]? = some (pc, i)) (hs : am_isw i = false) {n : Nat} (hn : am_il i = n) : decode (am_mc 86) pc = .ok (i, n) := am_d2 (by decide) (by decide) rfl h hs hn
theorem d86_0 : decode (am_mc 86) 0 = .ok (.aload_n 0, 1) := D86 0 rfl rfl rfl
theorem d86_1 : decode (am_mc 86) 1 = .ok (.getfield 83, 3) := D86 1 rfl rfl rfl
theorem d86_4 : decode (am_mc 86) 4 = .ok (.ireturn, 1) := D86 2 rfl rfl rfl
theorem ml86 : ∀ n, n < 1 → n < am_ml 86 := fun _ h => h
theorem mo86 : am_mo 86 = 4 := by decide +kernel
theorem mr86 : am_mr 86 = some .int := by decide +kernel
theorem rg86 : am_rcg 86 = 5 := by decide +kernel
def fn86 (o : Nat) (μ : am_M) : Option (Int × am_M) := some (μ o 11, μ)
def sp86 : am_F := fun vs μ => am_aR 4 vs fun o vs => am_a0 vs (fn86 o μ)
theorem e86 (o : Nat) (μ : am_M) : sp86 [.inr (.inr (4, o))] μ = fn86 o μ := am_aR_c.trans am_a0_c
theorem sd86 : am_Sd 86 sp86 := by
  refine am_Sd_of (by decide) (fun vs μ μ' x h hv hM => ?_)
  obtain ⟨o, vs0, rfl, h0⟩ := am_aR_s h
  obtain ⟨rfl, hz⟩ := am_a0_s h0
  refine ⟨Nat.le_of_ble_eq_true rfl, fun X C hG hr => ?_⟩
  have h := hz
  unfold fn86 at h
  exact (show am_W X C 86 _ 0 0 0 [(0, .inr (.inr (4, o)))] [] μ from (am_c_aload_n hG (pc := 0) d86_0 rfl (x_get_n (v := .inl (μ o 11)) hG (pc := 1) d86_1 mo86 f4_83 rfl (xq_iret hG (by decide) hr (pc := 4) d86_4 mr86 (am_q0 h)))))
/-! ChartPress$Groups.joinSeries(LChartPress$Table;II)V -/
theorem D87 (k : Nat) {pc : Nat} {i : Instr} (h : tbi87[k]? = some (pc, i)) (hs : am_isw i = false) {n : Nat} (hn : am_il i = n) : decode (am_mc 87) pc = .ok (i, n) := am_d2 (by decide) (by decide) rfl h hs hn
theorem d87_0 : decode (am_mc 87) 0 = .ok (.iconst 0, 1) := D87 0 rfl rfl rfl
theorem d87_1 : decode (am_mc 87) 1 = .ok (.istore 4, 2) := D87 1 rfl rfl rfl
theorem d87_3 : decode (am_mc 87) 3 = .ok (.iload 4, 2) := D87 2 rfl rfl rfl
theorem d87_5 : decode (am_mc 87) 5 = .ok (.iload_n 3, 1) := D87 3 rfl rfl rfl
theorem d87_6 : decode (am_mc 87) 6 = .ok (.if_icmp .ge 58, 3) := D87 4 rfl rfl rfl
theorem d87_9 : decode (am_mc 87) 9 = .ok (.aload_n 0, 1) := D87 5 rfl rfl rfl
theorem d87_10 : decode (am_mc 87) 10 = .ok (.getfield 15, 3) := D87 6 rfl rfl rfl
theorem d87_13 : decode (am_mc 87) 13 = .ok (.iload 4, 2) := D87 7 rfl rfl rfl
theorem d87_15 : decode (am_mc 87) 15 = .ok (.iaload, 1) := D87 8 rfl rfl rfl
theorem d87_16 : decode (am_mc 87) 16 = .ok (.iconst (-1), 1) := D87 9 rfl rfl rfl
theorem d87_17 : decode (am_mc 87) 17 = .ok (.if_icmp .eq 41, 3) := D87 10 rfl rfl rfl
theorem d87_20 : decode (am_mc 87) 20 = .ok (.iload_n 2, 1) := D87 11 rfl rfl rfl
theorem d87_21 : decode (am_mc 87) 21 = .ok (.iconst (-1), 1) := D87 12 rfl rfl rfl
theorem d87_22 : decode (am_mc 87) 22 = .ok (.if_icmp .eq 22, 3) := D87 13 rfl rfl rfl
theorem d87_25 : decode (am_mc 87) 25 = .ok (.aload_n 1, 1) := D87 14 rfl rfl rfl
theorem d87_26 : decode (am_mc 87) 26 = .ok (.iload 4, 2) := D87 15 rfl rfl rfl
theorem d87_28 : decode (am_mc 87) 28 = .ok (.iload_n 2, 1) := D87 16 rfl rfl rfl
theorem d87_29 : decode (am_mc 87) 29 = .ok (.invokevirtual 103, 3) := D87 17 rfl rfl rfl
theorem d87_32 : decode (am_mc 87) 32 = .ok (.aload_n 1, 1) := D87 18 rfl rfl rfl
theorem d87_33 : decode (am_mc 87) 33 = .ok (.iload_n 3, 1) := D87 19 rfl rfl rfl
theorem d87_34 : decode (am_mc 87) 34 = .ok (.iload_n 2, 1) := D87 20 rfl rfl rfl
theorem d87_35 : decode (am_mc 87) 35 = .ok (.invokevirtual 103, 3) := D87 21 rfl rfl rfl
theorem d87_38 : decode (am_mc 87) 38 = .ok (.invokevirtual 111, 3) := D87 22 rfl rfl rfl
theorem d87_41 : decode (am_mc 87) 41 = .ok (.ifCond .eq 17, 3) := D87 23 rfl rfl rfl
theorem d87_44 : decode (am_mc 87) 44 = .ok (.aload_n 0, 1) := D87 24 rfl rfl rfl
theorem d87_45 : decode (am_mc 87) 45 = .ok (.getfield 15, 3) := D87 25 rfl rfl rfl
theorem d87_48 : decode (am_mc 87) 48 = .ok (.iload_n 3, 1) := D87 26 rfl rfl rfl
theorem d87_49 : decode (am_mc 87) 49 = .ok (.aload_n 0, 1) := D87 27 rfl rfl rfl
theorem d87_50 : decode (am_mc 87) 50 = .ok (.getfield 15, 3) := D87 28 rfl rfl rfl
theorem d87_53 : decode (am_mc 87) 53 = .ok (.iload 4, 2) := D87 29 rfl rfl rfl
theorem d87_55 : decode (am_mc 87) 55 = .ok (.iaload, 1) := D87 30 rfl rfl rfl
theorem d87_56 : decode (am_mc 87) 56 = .ok (.iastore, 1) := D87 31 rfl rfl rfl
theorem d87_57 : decode (am_mc 87) 57 = .ok (.return_, 1) := D87 32 rfl rfl rfl
theorem d87_58 : decode (am_mc 87) 58 = .ok (.iinc 4 1, 3) := D87 33 rfl rfl rfl
theorem d87_61 : decode (am_mc 87) 61 = .ok (.goto (-58), 3) := D87 34 rfl rfl rfl
theorem d87_64 : decode (am_mc 87) 64 = .ok (.aload_n 0, 1) := D87 35 rfl rfl rfl
theorem d87_65 : decode (am_mc 87) 65 = .ok (.getfield 15, 3) := D87 36 rfl rfl rfl
theorem d87_68 : decode (am_mc 87) 68 = .ok (.iload_n 3, 1) := D87 37 rfl rfl rfl
theorem d87_69 : decode (am_mc 87) 69 = .ok (.aload_n 0, 1) := D87 38 rfl rfl rfl
theorem d87_70 : decode (am_mc 87) 70 = .ok (.getfield 66, 3) := D87 39 rfl rfl rfl
theorem d87_73 : decode (am_mc 87) 73 = .ok (.iastore, 1) := D87 40 rfl rfl rfl
theorem d87_74 : decode (am_mc 87) 74 = .ok (.aload_n 0, 1) := D87 41 rfl rfl rfl
theorem d87_75 : decode (am_mc 87) 75 = .ok (.dup, 1) := D87 42 rfl rfl rfl
theorem d87_76 : decode (am_mc 87) 76 = .ok (.getfield 66, 3) := D87 43 rfl rfl rfl
theorem d87_79 : decode (am_mc 87) 79 = .ok (.iconst 1, 1) := D87 44 rfl rfl rfl
theorem d87_80 : decode (am_mc 87) 80 = .ok (.iadd, 1) := D87 45 rfl rfl rfl
theorem d87_81 : decode (am_mc 87) 81 = .ok (.putfield 66, 3) := D87 46 rfl rfl rfl
theorem d87_84 : decode (am_mc 87) 84 = .ok (.return_, 1) := D87 47 rfl rfl rfl
theorem ml87 : ∀ n, n < 5 → n < am_ml 87 := fun _ h => h
theorem mo87 : am_mo 87 = 6 := by decide +kernel
theorem rk87 : am_rk 87 = 0 := by decide +kernel
theorem rg87 : am_rcg 87 = 7 := by decide +kernel
theorem f6_15 : tb_f 6 15 = some (6, 1, 5, 16) := by decide +kernel
theorem f6_66 : tb_f 6 66 = some (6, 10, 0, 0) := by decide +kernel
theorem m6_111 : tb_m 6 111 = some (62, 2, 1, 0) := by decide +kernel
theorem dp87_28 : am_md 28 + 1 ≤ am_md 87 ∧ 8 + (am_ml 28 + 11) + am_lr 28 ≤ am_lr 87 := by decide +kernel
theorem dp87_62 : am_md 62 + 1 ≤ am_md 87 ∧ 8 + (am_ml 62 + 11) + am_lr 62 ≤ am_lr 87 := by decide +kernel
def L87_3 (l0 : Nat) (l1 : Nat) (l2 : Int) (l3 : Int) : Nat → Int → am_M → Option ((Int × am_M) ⊕ (Int × am_M))
  | 0, _, _ => none
  | n + 1, l4, μ => (if l4 < l3 then (if (0 : Int) ≤ l4 ∧ l4 < ((am_len (am_ref l0 1) : Nat) : Int) then (if μ (am_ref l0 1) (l4 : Int).toNat = (-1) then (L87_3 l0 l1 l2 l3 n (w32 (l4 + 1)) μ) else (if l2 = (-1) then (if (0 : Int) ≤ l4 ∧ l4 < ((am_len (am_ref l0 1) : Nat) : Int) then (if (0 : Int) ≤ l3 ∧ l3 < ((am_len (am_ref l0 1) : Nat) : Int) then some (.inl (0, am_up μ (am_ref l0 1) (l3 : Int).toNat (μ (am_ref l0 1) (l4 : Int).toNat))) else none) else none) else (am_op (fn28 l1 l4 l2 μ) (fun z1 => (am_op (fn28 l1 l3 l2 z1.2) (fun z2 => (am_op (fn62 z1.1.toNat z2.1.toNat z2.2) (fun z3 => (if z3.1 = 0 then (L87_3 l0 l1 l2 l3 n (w32 (l4 + 1)) z3.2) else (if (0 : Int) ≤ l4 ∧ l4 < ((am_len (am_ref l0 1) : Nat) : Int) then (if (0 : Int) ≤ l3 ∧ l3 < ((am_len (am_ref l0 1) : Nat) : Int) then some (.inl (0, am_up z3.2 (am_ref l0 1) (l3 : Int).toNat (z3.2 (am_ref l0 1) (l4 : Int).toNat))) else none) else none)))))))))) else none) else (some (.inr (l4, μ))))
theorem w87_3 {X : am_K} {C : am_C} {Q : State → Prop} (hG : am_G X C 87 0 0 (0, fun _ => 0)) (hr : match X with | (_, _, _, _, _, _, _, _, meth, _) => meth.sig.returnType = am_mr 87 ∧ meth.locks = false) (l0 : Nat) (l1 : Nat) (l2 : Int) (l3 : Int) : ∀ (n : Nat) (l4 : Int) (μ : am_M) (r : (Int × am_M) ⊕ (Int × am_M)), L87_3 l0 l1 l2 l3 n l4 μ = some r → (∀ q, r = .inl q → Q = am_E X C 87 q.1 q.2) → (∀ t, r = .inr t → am_W X C 87 Q 0 0 64 [(0, .inr (.inr (6, l0))), (3, .inl l3)] [] t.2) → am_W X C 87 Q 0 0 3 [(0, .inr (.inr (6, l0))), (1, .inr (.inr (2, l1))), (2, .inl l2), (3, .inl l3), (4, .inl l4)] [] μ := by
  intro n
  induction n with
  | zero => intro l4 μ r h; cases h
  | succ n ih =>
    intro l4 μ r h hI hX
    unfold L87_3 at h
    exact (am_c_iload hG (pc := 3) d87_3 rfl (am_c_iload_n hG (pc := 5) d87_5 rfl (x_icmp_ge (tgt := 64) hG (pc := 6) d87_6 rfl h (fun h => (am_lvw (lv2 := [(0, .inr (.inr (6, l0))), (3, .inl l3)]) [0, 3] rfl (hX (l4, μ) (Option.some.inj h).symm))) (fun h => (am_c_aload_n hG (pc := 9) d87_9 rfl (x_get_n (v := .inr (.inr (16, am_ref l0 1))) hG (pc := 10) d87_10 mo87 f6_15 rfl (am_c_iload hG (pc := 13) d87_13 rfl (x_iaload hG (pc := 15) d87_15 h (fun h => (am_c_iconst hG (pc := 16) d87_16 (by decide) (x_icmp_eq (tgt := 58) hG (pc := 17) d87_17 rfl h (fun h => (x_iinc (lv' := [(4, .inl (w32 (l4 + 1))), (0, .inr (.inr (6, l0))), (1, .inr (.inr (2, l1))), (2, .inl l2), (3, .inl l3)]) hG (pc := 58) d87_58 rfl (ml87 _ (by decide)) rfl (x_goto (tgt := 3) hG (pc := 61) d87_61 rfl (am_lvw (lv2 := [(0, .inr (.inr (6, l0))), (1, .inr (.inr (2, l1))), (2, .inl l2), (3, .inl l3), (4, .inl (w32 (l4 + 1)))]) [1, 2, 3, 4, 0] rfl (ih _ _ _ h hI hX))))) (fun h => (am_c_iload_n hG (pc := 20) d87_20 rfl (am_c_iconst hG (pc := 21) d87_21 (by decide) (x_icmp_eq (tgt := 44) hG (pc := 22) d87_22 rfl h (fun h => (am_c_aload_n hG (pc := 44) d87_44 rfl (x_get_n (v := .inr (.inr (16, am_ref l0 1))) hG (pc := 45) d87_45 mo87 f6_15 rfl (am_c_iload_n hG (pc := 48) d87_48 rfl (am_c_aload_n hG (pc := 49) d87_49 rfl (x_get_n (v := .inr (.inr (16, am_ref l0 1))) hG (pc := 50) d87_50 mo87 f6_15 rfl (am_c_iload hG (pc := 53) d87_53 rfl (x_iaload hG (pc := 55) d87_55 h (fun h => (x_iastore hG (pc := 56) d87_56 h (fun h => (xq_vret hG (by decide) hr (pc := 57) d87_57 rk87 (hI _ (Option.some.inj h).symm))))))))))))) (fun h => (am_c_aload_n hG (pc := 25) d87_25 rfl (am_c_iload hG (pc := 26) d87_26 rfl (am_c_iload_n hG (pc := 28) d87_28 rfl (x_virtual_r (t := 2) (o := l1) (as2 := [.inl l4, .inl l2]) (rest := []) hG (pc := 29) d87_29 mo87 m6_103 (by decide) dp87_28 rfl rfl (Nat.le_of_ble_eq_true rfl) (Nat.le_of_ble_eq_true rfl) rg28 sd28 (e28 _ _ _ _) h (fun z1 h => (am_c_aload_n hG (pc := 32) d87_32 rfl (am_c_iload_n hG (pc := 33) d87_33 rfl (am_c_iload_n hG (pc := 34) d87_34 rfl (x_virtual_r (t := 2) (o := l1) (as2 := [.inl l3, .inl l2]) (rest := [.inr (.inr (3, z1.1.toNat))]) hG (pc := 35) d87_35 mo87 m6_103 (by decide) dp87_28 rfl rfl (Nat.le_of_ble_eq_true rfl) (Nat.le_of_ble_eq_true rfl) rg28 sd28 (e28 _ _ _ _) h (fun z2 h => (x_virtual_i (t := 3) (o := z1.1.toNat) (as2 := [.inr (.inr (3, z2.1.toNat))]) (rest := []) hG (pc := 38) d87_38 mo87 m6_111 (by decide) dp87_62 rfl rfl (Nat.le_of_ble_eq_true rfl) (Nat.le_of_ble_eq_true rfl) rg62 sd62 (e62 _ _ _) h (fun z3 h => (x_if_eq (tgt := 58) hG (pc := 41) d87_41 rfl h (fun h => (x_iinc (lv' := [(4, .inl (w32 (l4 + 1))), (0, .inr (.inr (6, l0))), (1, .inr (.inr (2, l1))), (2, .inl l2), (3, .inl l3)]) hG (pc := 58) d87_58 rfl (ml87 _ (by decide)) rfl (x_goto (tgt := 3) hG (pc := 61) d87_61 rfl (am_lvw (lv2 := [(0, .inr (.inr (6, l0))), (1, .inr (.inr (2, l1))), (2, .inl l2), (3, .inl l3), (4, .inl (w32 (l4 + 1)))]) [1, 2, 3, 4, 0] rfl (ih _ _ _ h hI hX))))) (fun h => (am_c_aload_n hG (pc := 44) d87_44 rfl (x_get_n (v := .inr (.inr (16, am_ref l0 1))) hG (pc := 45) d87_45 mo87 f6_15 rfl (am_c_iload_n hG (pc := 48) d87_48 rfl (am_c_aload_n hG (pc := 49) d87_49 rfl (x_get_n (v := .inr (.inr (16, am_ref l0 1))) hG (pc := 50) d87_50 mo87 f6_15 rfl (am_c_iload hG (pc := 53) d87_53 rfl (x_iaload hG (pc := 55) d87_55 h (fun h => (x_iastore hG (pc := 56) d87_56 h (fun h => (xq_vret hG (by decide) hr (pc := 57) d87_57 rk87 (hI _ (Option.some.inj h).symm))))))))))))))))))))))))))))))))))))))))))
def fn87 (o : Nat) (a : Nat) (b : Int) (c : Int) (μ : am_M) : Option (Int × am_M) := (am_op (L87_3 o a b c am_fuel 0 μ) (fun s => am_lp s (fun q1 => some q1) (fun t1 => (if (0 : Int) ≤ c ∧ c < ((am_len (am_ref o 1) : Nat) : Int) then some (0, am_up (am_up t1.2 (am_ref o 1) (c : Int).toNat (t1.2 o 10)) o 10 (w32 (((am_up t1.2 (am_ref o 1) (c : Int).toNat (t1.2 o 10)) o 10) + 1))) else none))))
def sp87 : am_F := fun vs μ => am_aR 6 vs fun o vs => am_aR 2 vs fun a vs => am_aI vs fun b vs => am_aI vs fun c vs => am_a0 vs (fn87 o a b c μ)
theorem e87 (o : Nat) (a : Nat) (b : Int) (c : Int) (μ : am_M) : sp87 [.inr (.inr (6, o)), .inr (.inr (2, a)), .inl b, .inl c] μ = fn87 o a b c μ := am_aR_c.trans (am_aR_c.trans (am_aI_c.trans (am_aI_c.trans am_a0_c)))
theorem sd87 : am_Sd 87 sp87 := by
  refine am_Sd_of (by decide) (fun vs μ μ' x h hv hM => ?_)
  obtain ⟨o, vs0, rfl, h0⟩ := am_aR_s h
  obtain ⟨a, vs1, rfl, h1⟩ := am_aR_s h0
  obtain ⟨b, vs2, rfl, h2⟩ := am_aI_s h1
  obtain ⟨c, vs3, rfl, h3⟩ := am_aI_s h2
  obtain ⟨rfl, hz⟩ := am_a0_s h3
  refine ⟨Nat.le_of_ble_eq_true rfl, fun X C hG hr => ?_⟩
  have h := hz
  unfold fn87 at h
  exact (show am_W X C 87 _ 0 0 0 [(0, .inr (.inr (6, o))), (1, .inr (.inr (2, a))), (2, .inl b), (3, .inl c)] [] μ from (am_c_iconst hG (pc := 0) d87_0 (by decide) (x_istore (lv' := [(4, .inl 0), (0, .inr (.inr (6, o))), (1, .inr (.inr (2, a))), (2, .inl b), (3, .inl c)]) hG (pc := 1) d87_1 (ml87 _ (by decide)) rfl (x_lp h (fun r h1 h2 => (am_lvw (lv2 := [(0, .inr (.inr (6, o))), (1, .inr (.inr (2, a))), (2, .inl b), (3, .inl c), (4, .inl 0)]) [1, 2, 3, 4, 0] rfl (w87_3 hG hr _ _ _ _ _ _ _ _ h1 (fun q1 e => am_q1 e h2 (fun h => am_q0 h)) (fun t1 e => am_q2 e h2 (fun h => (am_c_aload_n hG (pc := 64) d87_64 rfl (x_get_n (v := .inr (.inr (16, am_ref o 1))) hG (pc := 65) d87_65 mo87 f6_15 rfl (am_c_iload_n hG (pc := 68) d87_68 rfl (am_c_aload_n hG (pc := 69) d87_69 rfl (x_get_n (v := .inl (t1.2 o 10)) hG (pc := 70) d87_70 mo87 f6_66 rfl (x_iastore hG (pc := 73) d87_73 h (fun h => (am_c_aload_n hG (pc := 74) d87_74 rfl (am_c_dup hG (pc := 75) d87_75 rfl (x_get_n (v := .inl ((am_up t1.2 (am_ref o 1) (c : Int).toNat (t1.2 o 10)) o 10)) hG (pc := 76) d87_76 mo87 f6_66 rfl (am_c_iconst hG (pc := 79) d87_79 (by decide) (am_c_iadd hG (pc := 80) d87_80 (x_put_i hG (pc := 81) d87_81 mo87 f6_66 (by decide) (xq_vret hG (by decide) hr (pc := 84) d87_84 rk87 (am_q0 h))))))))))))))))))))))))
/-! ChartPress$Tally.clear()V -/
theorem D88 (k : Nat) {pc : Nat} {i : Instr} (h : tbi88[k]? = some (pc, i)) (hs : am_isw i = false) {n : Nat} (hn : am_il i = n) : decode (am_mc 88) pc = .ok (i, n) := am_d2 (by decide) (by decide) rfl h hs hn
theorem d88_0 : decode (am_mc 88) 0 = .ok (.aload_n 0, 1) := D88 0 rfl rfl rfl
theorem d88_1 : decode (am_mc 88) 1 = .ok (.iconst 0, 1) := D88 1 rfl rfl rfl
theorem d88_2 : decode (am_mc 88) 2 = .ok (.putfield 9, 3) := D88 2 rfl rfl rfl
theorem d88_5 : decode (am_mc 88) 5 = .ok (.aload_n 0, 1) := D88 3 rfl rfl rfl
theorem d88_6 : decode (am_mc 88) 6 = .ok (.iconst 0, 1) := D88 4 rfl rfl rfl
theorem d88_7 : decode (am_mc 88) 7 = .ok (.putfield 15, 3) := D88 5 rfl rfl rfl
theorem d88_10 : decode (am_mc 88) 10 = .ok (.aload_n 0, 1) := D88 6 rfl rfl rfl
theorem d88_11 : decode (am_mc 88) 11 = .ok (.lconst 0, 1) := D88 7 rfl rfl rfl
theorem d88_12 : decode (am_mc 88) 12 = .ok (.putfield 18, 3) := D88 8 rfl rfl rfl
theorem d88_15 : decode (am_mc 88) 15 = .ok (.aload_n 0, 1) := D88 9 rfl rfl rfl
theorem d88_16 : decode (am_mc 88) 16 = .ok (.lconst 0, 1) := D88 10 rfl rfl rfl
theorem d88_17 : decode (am_mc 88) 17 = .ok (.putfield 22, 3) := D88 11 rfl rfl rfl
theorem d88_20 : decode (am_mc 88) 20 = .ok (.aload_n 0, 1) := D88 12 rfl rfl rfl
theorem d88_21 : decode (am_mc 88) 21 = .ok (.lconst 0, 1) := D88 13 rfl rfl rfl
theorem d88_22 : decode (am_mc 88) 22 = .ok (.putfield 25, 3) := D88 14 rfl rfl rfl
theorem d88_25 : decode (am_mc 88) 25 = .ok (.return_, 1) := D88 15 rfl rfl rfl
theorem ml88 : ∀ n, n < 1 → n < am_ml 88 := fun _ h => h
theorem mo88 : am_mo 88 = 7 := by decide +kernel
theorem rk88 : am_rk 88 = 0 := by decide +kernel
theorem rg88 : am_rcg 88 = 8 := by decide +kernel
theorem f7_9 : tb_f 7 9 = some (7, 0, 0, 0) := by decide +kernel
theorem f7_15 : tb_f 7 15 = some (7, 1, 0, 0) := by decide +kernel
theorem f7_18 : tb_f 7 18 = some (7, 2, 1, 0) := by decide +kernel
theorem f7_22 : tb_f 7 22 = some (7, 3, 1, 0) := by decide +kernel
theorem f7_25 : tb_f 7 25 = some (7, 4, 1, 0) := by decide +kernel
def fn88 (o : Nat) (μ : am_M) : Option (Int × am_M) := some (0, am_up (am_up (am_up (am_up (am_up μ o 0 0) o 1 0) o 2 0) o 3 0) o 4 0)
def sp88 : am_F := fun vs μ => am_aR 7 vs fun o vs => am_a0 vs (fn88 o μ)
theorem e88 (o : Nat) (μ : am_M) : sp88 [.inr (.inr (7, o))] μ = fn88 o μ := am_aR_c.trans am_a0_c
theorem sd88 : am_Sd 88 sp88 := by
  refine am_Sd_of (by decide) (fun vs μ μ' x h hv hM => ?_)
  obtain ⟨o, vs0, rfl, h0⟩ := am_aR_s h
  obtain ⟨rfl, hz⟩ := am_a0_s h0
  refine ⟨Nat.le_of_ble_eq_true rfl, fun X C hG hr => ?_⟩
  have h := hz
  unfold fn88 at h
  exact (show am_W X C 88 _ 0 0 0 [(0, .inr (.inr (7, o)))] [] μ from (am_c_aload_n hG (pc := 0) d88_0 rfl (am_c_iconst hG (pc := 1) d88_1 (by decide) (x_put_i hG (pc := 2) d88_2 mo88 f7_9 (by decide) (am_c_aload_n hG (pc := 5) d88_5 rfl (am_c_iconst hG (pc := 6) d88_6 (by decide) (x_put_i hG (pc := 7) d88_7 mo88 f7_15 (by decide) (am_c_aload_n hG (pc := 10) d88_10 rfl (am_c_lconst hG (pc := 11) d88_11 (x_put_l hG (pc := 12) d88_12 mo88 f7_18 (by decide) (am_c_aload_n hG (pc := 15) d88_15 rfl (am_c_lconst hG (pc := 16) d88_16 (x_put_l hG (pc := 17) d88_17 mo88 f7_22 (by decide) (am_c_aload_n hG (pc := 20) d88_20 rfl (am_c_lconst hG (pc := 21) d88_21 (x_put_l hG (pc := 22) d88_22 mo88 f7_25 (by decide) (xq_vret hG (by decide) hr (pc := 25) d88_25 rk88 (am_q0 h))))))))))))))))))
/-! ChartPress$Request.yColumn()I -/
theorem D89 (k : Nat) {pc : Nat} {i : Instr} (h : tbi89[k]? = some (pc, i)) (hs : am_isw i = false) {n : Nat} (hn : am_il i = n) : decode (am_mc 89) pc = .ok (i, n) := am_d2 (by decide) (by decide) rfl h hs hn
theorem d89_0 : decode (am_mc 89) 0 = .ok (.aload_n 0, 1) := D89 0 rfl rfl rfl
theorem d89_1 : decode (am_mc 89) 1 = .ok (.getfield 77, 3) := D89 1 rfl rfl rfl
theorem d89_4 : decode (am_mc 89) 4 = .ok (.ireturn, 1) := D89 2 rfl rfl rfl
theorem ml89 : ∀ n, n < 1 → n < am_ml 89 := fun _ h => h
theorem mo89 : am_mo 89 = 4 := by decide +kernel
theorem mr89 : am_mr 89 = some .int := by decide +kernel
theorem rg89 : am_rcg 89 = 5 := by decide +kernel
def fn89 (o : Nat) (μ : am_M) : Option (Int × am_M) := some (μ o 8, μ)
def sp89 : am_F := fun vs μ => am_aR 4 vs fun o vs => am_a0 vs (fn89 o μ)
theorem e89 (o : Nat) (μ : am_M) : sp89 [.inr (.inr (4, o))] μ = fn89 o μ := am_aR_c.trans am_a0_c
theorem sd89 : am_Sd 89 sp89 := by
  refine am_Sd_of (by decide) (fun vs μ μ' x h hv hM => ?_)
  obtain ⟨o, vs0, rfl, h0⟩ := am_aR_s h
  obtain ⟨rfl, hz⟩ := am_a0_s h0
  refine ⟨Nat.le_of_ble_eq_true rfl, fun X C hG hr => ?_⟩
  have h := hz
  unfold fn89 at h
  exact (show am_W X C 89 _ 0 0 0 [(0, .inr (.inr (4, o)))] [] μ from (am_c_aload_n hG (pc := 0) d89_0 rfl (x_get_n (v := .inl (μ o 8)) hG (pc := 1) d89_1 mo89 f4_77 rfl (xq_iret hG (by decide) hr (pc := 4) d89_4 mr89 (am_q0 h)))))
/-! ChartPress$Tally.addRow()V -/
theorem D90 (k : Nat) {pc : Nat} {i : Instr} (h : tbi90[k]? = some (pc, i)) (hs : am_isw i = false) {n : Nat} (hn : am_il i = n) : decode (am_mc 90) pc = .ok (i, n) := am_d2 (by decide) (by decide) rfl h hs hn
theorem d90_0 : decode (am_mc 90) 0 = .ok (.aload_n 0, 1) := D90 0 rfl rfl rfl
theorem d90_1 : decode (am_mc 90) 1 = .ok (.dup, 1) := D90 1 rfl rfl rfl
theorem d90_2 : decode (am_mc 90) 2 = .ok (.getfield 9, 3) := D90 2 rfl rfl rfl
theorem d90_5 : decode (am_mc 90) 5 = .ok (.iconst 1, 1) := D90 3 rfl rfl rfl
theorem d90_6 : decode (am_mc 90) 6 = .ok (.iadd, 1) := D90 4 rfl rfl rfl
theorem d90_7 : decode (am_mc 90) 7 = .ok (.putfield 9, 3) := D90 5 rfl rfl rfl
theorem d90_10 : decode (am_mc 90) 10 = .ok (.return_, 1) := D90 6 rfl rfl rfl
theorem ml90 : ∀ n, n < 1 → n < am_ml 90 := fun _ h => h
theorem mo90 : am_mo 90 = 7 := by decide +kernel
theorem rk90 : am_rk 90 = 0 := by decide +kernel
theorem rg90 : am_rcg 90 = 8 := by decide +kernel
def fn90 (o : Nat) (μ : am_M) : Option (Int × am_M) := some (0, am_up μ o 0 (w32 ((μ o 0) + 1)))
def sp90 : am_F := fun vs μ => am_aR 7 vs fun o vs => am_a0 vs (fn90 o μ)
theorem e90 (o : Nat) (μ : am_M) : sp90 [.inr (.inr (7, o))] μ = fn90 o μ := am_aR_c.trans am_a0_c
theorem sd90 : am_Sd 90 sp90 := by
  refine am_Sd_of (by decide) (fun vs μ μ' x h hv hM => ?_)
  obtain ⟨o, vs0, rfl, h0⟩ := am_aR_s h
  obtain ⟨rfl, hz⟩ := am_a0_s h0
  refine ⟨Nat.le_of_ble_eq_true rfl, fun X C hG hr => ?_⟩
  have h := hz
  unfold fn90 at h
  exact (show am_W X C 90 _ 0 0 0 [(0, .inr (.inr (7, o)))] [] μ from (am_c_aload_n hG (pc := 0) d90_0 rfl (am_c_dup hG (pc := 1) d90_1 rfl (x_get_n (v := .inl (μ o 0)) hG (pc := 2) d90_2 mo90 f7_9 rfl (am_c_iconst hG (pc := 5) d90_5 (by decide) (am_c_iadd hG (pc := 6) d90_6 (x_put_i hG (pc := 7) d90_7 mo90 f7_9 (by decide) (xq_vret hG (by decide) hr (pc := 10) d90_10 rk90 (am_q0 h)))))))))
/-! ChartPress$Tally.addKnown(J)V -/
theorem D91 (k : Nat) {pc : Nat} {i : Instr} (h : tbi91[k]? = some (pc, i)) (hs : am_isw i = false) {n : Nat} (hn : am_il i = n) : decode (am_mc 91) pc = .ok (i, n) := am_d2 (by decide) (by decide) rfl h hs hn
theorem d91_0 : decode (am_mc 91) 0 = .ok (.aload_n 0, 1) := D91 0 rfl rfl rfl
theorem d91_1 : decode (am_mc 91) 1 = .ok (.aload_n 0, 1) := D91 1 rfl rfl rfl
theorem d91_2 : decode (am_mc 91) 2 = .ok (.getfield 15, 3) := D91 2 rfl rfl rfl
theorem d91_5 : decode (am_mc 91) 5 = .ok (.ifCond .eq 12, 3) := D91 3 rfl rfl rfl
theorem d91_8 : decode (am_mc 91) 8 = .ok (.lload_n 1, 1) := D91 4 rfl rfl rfl
theorem d91_9 : decode (am_mc 91) 9 = .ok (.aload_n 0, 1) := D91 5 rfl rfl rfl
theorem d91_10 : decode (am_mc 91) 10 = .ok (.getfield 22, 3) := D91 6 rfl rfl rfl
theorem d91_13 : decode (am_mc 91) 13 = .ok (.lcmp, 1) := D91 7 rfl rfl rfl
theorem d91_14 : decode (am_mc 91) 14 = .ok (.ifCond .ge 7, 3) := D91 8 rfl rfl rfl
theorem d91_17 : decode (am_mc 91) 17 = .ok (.lload_n 1, 1) := D91 9 rfl rfl rfl
theorem d91_18 : decode (am_mc 91) 18 = .ok (.goto 7, 3) := D91 10 rfl rfl rfl
theorem d91_21 : decode (am_mc 91) 21 = .ok (.aload_n 0, 1) := D91 11 rfl rfl rfl
theorem d91_22 : decode (am_mc 91) 22 = .ok (.getfield 22, 3) := D91 12 rfl rfl rfl
theorem d91_25 : decode (am_mc 91) 25 = .ok (.putfield 22, 3) := D91 13 rfl rfl rfl
theorem d91_28 : decode (am_mc 91) 28 = .ok (.aload_n 0, 1) := D91 14 rfl rfl rfl
theorem d91_29 : decode (am_mc 91) 29 = .ok (.aload_n 0, 1) := D91 15 rfl rfl rfl
theorem d91_30 : decode (am_mc 91) 30 = .ok (.getfield 15, 3) := D91 16 rfl rfl rfl
theorem d91_33 : decode (am_mc 91) 33 = .ok (.ifCond .eq 12, 3) := D91 17 rfl rfl rfl
theorem d91_36 : decode (am_mc 91) 36 = .ok (.lload_n 1, 1) := D91 18 rfl rfl rfl
theorem d91_37 : decode (am_mc 91) 37 = .ok (.aload_n 0, 1) := D91 19 rfl rfl rfl
theorem d91_38 : decode (am_mc 91) 38 = .ok (.getfield 25, 3) := D91 20 rfl rfl rfl
theorem d91_41 : decode (am_mc 91) 41 = .ok (.lcmp, 1) := D91 21 rfl rfl rfl
theorem d91_42 : decode (am_mc 91) 42 = .ok (.ifCond .le 7, 3) := D91 22 rfl rfl rfl
theorem d91_45 : decode (am_mc 91) 45 = .ok (.lload_n 1, 1) := D91 23 rfl rfl rfl
theorem d91_46 : decode (am_mc 91) 46 = .ok (.goto 7, 3) := D91 24 rfl rfl rfl
theorem d91_49 : decode (am_mc 91) 49 = .ok (.aload_n 0, 1) := D91 25 rfl rfl rfl
theorem d91_50 : decode (am_mc 91) 50 = .ok (.getfield 25, 3) := D91 26 rfl rfl rfl
theorem d91_53 : decode (am_mc 91) 53 = .ok (.putfield 25, 3) := D91 27 rfl rfl rfl
theorem d91_56 : decode (am_mc 91) 56 = .ok (.aload_n 0, 1) := D91 28 rfl rfl rfl
theorem d91_57 : decode (am_mc 91) 57 = .ok (.dup, 1) := D91 29 rfl rfl rfl
theorem d91_58 : decode (am_mc 91) 58 = .ok (.getfield 18, 3) := D91 30 rfl rfl rfl
theorem d91_61 : decode (am_mc 91) 61 = .ok (.lload_n 1, 1) := D91 31 rfl rfl rfl
theorem d91_62 : decode (am_mc 91) 62 = .ok (.ladd, 1) := D91 32 rfl rfl rfl
theorem d91_63 : decode (am_mc 91) 63 = .ok (.putfield 18, 3) := D91 33 rfl rfl rfl
theorem d91_66 : decode (am_mc 91) 66 = .ok (.aload_n 0, 1) := D91 34 rfl rfl rfl
theorem d91_67 : decode (am_mc 91) 67 = .ok (.dup, 1) := D91 35 rfl rfl rfl
theorem d91_68 : decode (am_mc 91) 68 = .ok (.getfield 15, 3) := D91 36 rfl rfl rfl
theorem d91_71 : decode (am_mc 91) 71 = .ok (.iconst 1, 1) := D91 37 rfl rfl rfl
theorem d91_72 : decode (am_mc 91) 72 = .ok (.iadd, 1) := D91 38 rfl rfl rfl
theorem d91_73 : decode (am_mc 91) 73 = .ok (.putfield 15, 3) := D91 39 rfl rfl rfl
theorem d91_76 : decode (am_mc 91) 76 = .ok (.return_, 1) := D91 40 rfl rfl rfl
theorem ml91 : ∀ n, n < 3 → n < am_ml 91 := fun _ h => h
theorem mo91 : am_mo 91 = 7 := by decide +kernel
theorem rk91 : am_rk 91 = 0 := by decide +kernel
theorem rg91 : am_rcg 91 = 8 := by decide +kernel
def fn91 (o : Nat) (a : Int) (μ : am_M) : Option (Int × am_M) := (if μ o 1 = 0 then (if (am_up μ o 3 a) o 1 = 0 then some (0, am_up (am_up (am_up (am_up μ o 3 a) o 4 a) o 2 (w64 (((am_up (am_up μ o 3 a) o 4 a) o 2) + a))) o 1 (w32 (((am_up (am_up (am_up μ o 3 a) o 4 a) o 2 (w64 (((am_up (am_up μ o 3 a) o 4 a) o 2) + a))) o 1) + 1))) else (if 0 < o_cmp a ((am_up μ o 3 a) o 4) then some (0, am_up (am_up (am_up (am_up μ o 3 a) o 4 a) o 2 (w64 (((am_up (am_up μ o 3 a) o 4 a) o 2) + a))) o 1 (w32 (((am_up (am_up (am_up μ o 3 a) o 4 a) o 2 (w64 (((am_up (am_up μ o 3 a) o 4 a) o 2) + a))) o 1) + 1))) else some (0, am_up (am_up (am_up (am_up μ o 3 a) o 4 ((am_up μ o 3 a) o 4)) o 2 (w64 (((am_up (am_up μ o 3 a) o 4 ((am_up μ o 3 a) o 4)) o 2) + a))) o 1 (w32 (((am_up (am_up (am_up μ o 3 a) o 4 ((am_up μ o 3 a) o 4)) o 2 (w64 (((am_up (am_up μ o 3 a) o 4 ((am_up μ o 3 a) o 4)) o 2) + a))) o 1) + 1))))) else (if o_cmp a (μ o 3) < 0 then (if (am_up μ o 3 a) o 1 = 0 then some (0, am_up (am_up (am_up (am_up μ o 3 a) o 4 a) o 2 (w64 (((am_up (am_up μ o 3 a) o 4 a) o 2) + a))) o 1 (w32 (((am_up (am_up (am_up μ o 3 a) o 4 a) o 2 (w64 (((am_up (am_up μ o 3 a) o 4 a) o 2) + a))) o 1) + 1))) else (if 0 < o_cmp a ((am_up μ o 3 a) o 4) then some (0, am_up (am_up (am_up (am_up μ o 3 a) o 4 a) o 2 (w64 (((am_up (am_up μ o 3 a) o 4 a) o 2) + a))) o 1 (w32 (((am_up (am_up (am_up μ o 3 a) o 4 a) o 2 (w64 (((am_up (am_up μ o 3 a) o 4 a) o 2) + a))) o 1) + 1))) else some (0, am_up (am_up (am_up (am_up μ o 3 a) o 4 ((am_up μ o 3 a) o 4)) o 2 (w64 (((am_up (am_up μ o 3 a) o 4 ((am_up μ o 3 a) o 4)) o 2) + a))) o 1 (w32 (((am_up (am_up (am_up μ o 3 a) o 4 ((am_up μ o 3 a) o 4)) o 2 (w64 (((am_up (am_up μ o 3 a) o 4 ((am_up μ o 3 a) o 4)) o 2) + a))) o 1) + 1))))) else (if (am_up μ o 3 (μ o 3)) o 1 = 0 then some (0, am_up (am_up (am_up (am_up μ o 3 (μ o 3)) o 4 a) o 2 (w64 (((am_up (am_up μ o 3 (μ o 3)) o 4 a) o 2) + a))) o 1 (w32 (((am_up (am_up (am_up μ o 3 (μ o 3)) o 4 a) o 2 (w64 (((am_up (am_up μ o 3 (μ o 3)) o 4 a) o 2) + a))) o 1) + 1))) else (if 0 < o_cmp a ((am_up μ o 3 (μ o 3)) o 4) then some (0, am_up (am_up (am_up (am_up μ o 3 (μ o 3)) o 4 a) o 2 (w64 (((am_up (am_up μ o 3 (μ o 3)) o 4 a) o 2) + a))) o 1 (w32 (((am_up (am_up (am_up μ o 3 (μ o 3)) o 4 a) o 2 (w64 (((am_up (am_up μ o 3 (μ o 3)) o 4 a) o 2) + a))) o 1) + 1))) else some (0, am_up (am_up (am_up (am_up μ o 3 (μ o 3)) o 4 ((am_up μ o 3 (μ o 3)) o 4)) o 2 (w64 (((am_up (am_up μ o 3 (μ o 3)) o 4 ((am_up μ o 3 (μ o 3)) o 4)) o 2) + a))) o 1 (w32 (((am_up (am_up (am_up μ o 3 (μ o 3)) o 4 ((am_up μ o 3 (μ o 3)) o 4)) o 2 (w64 (((am_up (am_up μ o 3 (μ o 3)) o 4 ((am_up μ o 3 (μ o 3)) o 4)) o 2) + a))) o 1) + 1)))))))
def sp91 : am_F := fun vs μ => am_aR 7 vs fun o vs => am_aJ vs fun a vs => am_a0 vs (fn91 o a μ)
theorem e91 (o : Nat) (a : Int) (μ : am_M) : sp91 [.inr (.inr (7, o)), .inr (.inl a)] μ = fn91 o a μ := am_aR_c.trans (am_aJ_c.trans am_a0_c)
theorem sd91 : am_Sd 91 sp91 := by
  refine am_Sd_of (by decide) (fun vs μ μ' x h hv hM => ?_)
  obtain ⟨o, vs0, rfl, h0⟩ := am_aR_s h
  obtain ⟨a, vs1, rfl, h1⟩ := am_aJ_s h0
  obtain ⟨rfl, hz⟩ := am_a0_s h1
  refine ⟨Nat.le_of_ble_eq_true rfl, fun X C hG hr => ?_⟩
  have h := hz
  unfold fn91 at h
  exact (show am_W X C 91 _ 0 0 0 [(0, .inr (.inr (7, o))), (1, .inr (.inl a))] [] μ from (am_c_aload_n hG (pc := 0) d91_0 rfl (am_c_aload_n hG (pc := 1) d91_1 rfl (x_get_n (v := .inl (μ o 1)) hG (pc := 2) d91_2 mo91 f7_15 rfl (x_if_eq (tgt := 17) hG (pc := 5) d91_5 rfl h (fun h => (am_c_lload_n hG (pc := 17) d91_17 rfl (x_goto (tgt := 25) hG (pc := 18) d91_18 rfl (x_put_l hG (pc := 25) d91_25 mo91 f7_22 (by decide) (am_c_aload_n hG (pc := 28) d91_28 rfl (am_c_aload_n hG (pc := 29) d91_29 rfl (x_get_n (v := .inl ((am_up μ o 3 a) o 1)) hG (pc := 30) d91_30 mo91 f7_15 rfl (x_if_eq (tgt := 45) hG (pc := 33) d91_33 rfl h (fun h => (am_c_lload_n hG (pc := 45) d91_45 rfl (x_goto (tgt := 53) hG (pc := 46) d91_46 rfl (x_put_l hG (pc := 53) d91_53 mo91 f7_25 (by decide) (am_c_aload_n hG (pc := 56) d91_56 rfl (am_c_dup hG (pc := 57) d91_57 rfl (x_get_n (v := .inr (.inl ((am_up (am_up μ o 3 a) o 4 a) o 2))) hG (pc := 58) d91_58 mo91 f7_18 rfl (am_c_lload_n hG (pc := 61) d91_61 rfl (am_c_ladd hG (pc := 62) d91_62 (x_put_l hG (pc := 63) d91_63 mo91 f7_18 (by decide) (am_c_aload_n hG (pc := 66) d91_66 rfl (am_c_dup hG (pc := 67) d91_67 rfl (x_get_n (v := .inl ((am_up (am_up (am_up μ o 3 a) o 4 a) o 2 (w64 (((am_up (am_up μ o 3 a) o 4 a) o 2) + a))) o 1)) hG (pc := 68) d91_68 mo91 f7_15 rfl (am_c_iconst hG (pc := 71) d91_71 (by decide) (am_c_iadd hG (pc := 72) d91_72 (x_put_i hG (pc := 73) d91_73 mo91 f7_15 (by decide) (xq_vret hG (by decide) hr (pc := 76) d91_76 rk91 (am_q0 h)))))))))))))))))) (fun h => (am_c_lload_n hG (pc := 36) d91_36 rfl (am_c_aload_n hG (pc := 37) d91_37 rfl (x_get_n (v := .inr (.inl ((am_up μ o 3 a) o 4))) hG (pc := 38) d91_38 mo91 f7_25 rfl (am_c_lcmp hG (pc := 41) d91_41 (x_if_le (tgt := 49) hG (pc := 42) d91_42 rfl h (fun h => (am_c_aload_n hG (pc := 49) d91_49 rfl (x_get_n (v := .inr (.inl ((am_up μ o 3 a) o 4))) hG (pc := 50) d91_50 mo91 f7_25 rfl (x_put_l hG (pc := 53) d91_53 mo91 f7_25 (by decide) (am_c_aload_n hG (pc := 56) d91_56 rfl (am_c_dup hG (pc := 57) d91_57 rfl (x_get_n (v := .inr (.inl ((am_up (am_up μ o 3 a) o 4 ((am_up μ o 3 a) o 4)) o 2))) hG (pc := 58) d91_58 mo91 f7_18 rfl (am_c_lload_n hG (pc := 61) d91_61 rfl (am_c_ladd hG (pc := 62) d91_62 (x_put_l hG (pc := 63) d91_63 mo91 f7_18 (by decide) (am_c_aload_n hG (pc := 66) d91_66 rfl (am_c_dup hG (pc := 67) d91_67 rfl (x_get_n (v := .inl ((am_up (am_up (am_up μ o 3 a) o 4 ((am_up μ o 3 a) o 4)) o 2 (w64 (((am_up (am_up μ o 3 a) o 4 ((am_up μ o 3 a) o 4)) o 2) + a))) o 1)) hG (pc := 68) d91_68 mo91 f7_15 rfl (am_c_iconst hG (pc := 71) d91_71 (by decide) (am_c_iadd hG (pc := 72) d91_72 (x_put_i hG (pc := 73) d91_73 mo91 f7_15 (by decide) (xq_vret hG (by decide) hr (pc := 76) d91_76 rk91 (am_q0 h)))))))))))))))))) (fun h => (am_c_lload_n hG (pc := 45) d91_45 rfl (x_goto (tgt := 53) hG (pc := 46) d91_46 rfl (x_put_l hG (pc := 53) d91_53 mo91 f7_25 (by decide) (am_c_aload_n hG (pc := 56) d91_56 rfl (am_c_dup hG (pc := 57) d91_57 rfl (x_get_n (v := .inr (.inl ((am_up (am_up μ o 3 a) o 4 a) o 2))) hG (pc := 58) d91_58 mo91 f7_18 rfl (am_c_lload_n hG (pc := 61) d91_61 rfl (am_c_ladd hG (pc := 62) d91_62 (x_put_l hG (pc := 63) d91_63 mo91 f7_18 (by decide) (am_c_aload_n hG (pc := 66) d91_66 rfl (am_c_dup hG (pc := 67) d91_67 rfl (x_get_n (v := .inl ((am_up (am_up (am_up μ o 3 a) o 4 a) o 2 (w64 (((am_up (am_up μ o 3 a) o 4 a) o 2) + a))) o 1)) hG (pc := 68) d91_68 mo91 f7_15 rfl (am_c_iconst hG (pc := 71) d91_71 (by decide) (am_c_iadd hG (pc := 72) d91_72 (x_put_i hG (pc := 73) d91_73 mo91 f7_15 (by decide) (xq_vret hG (by decide) hr (pc := 76) d91_76 rk91 (am_q0 h)))))))))))))))))))))))))))))))) (fun h => (am_c_lload_n hG (pc := 8) d91_8 rfl (am_c_aload_n hG (pc := 9) d91_9 rfl (x_get_n (v := .inr (.inl (μ o 3))) hG (pc := 10) d91_10 mo91 f7_22 rfl (am_c_lcmp hG (pc := 13) d91_13 (x_if_ge (tgt := 21) hG (pc := 14) d91_14 rfl h (fun h => (am_c_aload_n hG (pc := 21) d91_21 rfl (x_get_n (v := .inr (.inl (μ o 3))) hG (pc := 22) d91_22 mo91 f7_22 rfl (x_put_l hG (pc := 25) d91_25 mo91 f7_22 (by decide) (am_c_aload_n hG (pc := 28) d91_28 rfl (am_c_aload_n hG (pc := 29) d91_29 rfl (x_get_n (v := .inl ((am_up μ o 3 (μ o 3)) o 1)) hG (pc := 30) d91_30 mo91 f7_15 rfl (x_if_eq (tgt := 45) hG (pc := 33) d91_33 rfl h (fun h => (am_c_lload_n hG (pc := 45) d91_45 rfl (x_goto (tgt := 53) hG (pc := 46) d91_46 rfl (x_put_l hG (pc := 53) d91_53 mo91 f7_25 (by decide) (am_c_aload_n hG (pc := 56) d91_56 rfl (am_c_dup hG (pc := 57) d91_57 rfl (x_get_n (v := .inr (.inl ((am_up (am_up μ o 3 (μ o 3)) o 4 a) o 2))) hG (pc := 58) d91_58 mo91 f7_18 rfl (am_c_lload_n hG (pc := 61) d91_61 rfl (am_c_ladd hG (pc := 62) d91_62 (x_put_l hG (pc := 63) d91_63 mo91 f7_18 (by decide) (am_c_aload_n hG (pc := 66) d91_66 rfl (am_c_dup hG (pc := 67) d91_67 rfl (x_get_n (v := .inl ((am_up (am_up (am_up μ o 3 (μ o 3)) o 4 a) o 2 (w64 (((am_up (am_up μ o 3 (μ o 3)) o 4 a) o 2) + a))) o 1)) hG (pc := 68) d91_68 mo91 f7_15 rfl (am_c_iconst hG (pc := 71) d91_71 (by decide) (am_c_iadd hG (pc := 72) d91_72 (x_put_i hG (pc := 73) d91_73 mo91 f7_15 (by decide) (xq_vret hG (by decide) hr (pc := 76) d91_76 rk91 (am_q0 h)))))))))))))))))) (fun h => (am_c_lload_n hG (pc := 36) d91_36 rfl (am_c_aload_n hG (pc := 37) d91_37 rfl (x_get_n (v := .inr (.inl ((am_up μ o 3 (μ o 3)) o 4))) hG (pc := 38) d91_38 mo91 f7_25 rfl (am_c_lcmp hG (pc := 41) d91_41 (x_if_le (tgt := 49) hG (pc := 42) d91_42 rfl h (fun h => (am_c_aload_n hG (pc := 49) d91_49 rfl (x_get_n (v := .inr (.inl ((am_up μ o 3 (μ o 3)) o 4))) hG (pc := 50) d91_50 mo91 f7_25 rfl (x_put_l hG (pc := 53) d91_53 mo91 f7_25 (by decide) (am_c_aload_n hG (pc := 56) d91_56 rfl (am_c_dup hG (pc := 57) d91_57 rfl (x_get_n (v := .inr (.inl ((am_up (am_up μ o 3 (μ o 3)) o 4 ((am_up μ o 3 (μ o 3)) o 4)) o 2))) hG (pc := 58) d91_58 mo91 f7_18 rfl (am_c_lload_n hG (pc := 61) d91_61 rfl (am_c_ladd hG (pc := 62) d91_62 (x_put_l hG (pc := 63) d91_63 mo91 f7_18 (by decide) (am_c_aload_n hG (pc := 66) d91_66 rfl (am_c_dup hG (pc := 67) d91_67 rfl (x_get_n (v := .inl ((am_up (am_up (am_up μ o 3 (μ o 3)) o 4 ((am_up μ o 3 (μ o 3)) o 4)) o 2 (w64 (((am_up (am_up μ o 3 (μ o 3)) o 4 ((am_up μ o 3 (μ o 3)) o 4)) o 2) + a))) o 1)) hG (pc := 68) d91_68 mo91 f7_15 rfl (am_c_iconst hG (pc := 71) d91_71 (by decide) (am_c_iadd hG (pc := 72) d91_72 (x_put_i hG (pc := 73) d91_73 mo91 f7_15 (by decide) (xq_vret hG (by decide) hr (pc := 76) d91_76 rk91 (am_q0 h)))))))))))))))))) (fun h => (am_c_lload_n hG (pc := 45) d91_45 rfl (x_goto (tgt := 53) hG (pc := 46) d91_46 rfl (x_put_l hG (pc := 53) d91_53 mo91 f7_25 (by decide) (am_c_aload_n hG (pc := 56) d91_56 rfl (am_c_dup hG (pc := 57) d91_57 rfl (x_get_n (v := .inr (.inl ((am_up (am_up μ o 3 (μ o 3)) o 4 a) o 2))) hG (pc := 58) d91_58 mo91 f7_18 rfl (am_c_lload_n hG (pc := 61) d91_61 rfl (am_c_ladd hG (pc := 62) d91_62 (x_put_l hG (pc := 63) d91_63 mo91 f7_18 (by decide) (am_c_aload_n hG (pc := 66) d91_66 rfl (am_c_dup hG (pc := 67) d91_67 rfl (x_get_n (v := .inl ((am_up (am_up (am_up μ o 3 (μ o 3)) o 4 a) o 2 (w64 (((am_up (am_up μ o 3 (μ o 3)) o 4 a) o 2) + a))) o 1)) hG (pc := 68) d91_68 mo91 f7_15 rfl (am_c_iconst hG (pc := 71) d91_71 (by decide) (am_c_iadd hG (pc := 72) d91_72 (x_put_i hG (pc := 73) d91_73 mo91 f7_15 (by decide) (xq_vret hG (by decide) hr (pc := 76) d91_76 rk91 (am_q0 h)))))))))))))))))))))))))))))))) (fun h => (am_c_lload_n hG (pc := 17) d91_17 rfl (x_goto (tgt := 25) hG (pc := 18) d91_18 rfl (x_put_l hG (pc := 25) d91_25 mo91 f7_22 (by decide) (am_c_aload_n hG (pc := 28) d91_28 rfl (am_c_aload_n hG (pc := 29) d91_29 rfl (x_get_n (v := .inl ((am_up μ o 3 a) o 1)) hG (pc := 30) d91_30 mo91 f7_15 rfl (x_if_eq (tgt := 45) hG (pc := 33) d91_33 rfl h (fun h => (am_c_lload_n hG (pc := 45) d91_45 rfl (x_goto (tgt := 53) hG (pc := 46) d91_46 rfl (x_put_l hG (pc := 53) d91_53 mo91 f7_25 (by decide) (am_c_aload_n hG (pc := 56) d91_56 rfl (am_c_dup hG (pc := 57) d91_57 rfl (x_get_n (v := .inr (.inl ((am_up (am_up μ o 3 a) o 4 a) o 2))) hG (pc := 58) d91_58 mo91 f7_18 rfl (am_c_lload_n hG (pc := 61) d91_61 rfl (am_c_ladd hG (pc := 62) d91_62 (x_put_l hG (pc := 63) d91_63 mo91 f7_18 (by decide) (am_c_aload_n hG (pc := 66) d91_66 rfl (am_c_dup hG (pc := 67) d91_67 rfl (x_get_n (v := .inl ((am_up (am_up (am_up μ o 3 a) o 4 a) o 2 (w64 (((am_up (am_up μ o 3 a) o 4 a) o 2) + a))) o 1)) hG (pc := 68) d91_68 mo91 f7_15 rfl (am_c_iconst hG (pc := 71) d91_71 (by decide) (am_c_iadd hG (pc := 72) d91_72 (x_put_i hG (pc := 73) d91_73 mo91 f7_15 (by decide) (xq_vret hG (by decide) hr (pc := 76) d91_76 rk91 (am_q0 h)))))))))))))))))) (fun h => (am_c_lload_n hG (pc := 36) d91_36 rfl (am_c_aload_n hG (pc := 37) d91_37 rfl (x_get_n (v := .inr (.inl ((am_up μ o 3 a) o 4))) hG (pc := 38) d91_38 mo91 f7_25 rfl (am_c_lcmp hG (pc := 41) d91_41 (x_if_le (tgt := 49) hG (pc := 42) d91_42 rfl h (fun h => (am_c_aload_n hG (pc := 49) d91_49 rfl (x_get_n (v := .inr (.inl ((am_up μ o 3 a) o 4))) hG (pc := 50) d91_50 mo91 f7_25 rfl (x_put_l hG (pc := 53) d91_53 mo91 f7_25 (by decide) (am_c_aload_n hG (pc := 56) d91_56 rfl (am_c_dup hG (pc := 57) d91_57 rfl (x_get_n (v := .inr (.inl ((am_up (am_up μ o 3 a) o 4 ((am_up μ o 3 a) o 4)) o 2))) hG (pc := 58) d91_58 mo91 f7_18 rfl (am_c_lload_n hG (pc := 61) d91_61 rfl (am_c_ladd hG (pc := 62) d91_62 (x_put_l hG (pc := 63) d91_63 mo91 f7_18 (by decide) (am_c_aload_n hG (pc := 66) d91_66 rfl (am_c_dup hG (pc := 67) d91_67 rfl (x_get_n (v := .inl ((am_up (am_up (am_up μ o 3 a) o 4 ((am_up μ o 3 a) o 4)) o 2 (w64 (((am_up (am_up μ o 3 a) o 4 ((am_up μ o 3 a) o 4)) o 2) + a))) o 1)) hG (pc := 68) d91_68 mo91 f7_15 rfl (am_c_iconst hG (pc := 71) d91_71 (by decide) (am_c_iadd hG (pc := 72) d91_72 (x_put_i hG (pc := 73) d91_73 mo91 f7_15 (by decide) (xq_vret hG (by decide) hr (pc := 76) d91_76 rk91 (am_q0 h)))))))))))))))))) (fun h => (am_c_lload_n hG (pc := 45) d91_45 rfl (x_goto (tgt := 53) hG (pc := 46) d91_46 rfl (x_put_l hG (pc := 53) d91_53 mo91 f7_25 (by decide) (am_c_aload_n hG (pc := 56) d91_56 rfl (am_c_dup hG (pc := 57) d91_57 rfl (x_get_n (v := .inr (.inl ((am_up (am_up μ o 3 a) o 4 a) o 2))) hG (pc := 58) d91_58 mo91 f7_18 rfl (am_c_lload_n hG (pc := 61) d91_61 rfl (am_c_ladd hG (pc := 62) d91_62 (x_put_l hG (pc := 63) d91_63 mo91 f7_18 (by decide) (am_c_aload_n hG (pc := 66) d91_66 rfl (am_c_dup hG (pc := 67) d91_67 rfl (x_get_n (v := .inl ((am_up (am_up (am_up μ o 3 a) o 4 a) o 2 (w64 (((am_up (am_up μ o 3 a) o 4 a) o 2) + a))) o 1)) hG (pc := 68) d91_68 mo91 f7_15 rfl (am_c_iconst hG (pc := 71) d91_71 (by decide) (am_c_iadd hG (pc := 72) d91_72 (x_put_i hG (pc := 73) d91_73 mo91 f7_15 (by decide) (xq_vret hG (by decide) hr (pc := 76) d91_76 rk91 (am_q0 h)))))))))))))))))))))))))))))))))))))))))))
/-! ChartPress$Groups.addToTally(LChartPress$Table;II)V -/
theorem D92 (k : Nat) {pc : Nat} {i : Instr} (h : tbi92[k]? = some (pc, i)) (hs : am_isw i = false) {n : Nat} (hn : am_il i = n) : decode (am_mc 92) pc = .ok (i, n) := am_d2 (by decide) (by decide) rfl h hs hn
theorem d92_0 : decode (am_mc 92) 0 = .ok (.aload_n 0, 1) := D92 0 rfl rfl rfl
theorem d92_1 : decode (am_mc 92) 1 = .ok (.getfield 46, 3) := D92 1 rfl rfl rfl
theorem d92_4 : decode (am_mc 92) 4 = .ok (.invokevirtual 135, 3) := D92 2 rfl rfl rfl
theorem d92_7 : decode (am_mc 92) 7 = .ok (.iload_n 2, 1) := D92 3 rfl rfl rfl
theorem d92_8 : decode (am_mc 92) 8 = .ok (.iconst (-1), 1) := D92 4 rfl rfl rfl
theorem d92_9 : decode (am_mc 92) 9 = .ok (.if_icmp .eq 25, 3) := D92 5 rfl rfl rfl
theorem d92_12 : decode (am_mc 92) 12 = .ok (.aload_n 1, 1) := D92 6 rfl rfl rfl
theorem d92_13 : decode (am_mc 92) 13 = .ok (.iload_n 3, 1) := D92 7 rfl rfl rfl
theorem d92_14 : decode (am_mc 92) 14 = .ok (.iload_n 2, 1) := D92 8 rfl rfl rfl
theorem d92_15 : decode (am_mc 92) 15 = .ok (.invokevirtual 138, 3) := D92 9 rfl rfl rfl
theorem d92_18 : decode (am_mc 92) 18 = .ok (.ifCond .ne 16, 3) := D92 10 rfl rfl rfl
theorem d92_21 : decode (am_mc 92) 21 = .ok (.aload_n 0, 1) := D92 11 rfl rfl rfl
theorem d92_22 : decode (am_mc 92) 22 = .ok (.getfield 46, 3) := D92 12 rfl rfl rfl
theorem d92_25 : decode (am_mc 92) 25 = .ok (.aload_n 1, 1) := D92 13 rfl rfl rfl
theorem d92_26 : decode (am_mc 92) 26 = .ok (.iload_n 3, 1) := D92 14 rfl rfl rfl
theorem d92_27 : decode (am_mc 92) 27 = .ok (.iload_n 2, 1) := D92 15 rfl rfl rfl
theorem d92_28 : decode (am_mc 92) 28 = .ok (.invokevirtual 142, 3) := D92 16 rfl rfl rfl
theorem d92_31 : decode (am_mc 92) 31 = .ok (.invokevirtual 146, 3) := D92 17 rfl rfl rfl
theorem d92_34 : decode (am_mc 92) 34 = .ok (.return_, 1) := D92 18 rfl rfl rfl
theorem ml92 : ∀ n, n < 4 → n < am_ml 92 := fun _ h => h
theorem mo92 : am_mo 92 = 6 := by decide +kernel
theorem rk92 : am_rk 92 = 0 := by decide +kernel
theorem rg92 : am_rcg 92 = 7 := by decide +kernel
theorem f6_46 : tb_f 6 46 = some (6, 8, 5, 7) := by decide +kernel
theorem m6_135 : tb_m 6 135 = some (90, 1, 0, 0) := by decide +kernel
theorem m6_138 : tb_m 6 138 = some (79, 3, 1, 0) := by decide +kernel
theorem m6_142 : tb_m 6 142 = some (80, 3, 2, 0) := by decide +kernel
theorem m6_146 : tb_m 6 146 = some (91, 2, 0, 0) := by decide +kernel
theorem dp92_79 : am_md 79 + 1 ≤ am_md 92 ∧ 8 + (am_ml 79 + 11) + am_lr 79 ≤ am_lr 92 := by decide +kernel
theorem dp92_80 : am_md 80 + 1 ≤ am_md 92 ∧ 8 + (am_ml 80 + 11) + am_lr 80 ≤ am_lr 92 := by decide +kernel
theorem dp92_90 : am_md 90 + 1 ≤ am_md 92 ∧ 8 + (am_ml 90 + 11) + am_lr 90 ≤ am_lr 92 := by decide +kernel
theorem dp92_91 : am_md 91 + 1 ≤ am_md 92 ∧ 8 + (am_ml 91 + 11) + am_lr 91 ≤ am_lr 92 := by decide +kernel
def fn92 (o : Nat) (a : Nat) (b : Int) (c : Int) (μ : am_M) : Option (Int × am_M) := (am_op (fn90 (am_ref o 8) μ) (fun z1 => (if b = (-1) then some (0, z1.2) else (am_op (fn79 a c b z1.2) (fun z2 => (if z2.1 = 0 then (am_op (fn80 a c b z2.2) (fun z3 => (am_op (fn91 (am_ref o 8) z3.1 z3.2) (fun z4 => some (0, z4.2))))) else some (0, z2.2)))))))
def sp92 : am_F := fun vs μ => am_aR 6 vs fun o vs => am_aR 2 vs fun a vs => am_aI vs fun b vs => am_aI vs fun c vs => am_a0 vs (fn92 o a b c μ)
theorem e92 (o : Nat) (a : Nat) (b : Int) (c : Int) (μ : am_M) : sp92 [.inr (.inr (6, o)), .inr (.inr (2, a)), .inl b, .inl c] μ = fn92 o a b c μ := am_aR_c.trans (am_aR_c.trans (am_aI_c.trans (am_aI_c.trans am_a0_c)))
theorem sd92 : am_Sd 92 sp92 := by
  refine am_Sd_of (by decide) (fun vs μ μ' x h hv hM => ?_)
  obtain ⟨o, vs0, rfl, h0⟩ := am_aR_s h
  obtain ⟨a, vs1, rfl, h1⟩ := am_aR_s h0
  obtain ⟨b, vs2, rfl, h2⟩ := am_aI_s h1
  obtain ⟨c, vs3, rfl, h3⟩ := am_aI_s h2
  obtain ⟨rfl, hz⟩ := am_a0_s h3
  refine ⟨Nat.le_of_ble_eq_true rfl, fun X C hG hr => ?_⟩
  have h := hz
  unfold fn92 at h
  exact (show am_W X C 92 _ 0 0 0 [(0, .inr (.inr (6, o))), (1, .inr (.inr (2, a))), (2, .inl b), (3, .inl c)] [] μ from (am_c_aload_n hG (pc := 0) d92_0 rfl (x_get_n (v := .inr (.inr (7, am_ref o 8))) hG (pc := 1) d92_1 mo92 f6_46 rfl (x_virtual_v (t := 7) (o := am_ref o 8) (as2 := []) (rest := []) hG (pc := 4) d92_4 mo92 m6_135 (by decide) dp92_90 rfl rfl (Nat.le_of_ble_eq_true rfl) (Nat.le_of_ble_eq_true rfl) rg90 sd90 (e90 _ _) h (fun z1 h => (am_c_iload_n hG (pc := 7) d92_7 rfl (am_c_iconst hG (pc := 8) d92_8 (by decide) (x_icmp_eq (tgt := 34) hG (pc := 9) d92_9 rfl h (fun h => (xq_vret hG (by decide) hr (pc := 34) d92_34 rk92 (am_q0 h))) (fun h => (am_c_aload_n hG (pc := 12) d92_12 rfl (am_c_iload_n hG (pc := 13) d92_13 rfl (am_c_iload_n hG (pc := 14) d92_14 rfl (x_virtual_i (t := 2) (o := a) (as2 := [.inl c, .inl b]) (rest := []) hG (pc := 15) d92_15 mo92 m6_138 (by decide) dp92_79 rfl rfl (Nat.le_of_ble_eq_true rfl) (Nat.le_of_ble_eq_true rfl) rg79 sd79 (e79 _ _ _ _) h (fun z2 h => (x_if_ne (tgt := 34) hG (pc := 18) d92_18 rfl h (fun h => (xq_vret hG (by decide) hr (pc := 34) d92_34 rk92 (am_q0 h))) (fun h => (am_c_aload_n hG (pc := 21) d92_21 rfl (x_get_n (v := .inr (.inr (7, am_ref o 8))) hG (pc := 22) d92_22 mo92 f6_46 rfl (am_c_aload_n hG (pc := 25) d92_25 rfl (am_c_iload_n hG (pc := 26) d92_26 rfl (am_c_iload_n hG (pc := 27) d92_27 rfl (x_virtual_l (t := 2) (o := a) (as2 := [.inl c, .inl b]) (rest := [.inr (.inr (7, am_ref o 8))]) hG (pc := 28) d92_28 mo92 m6_142 (by decide) dp92_80 rfl rfl (Nat.le_of_ble_eq_true rfl) (Nat.le_of_ble_eq_true rfl) rg80 sd80 (e80 _ _ _ _) h (fun z3 h => (x_virtual_v (t := 7) (o := am_ref o 8) (as2 := [.inr (.inl z3.1)]) (rest := []) hG (pc := 31) d92_31 mo92 m6_146 (by decide) dp92_91 rfl rfl (Nat.le_of_ble_eq_true rfl) (Nat.le_of_ble_eq_true rfl) rg91 sd91 (e91 _ _ _) h (fun z4 h => (xq_vret hG (by decide) hr (pc := 34) d92_34 rk92 (am_q0 h)))))))))))))))))))))))))))
/-! ChartPress$Request.measure()I -/
theorem D93 (k : Nat) {pc : Nat} {i : Instr} (h : tbi93[k]? = some (pc, i)) (hs : am_isw i = false) {n : Nat} (hn : am_il i = n) : decode (am_mc 93) pc = .ok (i, n) := am_d2 (by decide) (by decide) rfl h hs hn
theorem d93_0 : decode (am_mc 93) 0 = .ok (.aload_n 0, 1) := D93 0 rfl rfl rfl
theorem d93_1 : decode (am_mc 93) 1 = .ok (.getfield 74, 3) := D93 1 rfl rfl rfl
theorem d93_4 : decode (am_mc 93) 4 = .ok (.ireturn, 1) := D93 2 rfl rfl rfl
theorem ml93 : ∀ n, n < 1 → n < am_ml 93 := fun _ h => h
theorem mo93 : am_mo 93 = 4 := by decide +kernel
theorem mr93 : am_mr 93 = some .int := by decide +kernel
theorem rg93 : am_rcg 93 = 5 := by decide +kernel
def fn93 (o : Nat) (μ : am_M) : Option (Int × am_M) := some (μ o 7, μ)
def sp93 : am_F := fun vs μ => am_aR 4 vs fun o vs => am_a0 vs (fn93 o μ)
theorem e93 (o : Nat) (μ : am_M) : sp93 [.inr (.inr (4, o))] μ = fn93 o μ := am_aR_c.trans am_a0_c
theorem sd93 : am_Sd 93 sp93 := by
  refine am_Sd_of (by decide) (fun vs μ μ' x h hv hM => ?_)
  obtain ⟨o, vs0, rfl, h0⟩ := am_aR_s h
  obtain ⟨rfl, hz⟩ := am_a0_s h0
  refine ⟨Nat.le_of_ble_eq_true rfl, fun X C hG hr => ?_⟩
  have h := hz
  unfold fn93 at h
  exact (show am_W X C 93 _ 0 0 0 [(0, .inr (.inr (4, o)))] [] μ from (am_c_aload_n hG (pc := 0) d93_0 rfl (x_get_n (v := .inl (μ o 7)) hG (pc := 1) d93_1 mo93 f4_74 rfl (xq_iret hG (by decide) hr (pc := 4) d93_4 mr93 (am_q0 h)))))
/-! ChartPress$Tally.amount(I)J -/
theorem D94 (k : Nat) {pc : Nat} {i : Instr} (h : tbi94[k]? = some (pc, i)) (hs : am_isw i = false) {n : Nat} (hn : am_il i = n) : decode (am_mc 94) pc = .ok (i, n) := am_d2 (by decide) (by decide) rfl h hs hn
theorem d94_0 : decode (am_mc 94) 0 = .ok (.iload_n 1, 1) := D94 0 rfl rfl rfl
theorem d94_32 : decode (am_mc 94) 32 = .ok (.aload_n 0, 1) := D94 2 rfl rfl rfl
theorem d94_33 : decode (am_mc 94) 33 = .ok (.getfield 9, 3) := D94 3 rfl rfl rfl
theorem d94_36 : decode (am_mc 94) 36 = .ok (.i2l, 1) := D94 4 rfl rfl rfl
theorem d94_37 : decode (am_mc 94) 37 = .ok (.ldc2_w 28, 3) := D94 5 rfl rfl rfl
theorem d94_40 : decode (am_mc 94) 40 = .ok (.lmul, 1) := D94 6 rfl rfl rfl
theorem d94_41 : decode (am_mc 94) 41 = .ok (.lreturn, 1) := D94 7 rfl rfl rfl
theorem d94_42 : decode (am_mc 94) 42 = .ok (.aload_n 0, 1) := D94 8 rfl rfl rfl
theorem d94_43 : decode (am_mc 94) 43 = .ok (.getfield 18, 3) := D94 9 rfl rfl rfl
theorem d94_46 : decode (am_mc 94) 46 = .ok (.ldc2_w 30, 3) := D94 10 rfl rfl rfl
theorem d94_49 : decode (am_mc 94) 49 = .ok (.lmul, 1) := D94 11 rfl rfl rfl
theorem d94_50 : decode (am_mc 94) 50 = .ok (.lreturn, 1) := D94 12 rfl rfl rfl
theorem d94_51 : decode (am_mc 94) 51 = .ok (.aload_n 0, 1) := D94 13 rfl rfl rfl
theorem d94_52 : decode (am_mc 94) 52 = .ok (.getfield 15, 3) := D94 14 rfl rfl rfl
theorem d94_55 : decode (am_mc 94) 55 = .ok (.ifCond .le 20, 3) := D94 15 rfl rfl rfl
theorem d94_58 : decode (am_mc 94) 58 = .ok (.aload_n 0, 1) := D94 16 rfl rfl rfl
theorem d94_59 : decode (am_mc 94) 59 = .ok (.getfield 18, 3) := D94 17 rfl rfl rfl
theorem d94_62 : decode (am_mc 94) 62 = .ok (.ldc2_w 30, 3) := D94 18 rfl rfl rfl
theorem d94_65 : decode (am_mc 94) 65 = .ok (.aload_n 0, 1) := D94 19 rfl rfl rfl
theorem d94_66 : decode (am_mc 94) 66 = .ok (.getfield 15, 3) := D94 20 rfl rfl rfl
theorem d94_69 : decode (am_mc 94) 69 = .ok (.i2l, 1) := D94 21 rfl rfl rfl
theorem d94_70 : decode (am_mc 94) 70 = .ok (.ldiv, 1) := D94 22 rfl rfl rfl
theorem d94_71 : decode (am_mc 94) 71 = .ok (.lmul, 1) := D94 23 rfl rfl rfl
theorem d94_72 : decode (am_mc 94) 72 = .ok (.goto 4, 3) := D94 24 rfl rfl rfl
theorem d94_75 : decode (am_mc 94) 75 = .ok (.lconst 0, 1) := D94 25 rfl rfl rfl
theorem d94_76 : decode (am_mc 94) 76 = .ok (.lreturn, 1) := D94 26 rfl rfl rfl
theorem d94_77 : decode (am_mc 94) 77 = .ok (.aload_n 0, 1) := D94 27 rfl rfl rfl
theorem d94_78 : decode (am_mc 94) 78 = .ok (.getfield 22, 3) := D94 28 rfl rfl rfl
theorem d94_81 : decode (am_mc 94) 81 = .ok (.ldc2_w 30, 3) := D94 29 rfl rfl rfl
theorem d94_84 : decode (am_mc 94) 84 = .ok (.lmul, 1) := D94 30 rfl rfl rfl
theorem d94_85 : decode (am_mc 94) 85 = .ok (.lreturn, 1) := D94 31 rfl rfl rfl
theorem d94_86 : decode (am_mc 94) 86 = .ok (.aload_n 0, 1) := D94 32 rfl rfl rfl
theorem d94_87 : decode (am_mc 94) 87 = .ok (.getfield 25, 3) := D94 33 rfl rfl rfl
theorem d94_90 : decode (am_mc 94) 90 = .ok (.ldc2_w 30, 3) := D94 34 rfl rfl rfl
theorem d94_93 : decode (am_mc 94) 93 = .ok (.lmul, 1) := D94 35 rfl rfl rfl
theorem d94_94 : decode (am_mc 94) 94 = .ok (.lreturn, 1) := D94 36 rfl rfl rfl
theorem ml94 : ∀ n, n < 2 → n < am_ml 94 := fun _ h => h
theorem mo94 : am_mo 94 = 7 := by decide +kernel
theorem rk94 : am_rk 94 = 2 := by decide +kernel
theorem rg94 : am_rcg 94 = 8 := by decide +kernel
def fn94 (o : Nat) (a : Int) (μ : am_M) : Option (Int × am_M) := (if a = 0 then some (w64 ((μ o 0) * 27720000), μ) else (if a = 1 then some (w64 ((μ o 2) * 27720), μ) else (if a = 2 then (if 0 < μ o 1 then (if μ o 1 = 0 then none else some (w64 ((μ o 2) * (o_divl 27720 (μ o 1))), μ)) else some (0, μ)) else (if a = 3 then some (w64 ((μ o 3) * 27720), μ) else some (w64 ((μ o 4) * 27720), μ)))))
def sp94 : am_F := fun vs μ => am_aR 7 vs fun o vs => am_aI vs fun a vs => am_a0 vs (fn94 o a μ)
theorem e94 (o : Nat) (a : Int) (μ : am_M) : sp94 [.inr (.inr (7, o)), .inl a] μ = fn94 o a μ := am_aR_c.trans (am_aI_c.trans am_a0_c)
theorem sd94 : am_Sd 94 sp94 := by
  refine am_Sd_of (by decide) (fun vs μ μ' x h hv hM => ?_)
  obtain ⟨o, vs0, rfl, h0⟩ := am_aR_s h
  obtain ⟨a, vs1, rfl, h1⟩ := am_aI_s h0
  obtain ⟨rfl, hz⟩ := am_a0_s h1
  refine ⟨Nat.le_of_ble_eq_true rfl, fun X C hG hr => ?_⟩
  have h := hz
  unfold fn94 at h
  exact (show am_W X C 94 _ 0 0 0 [(0, .inr (.inr (7, o))), (1, .inl a)] [] μ from (am_c_iload_n hG (pc := 0) d94_0 rfl (x_tsw4 (t0 := 32) (t1 := 42) (t2 := 51) (t3 := 77) (t4 := 86) hG (by decide) (by decide) (pc := 1) (k := 1) (l := tbi94) rfl rfl rfl rfl rfl rfl rfl h (fun h => (am_c_aload_n hG (pc := 32) d94_32 rfl (x_get_n (v := .inl (μ o 0)) hG (pc := 33) d94_33 mo94 f7_9 rfl (am_c_i2l hG (pc := 36) d94_36 (am_c_ldc2 hG (pc := 37) d94_37 (v := 27720000) (by decide +kernel) (am_c_lmul hG (pc := 40) d94_40 (xq_lret hG (by decide) hr (pc := 41) d94_41 rk94 (am_q0 h)))))))) (fun h => (am_c_aload_n hG (pc := 42) d94_42 rfl (x_get_n (v := .inr (.inl (μ o 2))) hG (pc := 43) d94_43 mo94 f7_18 rfl (am_c_ldc2 hG (pc := 46) d94_46 (v := 27720) (by decide +kernel) (am_c_lmul hG (pc := 49) d94_49 (xq_lret hG (by decide) hr (pc := 50) d94_50 rk94 (am_q0 h))))))) (fun h => (am_c_aload_n hG (pc := 51) d94_51 rfl (x_get_n (v := .inl (μ o 1)) hG (pc := 52) d94_52 mo94 f7_15 rfl (x_if_le (tgt := 75) hG (pc := 55) d94_55 rfl h (fun h => (am_c_lconst hG (pc := 75) d94_75 (xq_lret hG (by decide) hr (pc := 76) d94_76 rk94 (am_q0 h)))) (fun h => (am_c_aload_n hG (pc := 58) d94_58 rfl (x_get_n (v := .inr (.inl (μ o 2))) hG (pc := 59) d94_59 mo94 f7_18 rfl (am_c_ldc2 hG (pc := 62) d94_62 (v := 27720) (by decide +kernel) (am_c_aload_n hG (pc := 65) d94_65 rfl (x_get_n (v := .inl (μ o 1)) hG (pc := 66) d94_66 mo94 f7_15 rfl (am_c_i2l hG (pc := 69) d94_69 (x_ldiv hG (pc := 70) d94_70 h (fun h => (am_c_lmul hG (pc := 71) d94_71 (x_goto (tgt := 76) hG (pc := 72) d94_72 rfl (xq_lret hG (by decide) hr (pc := 76) d94_76 rk94 (am_q0 h))))))))))))))))) (fun h => (am_c_aload_n hG (pc := 77) d94_77 rfl (x_get_n (v := .inr (.inl (μ o 3))) hG (pc := 78) d94_78 mo94 f7_22 rfl (am_c_ldc2 hG (pc := 81) d94_81 (v := 27720) (by decide +kernel) (am_c_lmul hG (pc := 84) d94_84 (xq_lret hG (by decide) hr (pc := 85) d94_85 rk94 (am_q0 h))))))) (fun h => (am_c_aload_n hG (pc := 86) d94_86 rfl (x_get_n (v := .inr (.inl (μ o 4))) hG (pc := 87) d94_87 mo94 f7_25 rfl (am_c_ldc2 hG (pc := 90) d94_90 (v := 27720) (by decide +kernel) (am_c_lmul hG (pc := 93) d94_93 (xq_lret hG (by decide) hr (pc := 94) d94_94 rk94 (am_q0 h))))))))))
/-! ChartPress$Tally.has(I)Z -/
theorem D95 (k : Nat) {pc : Nat} {i : Instr} (h : tbi95[k]? = some (pc, i)) (hs : am_isw i = false) {n : Nat} (hn : am_il i = n) : decode (am_mc 95) pc = .ok (i, n) := am_d2 (by decide) (by decide) rfl h hs hn
theorem d95_0 : decode (am_mc 95) 0 = .ok (.iload_n 1, 1) := D95 0 rfl rfl rfl
theorem d95_1 : decode (am_mc 95) 1 = .ok (.ifCond .eq 15, 3) := D95 1 rfl rfl rfl
theorem d95_4 : decode (am_mc 95) 4 = .ok (.iload_n 1, 1) := D95 2 rfl rfl rfl
theorem d95_5 : decode (am_mc 95) 5 = .ok (.iconst 1, 1) := D95 3 rfl rfl rfl
theorem d95_6 : decode (am_mc 95) 6 = .ok (.if_icmp .eq 10, 3) := D95 4 rfl rfl rfl
theorem d95_9 : decode (am_mc 95) 9 = .ok (.aload_n 0, 1) := D95 5 rfl rfl rfl
theorem d95_10 : decode (am_mc 95) 10 = .ok (.getfield 15, 3) := D95 6 rfl rfl rfl
theorem d95_13 : decode (am_mc 95) 13 = .ok (.ifCond .le 7, 3) := D95 7 rfl rfl rfl
theorem d95_16 : decode (am_mc 95) 16 = .ok (.iconst 1, 1) := D95 8 rfl rfl rfl
theorem d95_17 : decode (am_mc 95) 17 = .ok (.goto 4, 3) := D95 9 rfl rfl rfl
theorem d95_20 : decode (am_mc 95) 20 = .ok (.iconst 0, 1) := D95 10 rfl rfl rfl
theorem d95_21 : decode (am_mc 95) 21 = .ok (.ireturn, 1) := D95 11 rfl rfl rfl
theorem ml95 : ∀ n, n < 2 → n < am_ml 95 := fun _ h => h
theorem mo95 : am_mo 95 = 7 := by decide +kernel
theorem mr95 : am_mr 95 = some .boolean := by decide +kernel
theorem rg95 : am_rcg 95 = 8 := by decide +kernel
def fn95 (o : Nat) (a : Int) (μ : am_M) : Option (Int × am_M) := (if a = 0 then some (1, μ) else (if a = 1 then some (1, μ) else (if 0 < μ o 1 then some (1, μ) else some (0, μ))))
def sp95 : am_F := fun vs μ => am_aR 7 vs fun o vs => am_aI vs fun a vs => am_a0 vs (fn95 o a μ)
theorem e95 (o : Nat) (a : Int) (μ : am_M) : sp95 [.inr (.inr (7, o)), .inl a] μ = fn95 o a μ := am_aR_c.trans (am_aI_c.trans am_a0_c)
theorem sd95 : am_Sd 95 sp95 := by
  refine am_Sd_of (by decide) (fun vs μ μ' x h hv hM => ?_)
  obtain ⟨o, vs0, rfl, h0⟩ := am_aR_s h
  obtain ⟨a, vs1, rfl, h1⟩ := am_aI_s h0
  obtain ⟨rfl, hz⟩ := am_a0_s h1
  refine ⟨Nat.le_of_ble_eq_true rfl, fun X C hG hr => ?_⟩
  have h := hz
  unfold fn95 at h
  exact (show am_W X C 95 _ 0 0 0 [(0, .inr (.inr (7, o))), (1, .inl a)] [] μ from (am_c_iload_n hG (pc := 0) d95_0 rfl (x_if_eq (tgt := 16) hG (pc := 1) d95_1 rfl h (fun h => (am_c_iconst hG (pc := 16) d95_16 (by decide) (x_goto (tgt := 21) hG (pc := 17) d95_17 rfl (xq_zret1 hG (by decide) hr (pc := 21) d95_21 mr95 (am_q0 h))))) (fun h => (am_c_iload_n hG (pc := 4) d95_4 rfl (am_c_iconst hG (pc := 5) d95_5 (by decide) (x_icmp_eq (tgt := 16) hG (pc := 6) d95_6 rfl h (fun h => (am_c_iconst hG (pc := 16) d95_16 (by decide) (x_goto (tgt := 21) hG (pc := 17) d95_17 rfl (xq_zret1 hG (by decide) hr (pc := 21) d95_21 mr95 (am_q0 h))))) (fun h => (am_c_aload_n hG (pc := 9) d95_9 rfl (x_get_n (v := .inl (μ o 1)) hG (pc := 10) d95_10 mo95 f7_15 rfl (x_if_le (tgt := 20) hG (pc := 13) d95_13 rfl h (fun h => (am_c_iconst hG (pc := 20) d95_20 (by decide) (xq_zret0 hG (by decide) hr (pc := 21) d95_21 mr95 (am_q0 h)))) (fun h => (am_c_iconst hG (pc := 16) d95_16 (by decide) (x_goto (tgt := 21) hG (pc := 17) d95_17 rfl (xq_zret1 hG (by decide) hr (pc := 21) d95_21 mr95 (am_q0 h))))))))))))))))
/-! ChartPress$Groups.addUp(LChartPress$Table;LChartPress$Request;II)V -/
theorem D96 (k : Nat) {pc : Nat} {i : Instr} (h : tbi96[k]? = some (pc, i)) (hs : am_isw i = false) {n : Nat} (hn : am_il i = n) : decode (am_mc 96) pc = .ok (i, n) := am_d2 (by decide) (by decide) rfl h hs hn
theorem d96_0 : decode (am_mc 96) 0 = .ok (.aload_n 0, 1) := D96 0 rfl rfl rfl
theorem d96_1 : decode (am_mc 96) 1 = .ok (.getfield 34, 3) := D96 1 rfl rfl rfl
theorem d96_4 : decode (am_mc 96) 4 = .ok (.iload_n 3, 1) := D96 2 rfl rfl rfl
theorem d96_5 : decode (am_mc 96) 5 = .ok (.lconst 0, 1) := D96 3 rfl rfl rfl
theorem d96_6 : decode (am_mc 96) 6 = .ok (.lastore, 1) := D96 4 rfl rfl rfl
theorem d96_7 : decode (am_mc 96) 7 = .ok (.iconst 0, 1) := D96 5 rfl rfl rfl
theorem d96_8 : decode (am_mc 96) 8 = .ok (.istore 5, 2) := D96 6 rfl rfl rfl
theorem d96_10 : decode (am_mc 96) 10 = .ok (.iconst 0, 1) := D96 7 rfl rfl rfl
theorem d96_11 : decode (am_mc 96) 11 = .ok (.istore 6, 2) := D96 8 rfl rfl rfl
theorem d96_13 : decode (am_mc 96) 13 = .ok (.iload 6, 2) := D96 9 rfl rfl rfl
theorem d96_15 : decode (am_mc 96) 15 = .ok (.aload_n 0, 1) := D96 10 rfl rfl rfl
theorem d96_16 : decode (am_mc 96) 16 = .ok (.getfield 66, 3) := D96 11 rfl rfl rfl
theorem d96_19 : decode (am_mc 96) 19 = .ok (.if_icmp .ge 137, 3) := D96 12 rfl rfl rfl
theorem d96_22 : decode (am_mc 96) 22 = .ok (.iload 6, 2) := D96 13 rfl rfl rfl
theorem d96_24 : decode (am_mc 96) 24 = .ok (.bipush 12, 2) := D96 14 rfl rfl rfl
theorem d96_26 : decode (am_mc 96) 26 = .ok (.if_icmp .ge 130, 3) := D96 15 rfl rfl rfl
theorem d96_29 : decode (am_mc 96) 29 = .ok (.aload_n 0, 1) := D96 16 rfl rfl rfl
theorem d96_30 : decode (am_mc 96) 30 = .ok (.getfield 46, 3) := D96 17 rfl rfl rfl
theorem d96_33 : decode (am_mc 96) 33 = .ok (.invokevirtual 115, 3) := D96 18 rfl rfl rfl
theorem d96_36 : decode (am_mc 96) 36 = .ok (.iconst 0, 1) := D96 19 rfl rfl rfl
theorem d96_37 : decode (am_mc 96) 37 = .ok (.istore 7, 2) := D96 20 rfl rfl rfl
theorem d96_39 : decode (am_mc 96) 39 = .ok (.iload 7, 2) := D96 21 rfl rfl rfl
theorem d96_41 : decode (am_mc 96) 41 = .ok (.iload 4, 2) := D96 22 rfl rfl rfl
theorem d96_43 : decode (am_mc 96) 43 = .ok (.if_icmp .ge 43, 3) := D96 23 rfl rfl rfl
theorem d96_46 : decode (am_mc 96) 46 = .ok (.aload_n 0, 1) := D96 24 rfl rfl rfl
theorem d96_47 : decode (am_mc 96) 47 = .ok (.getfield 9, 3) := D96 25 rfl rfl rfl
theorem d96_50 : decode (am_mc 96) 50 = .ok (.iload 7, 2) := D96 26 rfl rfl rfl
theorem d96_52 : decode (am_mc 96) 52 = .ok (.iaload, 1) := D96 27 rfl rfl rfl
theorem d96_53 : decode (am_mc 96) 53 = .ok (.iload_n 3, 1) := D96 28 rfl rfl rfl
theorem d96_54 : decode (am_mc 96) 54 = .ok (.if_icmp .ne 26, 3) := D96 29 rfl rfl rfl
theorem d96_57 : decode (am_mc 96) 57 = .ok (.aload_n 0, 1) := D96 30 rfl rfl rfl
theorem d96_58 : decode (am_mc 96) 58 = .ok (.getfield 15, 3) := D96 31 rfl rfl rfl
theorem d96_61 : decode (am_mc 96) 61 = .ok (.iload 7, 2) := D96 32 rfl rfl rfl
theorem d96_63 : decode (am_mc 96) 63 = .ok (.iaload, 1) := D96 33 rfl rfl rfl
theorem d96_64 : decode (am_mc 96) 64 = .ok (.iload 6, 2) := D96 34 rfl rfl rfl
theorem d96_66 : decode (am_mc 96) 66 = .ok (.if_icmp .ne 14, 3) := D96 35 rfl rfl rfl
theorem d96_69 : decode (am_mc 96) 69 = .ok (.aload_n 0, 1) := D96 36 rfl rfl rfl
theorem d96_70 : decode (am_mc 96) 70 = .ok (.aload_n 1, 1) := D96 37 rfl rfl rfl
theorem d96_71 : decode (am_mc 96) 71 = .ok (.aload_n 2, 1) := D96 38 rfl rfl rfl
theorem d96_72 : decode (am_mc 96) 72 = .ok (.invokevirtual 118, 3) := D96 39 rfl rfl rfl
theorem d96_75 : decode (am_mc 96) 75 = .ok (.iload 7, 2) := D96 40 rfl rfl rfl
theorem d96_77 : decode (am_mc 96) 77 = .ok (.invokevirtual 121, 3) := D96 41 rfl rfl rfl
theorem d96_80 : decode (am_mc 96) 80 = .ok (.iinc 7 1, 3) := D96 42 rfl rfl rfl
theorem d96_83 : decode (am_mc 96) 83 = .ok (.goto (-44), 3) := D96 43 rfl rfl rfl
theorem d96_86 : decode (am_mc 96) 86 = .ok (.aload_n 0, 1) := D96 44 rfl rfl rfl
theorem d96_87 : decode (am_mc 96) 87 = .ok (.getfield 46, 3) := D96 45 rfl rfl rfl
theorem d96_90 : decode (am_mc 96) 90 = .ok (.aload_n 2, 1) := D96 46 rfl rfl rfl
theorem d96_91 : decode (am_mc 96) 91 = .ok (.invokevirtual 124, 3) := D96 47 rfl rfl rfl
theorem d96_94 : decode (am_mc 96) 94 = .ok (.invokevirtual 127, 3) := D96 48 rfl rfl rfl
theorem d96_97 : decode (am_mc 96) 97 = .ok (.lstore 7, 2) := D96 49 rfl rfl rfl
theorem d96_99 : decode (am_mc 96) 99 = .ok (.aload_n 0, 1) := D96 50 rfl rfl rfl
theorem d96_100 : decode (am_mc 96) 100 = .ok (.getfield 30, 3) := D96 51 rfl rfl rfl
theorem d96_103 : decode (am_mc 96) 103 = .ok (.iload_n 3, 1) := D96 52 rfl rfl rfl
theorem d96_104 : decode (am_mc 96) 104 = .ok (.bipush 12, 2) := D96 53 rfl rfl rfl
theorem d96_106 : decode (am_mc 96) 106 = .ok (.imul, 1) := D96 54 rfl rfl rfl
theorem d96_107 : decode (am_mc 96) 107 = .ok (.iload 6, 2) := D96 55 rfl rfl rfl
theorem d96_109 : decode (am_mc 96) 109 = .ok (.iadd, 1) := D96 56 rfl rfl rfl
theorem d96_110 : decode (am_mc 96) 110 = .ok (.lload 7, 2) := D96 57 rfl rfl rfl
theorem d96_112 : decode (am_mc 96) 112 = .ok (.lastore, 1) := D96 58 rfl rfl rfl
theorem d96_113 : decode (am_mc 96) 113 = .ok (.aload_n 0, 1) := D96 59 rfl rfl rfl
theorem d96_114 : decode (am_mc 96) 114 = .ok (.getfield 34, 3) := D96 60 rfl rfl rfl
theorem d96_117 : decode (am_mc 96) 117 = .ok (.iload_n 3, 1) := D96 61 rfl rfl rfl
theorem d96_118 : decode (am_mc 96) 118 = .ok (.dup2, 1) := D96 62 rfl rfl rfl
theorem d96_119 : decode (am_mc 96) 119 = .ok (.laload, 1) := D96 63 rfl rfl rfl
theorem d96_120 : decode (am_mc 96) 120 = .ok (.lload 7, 2) := D96 64 rfl rfl rfl
theorem d96_122 : decode (am_mc 96) 122 = .ok (.ladd, 1) := D96 65 rfl rfl rfl
theorem d96_123 : decode (am_mc 96) 123 = .ok (.lastore, 1) := D96 66 rfl rfl rfl
theorem d96_124 : decode (am_mc 96) 124 = .ok (.iload 5, 2) := D96 67 rfl rfl rfl
theorem d96_126 : decode (am_mc 96) 126 = .ok (.ifCond .ne 17, 3) := D96 68 rfl rfl rfl
theorem d96_129 : decode (am_mc 96) 129 = .ok (.aload_n 0, 1) := D96 69 rfl rfl rfl
theorem d96_130 : decode (am_mc 96) 130 = .ok (.getfield 46, 3) := D96 70 rfl rfl rfl
theorem d96_133 : decode (am_mc 96) 133 = .ok (.aload_n 2, 1) := D96 71 rfl rfl rfl
theorem d96_134 : decode (am_mc 96) 134 = .ok (.invokevirtual 124, 3) := D96 72 rfl rfl rfl
theorem d96_137 : decode (am_mc 96) 137 = .ok (.invokevirtual 131, 3) := D96 73 rfl rfl rfl
theorem d96_140 : decode (am_mc 96) 140 = .ok (.ifCond .eq 7, 3) := D96 74 rfl rfl rfl
theorem d96_143 : decode (am_mc 96) 143 = .ok (.iconst 1, 1) := D96 75 rfl rfl rfl
theorem d96_144 : decode (am_mc 96) 144 = .ok (.goto 4, 3) := D96 76 rfl rfl rfl
theorem d96_147 : decode (am_mc 96) 147 = .ok (.iconst 0, 1) := D96 77 rfl rfl rfl
theorem d96_148 : decode (am_mc 96) 148 = .ok (.istore 5, 2) := D96 78 rfl rfl rfl
theorem d96_150 : decode (am_mc 96) 150 = .ok (.iinc 6 1, 3) := D96 79 rfl rfl rfl
theorem d96_153 : decode (am_mc 96) 153 = .ok (.goto (-140), 3) := D96 80 rfl rfl rfl
theorem d96_156 : decode (am_mc 96) 156 = .ok (.iload 5, 2) := D96 81 rfl rfl rfl
theorem d96_158 : decode (am_mc 96) 158 = .ok (.ifCond .eq 32, 3) := D96 82 rfl rfl rfl
theorem d96_161 : decode (am_mc 96) 161 = .ok (.aload_n 0, 1) := D96 83 rfl rfl rfl
theorem d96_162 : decode (am_mc 96) 162 = .ok (.getfield 69, 3) := D96 84 rfl rfl rfl
theorem d96_165 : decode (am_mc 96) 165 = .ok (.bipush 12, 2) := D96 85 rfl rfl rfl
theorem d96_167 : decode (am_mc 96) 167 = .ok (.if_icmp .ge 23, 3) := D96 86 rfl rfl rfl
theorem d96_170 : decode (am_mc 96) 170 = .ok (.aload_n 0, 1) := D96 87 rfl rfl rfl
theorem d96_171 : decode (am_mc 96) 171 = .ok (.getfield 40, 3) := D96 88 rfl rfl rfl
theorem d96_174 : decode (am_mc 96) 174 = .ok (.aload_n 0, 1) := D96 89 rfl rfl rfl
theorem d96_175 : decode (am_mc 96) 175 = .ok (.getfield 69, 3) := D96 90 rfl rfl rfl
theorem d96_178 : decode (am_mc 96) 178 = .ok (.iload_n 3, 1) := D96 91 rfl rfl rfl
theorem d96_179 : decode (am_mc 96) 179 = .ok (.iastore, 1) := D96 92 rfl rfl rfl
theorem d96_180 : decode (am_mc 96) 180 = .ok (.aload_n 0, 1) := D96 93 rfl rfl rfl
theorem d96_181 : decode (am_mc 96) 181 = .ok (.dup, 1) := D96 94 rfl rfl rfl
theorem d96_182 : decode (am_mc 96) 182 = .ok (.getfield 69, 3) := D96 95 rfl rfl rfl
theorem d96_185 : decode (am_mc 96) 185 = .ok (.iconst 1, 1) := D96 96 rfl rfl rfl
theorem d96_186 : decode (am_mc 96) 186 = .ok (.iadd, 1) := D96 97 rfl rfl rfl
theorem d96_187 : decode (am_mc 96) 187 = .ok (.putfield 69, 3) := D96 98 rfl rfl rfl
theorem d96_190 : decode (am_mc 96) 190 = .ok (.return_, 1) := D96 99 rfl rfl rfl
theorem ml96 : ∀ n, n < 9 → n < am_ml 96 := fun _ h => h
theorem mo96 : am_mo 96 = 6 := by decide +kernel
theorem rk96 : am_rk 96 = 0 := by decide +kernel
theorem rg96 : am_rcg 96 = 7 := by decide +kernel
theorem f6_30 : tb_f 6 30 = some (6, 4, 5, 17) := by decide +kernel
theorem f6_34 : tb_f 6 34 = some (6, 5, 5, 17) := by decide +kernel
theorem f6_40 : tb_f 6 40 = some (6, 7, 5, 16) := by decide +kernel
theorem f6_69 : tb_f 6 69 = some (6, 11, 0, 0) := by decide +kernel
theorem m6_115 : tb_m 6 115 = some (88, 1, 0, 0) := by decide +kernel
theorem m6_118 : tb_m 6 118 = some (89, 1, 1, 0) := by decide +kernel
theorem m6_121 : tb_m 6 121 = some (92, 4, 0, 0) := by decide +kernel
theorem m6_124 : tb_m 6 124 = some (93, 1, 1, 0) := by decide +kernel
theorem m6_127 : tb_m 6 127 = some (94, 2, 2, 0) := by decide +kernel
theorem m6_131 : tb_m 6 131 = some (95, 2, 1, 0) := by decide +kernel
theorem dp96_88 : am_md 88 + 1 ≤ am_md 96 ∧ 8 + (am_ml 88 + 11) + am_lr 88 ≤ am_lr 96 := by decide +kernel
theorem dp96_89 : am_md 89 + 1 ≤ am_md 96 ∧ 8 + (am_ml 89 + 11) + am_lr 89 ≤ am_lr 96 := by decide +kernel
theorem dp96_92 : am_md 92 + 1 ≤ am_md 96 ∧ 8 + (am_ml 92 + 11) + am_lr 92 ≤ am_lr 96 := by decide +kernel
theorem dp96_93 : am_md 93 + 1 ≤ am_md 96 ∧ 8 + (am_ml 93 + 11) + am_lr 93 ≤ am_lr 96 := by decide +kernel
theorem dp96_94 : am_md 94 + 1 ≤ am_md 96 ∧ 8 + (am_ml 94 + 11) + am_lr 94 ≤ am_lr 96 := by decide +kernel
theorem dp96_95 : am_md 95 + 1 ≤ am_md 96 ∧ 8 + (am_ml 95 + 11) + am_lr 95 ≤ am_lr 96 := by decide +kernel
def L96_39 (l0 : Nat) (l1 : Nat) (l2 : Nat) (l3 : Int) (l4 : Int) (l5 : Int) (l6 : Int) : Nat → Int → am_M → Option ((Int × am_M) ⊕ (Int × am_M))
  | 0, _, _ => none
  | n + 1, l7, μ => (if l7 < l4 then (if (0 : Int) ≤ l7 ∧ l7 < ((am_len (am_ref l0 0) : Nat) : Int) then (if μ (am_ref l0 0) (l7 : Int).toNat = l3 then (if (0 : Int) ≤ l7 ∧ l7 < ((am_len (am_ref l0 1) : Nat) : Int) then (if μ (am_ref l0 1) (l7 : Int).toNat = l6 then (am_op (fn89 l2 μ) (fun z2 => (am_op (fn92 l0 l1 z2.1 l7 z2.2) (fun z3 => (L96_39 l0 l1 l2 l3 l4 l5 l6 n (w32 (l7 + 1)) z3.2))))) else (L96_39 l0 l1 l2 l3 l4 l5 l6 n (w32 (l7 + 1)) μ)) else none) else (L96_39 l0 l1 l2 l3 l4 l5 l6 n (w32 (l7 + 1)) μ)) else none) else (some (.inr (l7, μ))))
theorem w96_39 {X : am_K} {C : am_C} {Q : State → Prop} (hG : am_G X C 96 0 0 (0, fun _ => 0)) (hr : match X with | (_, _, _, _, _, _, _, _, meth, _) => meth.sig.returnType = am_mr 96 ∧ meth.locks = false) (l0 : Nat) (l1 : Nat) (l2 : Nat) (l3 : Int) (l4 : Int) (l5 : Int) (l6 : Int) : ∀ (n : Nat) (l7 : Int) (μ : am_M) (r : (Int × am_M) ⊕ (Int × am_M)), L96_39 l0 l1 l2 l3 l4 l5 l6 n l7 μ = some r → (∀ q, r = .inl q → Q = am_E X C 96 q.1 q.2) → (∀ t, r = .inr t → am_W X C 96 Q 0 0 86 [(0, .inr (.inr (6, l0))), (1, .inr (.inr (2, l1))), (2, .inr (.inr (4, l2))), (3, .inl l3), (4, .inl l4), (5, .inl l5), (6, .inl l6)] [] t.2) → am_W X C 96 Q 0 0 39 [(0, .inr (.inr (6, l0))), (1, .inr (.inr (2, l1))), (2, .inr (.inr (4, l2))), (3, .inl l3), (4, .inl l4), (5, .inl l5), (6, .inl l6), (7, .inl l7)] [] μ := by
  intro n
  induction n with
  | zero => intro l7 μ r h; cases h
  | succ n ih =>
    intro l7 μ r h hI hX
    unfold L96_39 at h
    exact (am_c_iload hG (pc := 39) d96_39 rfl (am_c_iload hG (pc := 41) d96_41 rfl (x_icmp_ge (tgt := 86) hG (pc := 43) d96_43 rfl h (fun h => (am_lvw (lv2 := [(0, .inr (.inr (6, l0))), (1, .inr (.inr (2, l1))), (2, .inr (.inr (4, l2))), (3, .inl l3), (4, .inl l4), (5, .inl l5), (6, .inl l6)]) [0, 1, 2, 3, 4, 5, 6] rfl (hX (l7, μ) (Option.some.inj h).symm))) (fun h => (am_c_aload_n hG (pc := 46) d96_46 rfl (x_get_n (v := .inr (.inr (16, am_ref l0 0))) hG (pc := 47) d96_47 mo96 f6_9 rfl (am_c_iload hG (pc := 50) d96_50 rfl (x_iaload hG (pc := 52) d96_52 h (fun h => (am_c_iload_n hG (pc := 53) d96_53 rfl (x_icmp_ne (tgt := 80) hG (pc := 54) d96_54 rfl h (fun h => (x_iinc (lv' := [(7, .inl (w32 (l7 + 1))), (0, .inr (.inr (6, l0))), (1, .inr (.inr (2, l1))), (2, .inr (.inr (4, l2))), (3, .inl l3), (4, .inl l4), (5, .inl l5), (6, .inl l6)]) hG (pc := 80) d96_80 rfl (ml96 _ (by decide)) rfl (x_goto (tgt := 39) hG (pc := 83) d96_83 rfl (am_lvw (lv2 := [(0, .inr (.inr (6, l0))), (1, .inr (.inr (2, l1))), (2, .inr (.inr (4, l2))), (3, .inl l3), (4, .inl l4), (5, .inl l5), (6, .inl l6), (7, .inl (w32 (l7 + 1)))]) [1, 2, 3, 4, 5, 6, 7, 0] rfl (ih _ _ _ h hI hX))))) (fun h => (am_c_aload_n hG (pc := 57) d96_57 rfl (x_get_n (v := .inr (.inr (16, am_ref l0 1))) hG (pc := 58) d96_58 mo96 f6_15 rfl (am_c_iload hG (pc := 61) d96_61 rfl (x_iaload hG (pc := 63) d96_63 h (fun h => (am_c_iload hG (pc := 64) d96_64 rfl (x_icmp_ne (tgt := 80) hG (pc := 66) d96_66 rfl h (fun h => (x_iinc (lv' := [(7, .inl (w32 (l7 + 1))), (0, .inr (.inr (6, l0))), (1, .inr (.inr (2, l1))), (2, .inr (.inr (4, l2))), (3, .inl l3), (4, .inl l4), (5, .inl l5), (6, .inl l6)]) hG (pc := 80) d96_80 rfl (ml96 _ (by decide)) rfl (x_goto (tgt := 39) hG (pc := 83) d96_83 rfl (am_lvw (lv2 := [(0, .inr (.inr (6, l0))), (1, .inr (.inr (2, l1))), (2, .inr (.inr (4, l2))), (3, .inl l3), (4, .inl l4), (5, .inl l5), (6, .inl l6), (7, .inl (w32 (l7 + 1)))]) [1, 2, 3, 4, 5, 6, 7, 0] rfl (ih _ _ _ h hI hX))))) (fun h => (am_c_aload_n hG (pc := 69) d96_69 rfl (am_c_aload_n hG (pc := 70) d96_70 rfl (am_c_aload_n hG (pc := 71) d96_71 rfl (x_virtual_i (t := 4) (o := l2) (as2 := []) (rest := [.inr (.inr (2, l1)), .inr (.inr (6, l0))]) hG (pc := 72) d96_72 mo96 m6_118 (by decide) dp96_89 rfl rfl (Nat.le_of_ble_eq_true rfl) (Nat.le_of_ble_eq_true rfl) rg89 sd89 (e89 _ _) h (fun z2 h => (am_c_iload hG (pc := 75) d96_75 rfl (x_virtual_v (t := 6) (o := l0) (as2 := [.inr (.inr (2, l1)), .inl z2.1, .inl l7]) (rest := []) hG (pc := 77) d96_77 mo96 m6_121 (by decide) dp96_92 rfl rfl (Nat.le_of_ble_eq_true rfl) (Nat.le_of_ble_eq_true rfl) rg92 sd92 (e92 _ _ _ _ _) h (fun z3 h => (x_iinc (lv' := [(7, .inl (w32 (l7 + 1))), (0, .inr (.inr (6, l0))), (1, .inr (.inr (2, l1))), (2, .inr (.inr (4, l2))), (3, .inl l3), (4, .inl l4), (5, .inl l5), (6, .inl l6)]) hG (pc := 80) d96_80 rfl (ml96 _ (by decide)) rfl (x_goto (tgt := 39) hG (pc := 83) d96_83 rfl (am_lvw (lv2 := [(0, .inr (.inr (6, l0))), (1, .inr (.inr (2, l1))), (2, .inr (.inr (4, l2))), (3, .inl l3), (4, .inl l4), (5, .inl l5), (6, .inl l6), (7, .inl (w32 (l7 + 1)))]) [1, 2, 3, 4, 5, 6, 7, 0] rfl (ih _ _ _ h hI hX))))))))))))))))))))))))))))))))
def L96_13 (l0 : Nat) (l1 : Nat) (l2 : Nat) (l3 : Int) (l4 : Int) : Nat → Int → Int → am_M → Option ((Int × am_M) ⊕ (Int × Int × am_M))
  | 0, _, _, _ => none
  | n + 1, l5, l6, μ => (if l6 < μ l0 10 then (if l6 < 12 then (am_op (fn88 (am_ref l0 8) μ) (fun z1 => (am_op (L96_39 l0 l1 l2 l3 l4 l5 l6 am_fuel 0 z1.2) (fun s => am_lp s (fun q1 => some (.inl q1)) (fun t1 => (am_op (fn93 l2 t1.2) (fun z4 => (am_op (fn94 (am_ref l0 8) z4.1 z4.2) (fun z5 => (if (0 : Int) ≤ w32 ((w32 (l3 * 12)) + l6) ∧ w32 ((w32 (l3 * 12)) + l6) < ((am_len (am_ref l0 4) : Nat) : Int) then (if (0 : Int) ≤ l3 ∧ l3 < ((am_len (am_ref l0 5) : Nat) : Int) then (if (0 : Int) ≤ l3 ∧ l3 < ((am_len (am_ref l0 5) : Nat) : Int) then (if l5 = 0 then (am_op (fn93 l2 (am_up (am_up z5.2 (am_ref l0 4) (w32 ((w32 (l3 * 12)) + l6) : Int).toNat z5.1) (am_ref l0 5) (l3 : Int).toNat (w64 (((am_up z5.2 (am_ref l0 4) (w32 ((w32 (l3 * 12)) + l6) : Int).toNat z5.1) (am_ref l0 5) (l3 : Int).toNat) + z5.1)))) (fun z6 => (am_op (fn95 (am_ref l0 8) z6.1 z6.2) (fun z7 => (if z7.1 = 0 then (L96_13 l0 l1 l2 l3 l4 n 0 (w32 (l6 + 1)) z7.2) else (L96_13 l0 l1 l2 l3 l4 n 1 (w32 (l6 + 1)) z7.2)))))) else (L96_13 l0 l1 l2 l3 l4 n 1 (w32 (l6 + 1)) (am_up (am_up z5.2 (am_ref l0 4) (w32 ((w32 (l3 * 12)) + l6) : Int).toNat z5.1) (am_ref l0 5) (l3 : Int).toNat (w64 (((am_up z5.2 (am_ref l0 4) (w32 ((w32 (l3 * 12)) + l6) : Int).toNat z5.1) (am_ref l0 5) (l3 : Int).toNat) + z5.1))))) else none) else none) else none)))))))))) else (some (.inr (l5, l6, μ)))) else (some (.inr (l5, l6, μ))))
theorem w96_13 {X : am_K} {C : am_C} {Q : State → Prop} (hG : am_G X C 96 0 0 (0, fun _ => 0)) (hr : match X with | (_, _, _, _, _, _, _, _, meth, _) => meth.sig.returnType = am_mr 96 ∧ meth.locks = false) (l0 : Nat) (l1 : Nat) (l2 : Nat) (l3 : Int) (l4 : Int) : ∀ (n : Nat) (l5 : Int) (l6 : Int) (μ : am_M) (r : (Int × am_M) ⊕ (Int × Int × am_M)), L96_13 l0 l1 l2 l3 l4 n l5 l6 μ = some r → (∀ q, r = .inl q → Q = am_E X C 96 q.1 q.2) → (∀ t, r = .inr t → am_W X C 96 Q 0 0 156 [(0, .inr (.inr (6, l0))), (3, .inl l3), (5, .inl t.1)] [] t.2.2) → am_W X C 96 Q 0 0 13 [(0, .inr (.inr (6, l0))), (1, .inr (.inr (2, l1))), (2, .inr (.inr (4, l2))), (3, .inl l3), (4, .inl l4), (5, .inl l5), (6, .inl l6)] [] μ := by
  intro n
  induction n with
  | zero => intro l5 l6 μ r h; cases h
  | succ n ih =>
    intro l5 l6 μ r h hI hX
    unfold L96_13 at h
    exact (am_c_iload hG (pc := 13) d96_13 rfl (am_c_aload_n hG (pc := 15) d96_15 rfl (x_get_n (v := .inl (μ l0 10)) hG (pc := 16) d96_16 mo96 f6_66 rfl (x_icmp_ge (tgt := 156) hG (pc := 19) d96_19 rfl h (fun h => (am_lvw (lv2 := [(0, .inr (.inr (6, l0))), (3, .inl l3), (5, .inl l5)]) [0, 3, 5] rfl (hX (l5, l6, μ) (Option.some.inj h).symm))) (fun h => (am_c_iload hG (pc := 22) d96_22 rfl (am_c_bipush hG (pc := 24) d96_24 (by decide) (x_icmp_ge (tgt := 156) hG (pc := 26) d96_26 rfl h (fun h => (am_lvw (lv2 := [(0, .inr (.inr (6, l0))), (3, .inl l3), (5, .inl l5)]) [0, 3, 5] rfl (hX (l5, l6, μ) (Option.some.inj h).symm))) (fun h => (am_c_aload_n hG (pc := 29) d96_29 rfl (x_get_n (v := .inr (.inr (7, am_ref l0 8))) hG (pc := 30) d96_30 mo96 f6_46 rfl (x_virtual_v (t := 7) (o := am_ref l0 8) (as2 := []) (rest := []) hG (pc := 33) d96_33 mo96 m6_115 (by decide) dp96_88 rfl rfl (Nat.le_of_ble_eq_true rfl) (Nat.le_of_ble_eq_true rfl) rg88 sd88 (e88 _ _) h (fun z1 h => (am_c_iconst hG (pc := 36) d96_36 (by decide) (x_istore (lv' := [(7, .inl 0), (0, .inr (.inr (6, l0))), (1, .inr (.inr (2, l1))), (2, .inr (.inr (4, l2))), (3, .inl l3), (4, .inl l4), (5, .inl l5), (6, .inl l6)]) hG (pc := 37) d96_37 (ml96 _ (by decide)) rfl (x_lp h (fun r h1 h2 => (am_lvw (lv2 := [(0, .inr (.inr (6, l0))), (1, .inr (.inr (2, l1))), (2, .inr (.inr (4, l2))), (3, .inl l3), (4, .inl l4), (5, .inl l5), (6, .inl l6), (7, .inl 0)]) [1, 2, 3, 4, 5, 6, 7, 0] rfl (w96_39 hG hr _ _ _ _ _ _ _ _ _ _ _ h1 (fun q1 e => am_q1 e h2 (fun h => hI _ (Option.some.inj h).symm)) (fun t1 e => am_q2 e h2 (fun h => (am_c_aload_n hG (pc := 86) d96_86 rfl (x_get_n (v := .inr (.inr (7, am_ref l0 8))) hG (pc := 87) d96_87 mo96 f6_46 rfl (am_c_aload_n hG (pc := 90) d96_90 rfl (x_virtual_i (t := 4) (o := l2) (as2 := []) (rest := [.inr (.inr (7, am_ref l0 8))]) hG (pc := 91) d96_91 mo96 m6_124 (by decide) dp96_93 rfl rfl (Nat.le_of_ble_eq_true rfl) (Nat.le_of_ble_eq_true rfl) rg93 sd93 (e93 _ _) h (fun z4 h => (x_virtual_l (t := 7) (o := am_ref l0 8) (as2 := [.inl z4.1]) (rest := []) hG (pc := 94) d96_94 mo96 m6_127 (by decide) dp96_94 rfl rfl (Nat.le_of_ble_eq_true rfl) (Nat.le_of_ble_eq_true rfl) rg94 sd94 (e94 _ _ _) h (fun z5 h => (x_lstore (lv' := [(7, .inr (.inl z5.1)), (0, .inr (.inr (6, l0))), (1, .inr (.inr (2, l1))), (2, .inr (.inr (4, l2))), (3, .inl l3), (4, .inl l4), (5, .inl l5), (6, .inl l6)]) hG (pc := 97) d96_97 (ml96 _ (by decide)) rfl (am_c_aload_n hG (pc := 99) d96_99 rfl (x_get_n (v := .inr (.inr (17, am_ref l0 4))) hG (pc := 100) d96_100 mo96 f6_30 rfl (am_c_iload_n hG (pc := 103) d96_103 rfl (am_c_bipush hG (pc := 104) d96_104 (by decide) (am_c_imul hG (pc := 106) d96_106 (am_c_iload hG (pc := 107) d96_107 rfl (am_c_iadd hG (pc := 109) d96_109 (am_c_lload hG (pc := 110) d96_110 rfl (x_lastore hG (pc := 112) d96_112 h (fun h => (am_c_aload_n hG (pc := 113) d96_113 rfl (x_get_n (v := .inr (.inr (17, am_ref l0 5))) hG (pc := 114) d96_114 mo96 f6_34 rfl (am_c_iload_n hG (pc := 117) d96_117 rfl (am_c_dup2 hG (pc := 118) d96_118 rfl rfl (x_laload hG (pc := 119) d96_119 h (fun h => (am_c_lload hG (pc := 120) d96_120 rfl (am_c_ladd hG (pc := 122) d96_122 (x_lastore hG (pc := 123) d96_123 h (fun h => (am_c_iload hG (pc := 124) d96_124 rfl (x_if_ne (tgt := 143) hG (pc := 126) d96_126 rfl h (fun h => (am_c_iconst hG (pc := 143) d96_143 (by decide) (x_goto (tgt := 148) hG (pc := 144) d96_144 rfl (x_istore (lv' := [(5, .inl 1), (7, .inr (.inl z5.1)), (0, .inr (.inr (6, l0))), (1, .inr (.inr (2, l1))), (2, .inr (.inr (4, l2))), (3, .inl l3), (4, .inl l4), (6, .inl l6)]) hG (pc := 148) d96_148 (ml96 _ (by decide)) rfl (x_iinc (lv' := [(6, .inl (w32 (l6 + 1))), (5, .inl 1), (7, .inr (.inl z5.1)), (0, .inr (.inr (6, l0))), (1, .inr (.inr (2, l1))), (2, .inr (.inr (4, l2))), (3, .inl l3), (4, .inl l4)]) hG (pc := 150) d96_150 rfl (ml96 _ (by decide)) rfl (x_goto (tgt := 13) hG (pc := 153) d96_153 rfl (am_lvw (lv2 := [(0, .inr (.inr (6, l0))), (1, .inr (.inr (2, l1))), (2, .inr (.inr (4, l2))), (3, .inl l3), (4, .inl l4), (5, .inl 1), (6, .inl (w32 (l6 + 1)))]) [3, 4, 5, 6, 7, 1, 0] rfl (ih _ _ _ _ h hI hX)))))))) (fun h => (am_c_aload_n hG (pc := 129) d96_129 rfl (x_get_n (v := .inr (.inr (7, am_ref l0 8))) hG (pc := 130) d96_130 mo96 f6_46 rfl (am_c_aload_n hG (pc := 133) d96_133 rfl (x_virtual_i (t := 4) (o := l2) (as2 := []) (rest := [.inr (.inr (7, am_ref l0 8))]) hG (pc := 134) d96_134 mo96 m6_124 (by decide) dp96_93 rfl rfl (Nat.le_of_ble_eq_true rfl) (Nat.le_of_ble_eq_true rfl) rg93 sd93 (e93 _ _) h (fun z6 h => (x_virtual_i (t := 7) (o := am_ref l0 8) (as2 := [.inl z6.1]) (rest := []) hG (pc := 137) d96_137 mo96 m6_131 (by decide) dp96_95 rfl rfl (Nat.le_of_ble_eq_true rfl) (Nat.le_of_ble_eq_true rfl) rg95 sd95 (e95 _ _ _) h (fun z7 h => (x_if_eq (tgt := 147) hG (pc := 140) d96_140 rfl h (fun h => (am_c_iconst hG (pc := 147) d96_147 (by decide) (x_istore (lv' := [(5, .inl 0), (7, .inr (.inl z5.1)), (0, .inr (.inr (6, l0))), (1, .inr (.inr (2, l1))), (2, .inr (.inr (4, l2))), (3, .inl l3), (4, .inl l4), (6, .inl l6)]) hG (pc := 148) d96_148 (ml96 _ (by decide)) rfl (x_iinc (lv' := [(6, .inl (w32 (l6 + 1))), (5, .inl 0), (7, .inr (.inl z5.1)), (0, .inr (.inr (6, l0))), (1, .inr (.inr (2, l1))), (2, .inr (.inr (4, l2))), (3, .inl l3), (4, .inl l4)]) hG (pc := 150) d96_150 rfl (ml96 _ (by decide)) rfl (x_goto (tgt := 13) hG (pc := 153) d96_153 rfl (am_lvw (lv2 := [(0, .inr (.inr (6, l0))), (1, .inr (.inr (2, l1))), (2, .inr (.inr (4, l2))), (3, .inl l3), (4, .inl l4), (5, .inl 0), (6, .inl (w32 (l6 + 1)))]) [3, 4, 5, 6, 7, 1, 0] rfl (ih _ _ _ _ h hI hX))))))) (fun h => (am_c_iconst hG (pc := 143) d96_143 (by decide) (x_goto (tgt := 148) hG (pc := 144) d96_144 rfl (x_istore (lv' := [(5, .inl 1), (7, .inr (.inl z5.1)), (0, .inr (.inr (6, l0))), (1, .inr (.inr (2, l1))), (2, .inr (.inr (4, l2))), (3, .inl l3), (4, .inl l4), (6, .inl l6)]) hG (pc := 148) d96_148 (ml96 _ (by decide)) rfl (x_iinc (lv' := [(6, .inl (w32 (l6 + 1))), (5, .inl 1), (7, .inr (.inl z5.1)), (0, .inr (.inr (6, l0))), (1, .inr (.inr (2, l1))), (2, .inr (.inr (4, l2))), (3, .inl l3), (4, .inl l4)]) hG (pc := 150) d96_150 rfl (ml96 _ (by decide)) rfl (x_goto (tgt := 13) hG (pc := 153) d96_153 rfl (am_lvw (lv2 := [(0, .inr (.inr (6, l0))), (1, .inr (.inr (2, l1))), (2, .inr (.inr (4, l2))), (3, .inl l3), (4, .inl l4), (5, .inl 1), (6, .inl (w32 (l6 + 1)))]) [3, 4, 5, 6, 7, 1, 0] rfl (ih _ _ _ _ h hI hX))))))))))))))))))))))))))))))))))))))))))))))))))))))))))))))))))))
def fn96 (o : Nat) (a : Nat) (b : Nat) (c : Int) (d : Int) (μ : am_M) : Option (Int × am_M) := (if (0 : Int) ≤ c ∧ c < ((am_len (am_ref o 5) : Nat) : Int) then (am_op (L96_13 o a b c d am_fuel 0 0 (am_up μ (am_ref o 5) (c : Int).toNat 0)) (fun s => am_lp s (fun q2 => some q2) (fun t2 => (if t2.1 = 0 then some (0, t2.2.2) else (if t2.2.2 o 11 < 12 then (if (0 : Int) ≤ t2.2.2 o 11 ∧ t2.2.2 o 11 < ((am_len (am_ref o 7) : Nat) : Int) then some (0, am_up (am_up t2.2.2 (am_ref o 7) (t2.2.2 o 11 : Int).toNat c) o 11 (w32 (((am_up t2.2.2 (am_ref o 7) (t2.2.2 o 11 : Int).toNat c) o 11) + 1))) else none) else some (0, t2.2.2)))))) else none)
def sp96 : am_F := fun vs μ => am_aR 6 vs fun o vs => am_aR 2 vs fun a vs => am_aR 4 vs fun b vs => am_aI vs fun c vs => am_aI vs fun d vs => am_a0 vs (fn96 o a b c d μ)
theorem e96 (o : Nat) (a : Nat) (b : Nat) (c : Int) (d : Int) (μ : am_M) : sp96 [.inr (.inr (6, o)), .inr (.inr (2, a)), .inr (.inr (4, b)), .inl c, .inl d] μ = fn96 o a b c d μ := am_aR_c.trans (am_aR_c.trans (am_aR_c.trans (am_aI_c.trans (am_aI_c.trans am_a0_c))))
theorem sd96 : am_Sd 96 sp96 := by
  refine am_Sd_of (by decide) (fun vs μ μ' x h hv hM => ?_)
  obtain ⟨o, vs0, rfl, h0⟩ := am_aR_s h
  obtain ⟨a, vs1, rfl, h1⟩ := am_aR_s h0
  obtain ⟨b, vs2, rfl, h2⟩ := am_aR_s h1
  obtain ⟨c, vs3, rfl, h3⟩ := am_aI_s h2
  obtain ⟨d, vs4, rfl, h4⟩ := am_aI_s h3
  obtain ⟨rfl, hz⟩ := am_a0_s h4
  refine ⟨Nat.le_of_ble_eq_true rfl, fun X C hG hr => ?_⟩
  have h := hz
  unfold fn96 at h
  exact (show am_W X C 96 _ 0 0 0 [(0, .inr (.inr (6, o))), (1, .inr (.inr (2, a))), (2, .inr (.inr (4, b))), (3, .inl c), (4, .inl d)] [] μ from (am_c_aload_n hG (pc := 0) d96_0 rfl (x_get_n (v := .inr (.inr (17, am_ref o 5))) hG (pc := 1) d96_1 mo96 f6_34 rfl (am_c_iload_n hG (pc := 4) d96_4 rfl (am_c_lconst hG (pc := 5) d96_5 (x_lastore hG (pc := 6) d96_6 h (fun h => (am_c_iconst hG (pc := 7) d96_7 (by decide) (x_istore (lv' := [(5, .inl 0), (0, .inr (.inr (6, o))), (1, .inr (.inr (2, a))), (2, .inr (.inr (4, b))), (3, .inl c), (4, .inl d)]) hG (pc := 8) d96_8 (ml96 _ (by decide)) rfl (am_c_iconst hG (pc := 10) d96_10 (by decide) (x_istore (lv' := [(6, .inl 0), (5, .inl 0), (0, .inr (.inr (6, o))), (1, .inr (.inr (2, a))), (2, .inr (.inr (4, b))), (3, .inl c), (4, .inl d)]) hG (pc := 11) d96_11 (ml96 _ (by decide)) rfl (x_lp h (fun r h1 h2 => (am_lvw (lv2 := [(0, .inr (.inr (6, o))), (1, .inr (.inr (2, a))), (2, .inr (.inr (4, b))), (3, .inl c), (4, .inl d), (5, .inl 0), (6, .inl 0)]) [2, 3, 4, 5, 6, 1, 0] rfl (w96_13 hG hr _ _ _ _ _ _ _ _ _ _ h1 (fun q2 e => am_q1 e h2 (fun h => am_q0 h)) (fun t2 e => am_q2 e h2 (fun h => (am_c_iload hG (pc := 156) d96_156 rfl (x_if_eq (tgt := 190) hG (pc := 158) d96_158 rfl h (fun h => (xq_vret hG (by decide) hr (pc := 190) d96_190 rk96 (am_q0 h))) (fun h => (am_c_aload_n hG (pc := 161) d96_161 rfl (x_get_n (v := .inl (t2.2.2 o 11)) hG (pc := 162) d96_162 mo96 f6_69 rfl (am_c_bipush hG (pc := 165) d96_165 (by decide) (x_icmp_ge (tgt := 190) hG (pc := 167) d96_167 rfl h (fun h => (xq_vret hG (by decide) hr (pc := 190) d96_190 rk96 (am_q0 h))) (fun h => (am_c_aload_n hG (pc := 170) d96_170 rfl (x_get_n (v := .inr (.inr (16, am_ref o 7))) hG (pc := 171) d96_171 mo96 f6_40 rfl (am_c_aload_n hG (pc := 174) d96_174 rfl (x_get_n (v := .inl (t2.2.2 o 11)) hG (pc := 175) d96_175 mo96 f6_69 rfl (am_c_iload_n hG (pc := 178) d96_178 rfl (x_iastore hG (pc := 179) d96_179 h (fun h => (am_c_aload_n hG (pc := 180) d96_180 rfl (am_c_dup hG (pc := 181) d96_181 rfl (x_get_n (v := .inl ((am_up t2.2.2 (am_ref o 7) (t2.2.2 o 11 : Int).toNat c) o 11)) hG (pc := 182) d96_182 mo96 f6_69 rfl (am_c_iconst hG (pc := 185) d96_185 (by decide) (am_c_iadd hG (pc := 186) d96_186 (x_put_i hG (pc := 187) d96_187 mo96 f6_69 (by decide) (xq_vret hG (by decide) hr (pc := 190) d96_190 rk96 (am_q0 h))))))))))))))))))))))))))))))))))))))))
/-! ChartPress$Groups.sortByKeys()V -/
theorem D97 (k : Nat) {pc : Nat} {i : Instr} (h : tbi97[k]? = some (pc, i)) (hs : am_isw i = false) {n : Nat} (hn : am_il i = n) : decode (am_mc 97) pc = .ok (i, n) := am_d2 (by decide) (by decide) rfl h hs hn
theorem d97_0 : decode (am_mc 97) 0 = .ok (.iconst 1, 1) := D97 0 rfl rfl rfl
theorem d97_1 : decode (am_mc 97) 1 = .ok (.istore_n 1, 1) := D97 1 rfl rfl rfl
theorem d97_2 : decode (am_mc 97) 2 = .ok (.iload_n 1, 1) := D97 2 rfl rfl rfl
theorem d97_3 : decode (am_mc 97) 3 = .ok (.aload_n 0, 1) := D97 3 rfl rfl rfl
theorem d97_4 : decode (am_mc 97) 4 = .ok (.getfield 69, 3) := D97 4 rfl rfl rfl
theorem d97_7 : decode (am_mc 97) 7 = .ok (.if_icmp .ge 78, 3) := D97 5 rfl rfl rfl
theorem d97_10 : decode (am_mc 97) 10 = .ok (.iload_n 1, 1) := D97 6 rfl rfl rfl
theorem d97_11 : decode (am_mc 97) 11 = .ok (.bipush 12, 2) := D97 7 rfl rfl rfl
theorem d97_13 : decode (am_mc 97) 13 = .ok (.if_icmp .ge 72, 3) := D97 8 rfl rfl rfl
theorem d97_16 : decode (am_mc 97) 16 = .ok (.aload_n 0, 1) := D97 9 rfl rfl rfl
theorem d97_17 : decode (am_mc 97) 17 = .ok (.getfield 40, 3) := D97 10 rfl rfl rfl
theorem d97_20 : decode (am_mc 97) 20 = .ok (.iload_n 1, 1) := D97 11 rfl rfl rfl
theorem d97_21 : decode (am_mc 97) 21 = .ok (.iaload, 1) := D97 12 rfl rfl rfl
theorem d97_22 : decode (am_mc 97) 22 = .ok (.istore_n 2, 1) := D97 13 rfl rfl rfl
theorem d97_23 : decode (am_mc 97) 23 = .ok (.iload_n 1, 1) := D97 14 rfl rfl rfl
theorem d97_24 : decode (am_mc 97) 24 = .ok (.istore_n 3, 1) := D97 15 rfl rfl rfl
theorem d97_25 : decode (am_mc 97) 25 = .ok (.iload_n 3, 1) := D97 16 rfl rfl rfl
theorem d97_26 : decode (am_mc 97) 26 = .ok (.ifCond .le 46, 3) := D97 17 rfl rfl rfl
theorem d97_29 : decode (am_mc 97) 29 = .ok (.aload_n 0, 1) := D97 18 rfl rfl rfl
theorem d97_30 : decode (am_mc 97) 30 = .ok (.getfield 37, 3) := D97 19 rfl rfl rfl
theorem d97_33 : decode (am_mc 97) 33 = .ok (.aload_n 0, 1) := D97 20 rfl rfl rfl
theorem d97_34 : decode (am_mc 97) 34 = .ok (.getfield 40, 3) := D97 21 rfl rfl rfl
theorem d97_37 : decode (am_mc 97) 37 = .ok (.iload_n 3, 1) := D97 22 rfl rfl rfl
theorem d97_38 : decode (am_mc 97) 38 = .ok (.iconst 1, 1) := D97 23 rfl rfl rfl
theorem d97_39 : decode (am_mc 97) 39 = .ok (.isub, 1) := D97 24 rfl rfl rfl
theorem d97_40 : decode (am_mc 97) 40 = .ok (.iaload, 1) := D97 25 rfl rfl rfl
theorem d97_41 : decode (am_mc 97) 41 = .ok (.laload, 1) := D97 26 rfl rfl rfl
theorem d97_42 : decode (am_mc 97) 42 = .ok (.aload_n 0, 1) := D97 27 rfl rfl rfl
theorem d97_43 : decode (am_mc 97) 43 = .ok (.getfield 37, 3) := D97 28 rfl rfl rfl
theorem d97_46 : decode (am_mc 97) 46 = .ok (.iload_n 2, 1) := D97 29 rfl rfl rfl
theorem d97_47 : decode (am_mc 97) 47 = .ok (.laload, 1) := D97 30 rfl rfl rfl
theorem d97_48 : decode (am_mc 97) 48 = .ok (.lcmp, 1) := D97 31 rfl rfl rfl
theorem d97_49 : decode (am_mc 97) 49 = .ok (.ifCond .le 23, 3) := D97 32 rfl rfl rfl
theorem d97_52 : decode (am_mc 97) 52 = .ok (.aload_n 0, 1) := D97 33 rfl rfl rfl
theorem d97_53 : decode (am_mc 97) 53 = .ok (.getfield 40, 3) := D97 34 rfl rfl rfl
theorem d97_56 : decode (am_mc 97) 56 = .ok (.iload_n 3, 1) := D97 35 rfl rfl rfl
theorem d97_57 : decode (am_mc 97) 57 = .ok (.aload_n 0, 1) := D97 36 rfl rfl rfl
theorem d97_58 : decode (am_mc 97) 58 = .ok (.getfield 40, 3) := D97 37 rfl rfl rfl
theorem d97_61 : decode (am_mc 97) 61 = .ok (.iload_n 3, 1) := D97 38 rfl rfl rfl
theorem d97_62 : decode (am_mc 97) 62 = .ok (.iconst 1, 1) := D97 39 rfl rfl rfl
theorem d97_63 : decode (am_mc 97) 63 = .ok (.isub, 1) := D97 40 rfl rfl rfl
theorem d97_64 : decode (am_mc 97) 64 = .ok (.iaload, 1) := D97 41 rfl rfl rfl
theorem d97_65 : decode (am_mc 97) 65 = .ok (.iastore, 1) := D97 42 rfl rfl rfl
theorem d97_66 : decode (am_mc 97) 66 = .ok (.iinc 3 (-1), 3) := D97 43 rfl rfl rfl
theorem d97_69 : decode (am_mc 97) 69 = .ok (.goto (-44), 3) := D97 44 rfl rfl rfl
theorem d97_72 : decode (am_mc 97) 72 = .ok (.aload_n 0, 1) := D97 45 rfl rfl rfl
theorem d97_73 : decode (am_mc 97) 73 = .ok (.getfield 40, 3) := D97 46 rfl rfl rfl
theorem d97_76 : decode (am_mc 97) 76 = .ok (.iload_n 3, 1) := D97 47 rfl rfl rfl
theorem d97_77 : decode (am_mc 97) 77 = .ok (.iload_n 2, 1) := D97 48 rfl rfl rfl
theorem d97_78 : decode (am_mc 97) 78 = .ok (.iastore, 1) := D97 49 rfl rfl rfl
theorem d97_79 : decode (am_mc 97) 79 = .ok (.iinc 1 1, 3) := D97 50 rfl rfl rfl
theorem d97_82 : decode (am_mc 97) 82 = .ok (.goto (-80), 3) := D97 51 rfl rfl rfl
theorem d97_85 : decode (am_mc 97) 85 = .ok (.return_, 1) := D97 52 rfl rfl rfl
theorem ml97 : ∀ n, n < 4 → n < am_ml 97 := fun _ h => h
theorem mo97 : am_mo 97 = 6 := by decide +kernel
theorem rk97 : am_rk 97 = 0 := by decide +kernel
theorem rg97 : am_rcg 97 = 7 := by decide +kernel
theorem f6_37 : tb_f 6 37 = some (6, 6, 5, 17) := by decide +kernel
def L97_25 (l0 : Nat) (l1 : Int) (l2 : Int) : Nat → Int → am_M → Option ((Int × am_M) ⊕ (Int × am_M))
  | 0, _, _ => none
  | n + 1, l3, μ => (if 0 < l3 then (if (0 : Int) ≤ w32 (l3 - 1) ∧ w32 (l3 - 1) < ((am_len (am_ref l0 7) : Nat) : Int) then (if (0 : Int) ≤ μ (am_ref l0 7) (w32 (l3 - 1) : Int).toNat ∧ μ (am_ref l0 7) (w32 (l3 - 1) : Int).toNat < ((am_len (am_ref l0 6) : Nat) : Int) then (if (0 : Int) ≤ l2 ∧ l2 < ((am_len (am_ref l0 6) : Nat) : Int) then (if 0 < o_cmp (μ (am_ref l0 6) (μ (am_ref l0 7) (w32 (l3 - 1) : Int).toNat : Int).toNat) (μ (am_ref l0 6) (l2 : Int).toNat) then (if (0 : Int) ≤ w32 (l3 - 1) ∧ w32 (l3 - 1) < ((am_len (am_ref l0 7) : Nat) : Int) then (if (0 : Int) ≤ l3 ∧ l3 < ((am_len (am_ref l0 7) : Nat) : Int) then (L97_25 l0 l1 l2 n (w32 (l3 + (-1))) (am_up μ (am_ref l0 7) (l3 : Int).toNat (μ (am_ref l0 7) (w32 (l3 - 1) : Int).toNat))) else none) else none) else (some (.inr (l3, μ)))) else none) else none) else none) else (some (.inr (l3, μ))))
theorem w97_25 {X : am_K} {C : am_C} {Q : State → Prop} (hG : am_G X C 97 0 0 (0, fun _ => 0)) (hr : match X with | (_, _, _, _, _, _, _, _, meth, _) => meth.sig.returnType = am_mr 97 ∧ meth.locks = false) (l0 : Nat) (l1 : Int) (l2 : Int) : ∀ (n : Nat) (l3 : Int) (μ : am_M) (r : (Int × am_M) ⊕ (Int × am_M)), L97_25 l0 l1 l2 n l3 μ = some r → (∀ q, r = .inl q → Q = am_E X C 97 q.1 q.2) → (∀ t, r = .inr t → am_W X C 97 Q 0 0 72 [(0, .inr (.inr (6, l0))), (1, .inl l1), (2, .inl l2), (3, .inl t.1)] [] t.2) → am_W X C 97 Q 0 0 25 [(0, .inr (.inr (6, l0))), (1, .inl l1), (2, .inl l2), (3, .inl l3)] [] μ := by
  intro n
  induction n with
  | zero => intro l3 μ r h; cases h
  | succ n ih =>
    intro l3 μ r h hI hX
    unfold L97_25 at h
    exact (am_c_iload_n hG (pc := 25) d97_25 rfl (x_if_le (tgt := 72) hG (pc := 26) d97_26 rfl h (fun h => (am_lvw (lv2 := [(0, .inr (.inr (6, l0))), (1, .inl l1), (2, .inl l2), (3, .inl l3)]) [0, 1, 2, 3] rfl (hX (l3, μ) (Option.some.inj h).symm))) (fun h => (am_c_aload_n hG (pc := 29) d97_29 rfl (x_get_n (v := .inr (.inr (17, am_ref l0 6))) hG (pc := 30) d97_30 mo97 f6_37 rfl (am_c_aload_n hG (pc := 33) d97_33 rfl (x_get_n (v := .inr (.inr (16, am_ref l0 7))) hG (pc := 34) d97_34 mo97 f6_40 rfl (am_c_iload_n hG (pc := 37) d97_37 rfl (am_c_iconst hG (pc := 38) d97_38 (by decide) (am_c_isub hG (pc := 39) d97_39 (x_iaload hG (pc := 40) d97_40 h (fun h => (x_laload hG (pc := 41) d97_41 h (fun h => (am_c_aload_n hG (pc := 42) d97_42 rfl (x_get_n (v := .inr (.inr (17, am_ref l0 6))) hG (pc := 43) d97_43 mo97 f6_37 rfl (am_c_iload_n hG (pc := 46) d97_46 rfl (x_laload hG (pc := 47) d97_47 h (fun h => (am_c_lcmp hG (pc := 48) d97_48 (x_if_le (tgt := 72) hG (pc := 49) d97_49 rfl h (fun h => (am_lvw (lv2 := [(0, .inr (.inr (6, l0))), (1, .inl l1), (2, .inl l2), (3, .inl l3)]) [0, 1, 2, 3] rfl (hX (l3, μ) (Option.some.inj h).symm))) (fun h => (am_c_aload_n hG (pc := 52) d97_52 rfl (x_get_n (v := .inr (.inr (16, am_ref l0 7))) hG (pc := 53) d97_53 mo97 f6_40 rfl (am_c_iload_n hG (pc := 56) d97_56 rfl (am_c_aload_n hG (pc := 57) d97_57 rfl (x_get_n (v := .inr (.inr (16, am_ref l0 7))) hG (pc := 58) d97_58 mo97 f6_40 rfl (am_c_iload_n hG (pc := 61) d97_61 rfl (am_c_iconst hG (pc := 62) d97_62 (by decide) (am_c_isub hG (pc := 63) d97_63 (x_iaload hG (pc := 64) d97_64 h (fun h => (x_iastore hG (pc := 65) d97_65 h (fun h => (x_iinc (lv' := [(3, .inl (w32 (l3 + (-1)))), (0, .inr (.inr (6, l0))), (1, .inl l1), (2, .inl l2)]) hG (pc := 66) d97_66 rfl (ml97 _ (by decide)) rfl (x_goto (tgt := 25) hG (pc := 69) d97_69 rfl (am_lvw (lv2 := [(0, .inr (.inr (6, l0))), (1, .inl l1), (2, .inl l2), (3, .inl (w32 (l3 + (-1))))]) [1, 2, 3, 0] rfl (ih _ _ _ h hI hX))))))))))))))))))))))))))))))))))))))
def L97_2 (l0 : Nat) : Nat → Int → am_M → Option ((Int × am_M) ⊕ (Int × am_M))
  | 0, _, _ => none
  | n + 1, l1, μ => (if l1 < μ l0 11 then (if l1 < 12 then (if (0 : Int) ≤ l1 ∧ l1 < ((am_len (am_ref l0 7) : Nat) : Int) then (am_op (L97_25 l0 l1 (μ (am_ref l0 7) (l1 : Int).toNat) am_fuel l1 μ) (fun s => am_lp s (fun q1 => some (.inl q1)) (fun t1 => (if (0 : Int) ≤ t1.1 ∧ t1.1 < ((am_len (am_ref l0 7) : Nat) : Int) then (L97_2 l0 n (w32 (l1 + 1)) (am_up t1.2 (am_ref l0 7) (t1.1 : Int).toNat (μ (am_ref l0 7) (l1 : Int).toNat))) else none)))) else none) else (some (.inr (l1, μ)))) else (some (.inr (l1, μ))))
theorem w97_2 {X : am_K} {C : am_C} {Q : State → Prop} (hG : am_G X C 97 0 0 (0, fun _ => 0)) (hr : match X with | (_, _, _, _, _, _, _, _, meth, _) => meth.sig.returnType = am_mr 97 ∧ meth.locks = false) (l0 : Nat) : ∀ (n : Nat) (l1 : Int) (μ : am_M) (r : (Int × am_M) ⊕ (Int × am_M)), L97_2 l0 n l1 μ = some r → (∀ q, r = .inl q → Q = am_E X C 97 q.1 q.2) → (∀ t, r = .inr t → am_W X C 97 Q 0 0 85 [] [] t.2) → am_W X C 97 Q 0 0 2 [(0, .inr (.inr (6, l0))), (1, .inl l1)] [] μ := by
  intro n
  induction n with
  | zero => intro l1 μ r h; cases h
  | succ n ih =>
    intro l1 μ r h hI hX
    unfold L97_2 at h
    exact (am_c_iload_n hG (pc := 2) d97_2 rfl (am_c_aload_n hG (pc := 3) d97_3 rfl (x_get_n (v := .inl (μ l0 11)) hG (pc := 4) d97_4 mo97 f6_69 rfl (x_icmp_ge (tgt := 85) hG (pc := 7) d97_7 rfl h (fun h => (am_lvw (lv2 := []) [] rfl (hX (l1, μ) (Option.some.inj h).symm))) (fun h => (am_c_iload_n hG (pc := 10) d97_10 rfl (am_c_bipush hG (pc := 11) d97_11 (by decide) (x_icmp_ge (tgt := 85) hG (pc := 13) d97_13 rfl h (fun h => (am_lvw (lv2 := []) [] rfl (hX (l1, μ) (Option.some.inj h).symm))) (fun h => (am_c_aload_n hG (pc := 16) d97_16 rfl (x_get_n (v := .inr (.inr (16, am_ref l0 7))) hG (pc := 17) d97_17 mo97 f6_40 rfl (am_c_iload_n hG (pc := 20) d97_20 rfl (x_iaload hG (pc := 21) d97_21 h (fun h => (x_istore_n (lv' := [(2, .inl (μ (am_ref l0 7) (l1 : Int).toNat)), (0, .inr (.inr (6, l0))), (1, .inl l1)]) hG (pc := 22) d97_22 (ml97 _ (by decide)) rfl (am_c_iload_n hG (pc := 23) d97_23 rfl (x_istore_n (lv' := [(3, .inl l1), (2, .inl (μ (am_ref l0 7) (l1 : Int).toNat)), (0, .inr (.inr (6, l0))), (1, .inl l1)]) hG (pc := 24) d97_24 (ml97 _ (by decide)) rfl (x_lp h (fun r h1 h2 => (am_lvw (lv2 := [(0, .inr (.inr (6, l0))), (1, .inl l1), (2, .inl (μ (am_ref l0 7) (l1 : Int).toNat)), (3, .inl l1)]) [2, 3, 1, 0] rfl (w97_25 hG hr _ _ _ _ _ _ _ h1 (fun q1 e => am_q1 e h2 (fun h => hI _ (Option.some.inj h).symm)) (fun t1 e => am_q2 e h2 (fun h => (am_c_aload_n hG (pc := 72) d97_72 rfl (x_get_n (v := .inr (.inr (16, am_ref l0 7))) hG (pc := 73) d97_73 mo97 f6_40 rfl (am_c_iload_n hG (pc := 76) d97_76 rfl (am_c_iload_n hG (pc := 77) d97_77 rfl (x_iastore hG (pc := 78) d97_78 h (fun h => (x_iinc (lv' := [(1, .inl (w32 (l1 + 1))), (0, .inr (.inr (6, l0))), (2, .inl (μ (am_ref l0 7) (l1 : Int).toNat)), (3, .inl t1.1)]) hG (pc := 79) d97_79 rfl (ml97 _ (by decide)) rfl (x_goto (tgt := 2) hG (pc := 82) d97_82 rfl (am_lvw (lv2 := [(0, .inr (.inr (6, l0))), (1, .inl (w32 (l1 + 1)))]) [1, 0] rfl (ih _ _ _ h hI hX)))))))))))))))))))))))))))))))))
def fn97 (o : Nat) (μ : am_M) : Option (Int × am_M) := (am_op (L97_2 o am_fuel 1 μ) (fun s => am_lp s (fun q2 => some q2) (fun t2 => some (0, t2.2))))
def sp97 : am_F := fun vs μ => am_aR 6 vs fun o vs => am_a0 vs (fn97 o μ)
theorem e97 (o : Nat) (μ : am_M) : sp97 [.inr (.inr (6, o))] μ = fn97 o μ := am_aR_c.trans am_a0_c
theorem sd97 : am_Sd 97 sp97 := by
  refine am_Sd_of (by decide) (fun vs μ μ' x h hv hM => ?_)
  obtain ⟨o, vs0, rfl, h0⟩ := am_aR_s h
  obtain ⟨rfl, hz⟩ := am_a0_s h0
  refine ⟨Nat.le_of_ble_eq_true rfl, fun X C hG hr => ?_⟩
  have h := hz
  unfold fn97 at h
  exact (show am_W X C 97 _ 0 0 0 [(0, .inr (.inr (6, o)))] [] μ from (am_c_iconst hG (pc := 0) d97_0 (by decide) (x_istore_n (lv' := [(1, .inl 1), (0, .inr (.inr (6, o)))]) hG (pc := 1) d97_1 (ml97 _ (by decide)) rfl (x_lp h (fun r h1 h2 => (am_lvw (lv2 := [(0, .inr (.inr (6, o))), (1, .inl 1)]) [1, 0] rfl (w97_2 hG hr _ _ _ _ _ h1 (fun q2 e => am_q1 e h2 (fun h => am_q0 h)) (fun t2 e => am_q2 e h2 (fun h => (xq_vret hG (by decide) hr (pc := 85) d97_85 rk97 (am_q0 h)))))))))))
/-! ChartPress$Request.direction()I -/
theorem D98 (k : Nat) {pc : Nat} {i : Instr} (h : tbi98[k]? = some (pc, i)) (hs : am_isw i = false) {n : Nat} (hn : am_il i = n) : decode (am_mc 98) pc = .ok (i, n) := am_d2 (by decide) (by decide) rfl h hs hn
theorem d98_0 : decode (am_mc 98) 0 = .ok (.aload_n 0, 1) := D98 0 rfl rfl rfl
theorem d98_1 : decode (am_mc 98) 1 = .ok (.getfield 80, 3) := D98 1 rfl rfl rfl
theorem d98_4 : decode (am_mc 98) 4 = .ok (.ireturn, 1) := D98 2 rfl rfl rfl
theorem ml98 : ∀ n, n < 1 → n < am_ml 98 := fun _ h => h
theorem mo98 : am_mo 98 = 4 := by decide +kernel
theorem mr98 : am_mr 98 = some .int := by decide +kernel
theorem rg98 : am_rcg 98 = 5 := by decide +kernel
def fn98 (o : Nat) (μ : am_M) : Option (Int × am_M) := some (μ o 10, μ)
def sp98 : am_F := fun vs μ => am_aR 4 vs fun o vs => am_a0 vs (fn98 o μ)
theorem e98 (o : Nat) (μ : am_M) : sp98 [.inr (.inr (4, o))] μ = fn98 o μ := am_aR_c.trans am_a0_c
theorem sd98 : am_Sd 98 sp98 := by
  refine am_Sd_of (by decide) (fun vs μ μ' x h hv hM => ?_)
  obtain ⟨o, vs0, rfl, h0⟩ := am_aR_s h
  obtain ⟨rfl, hz⟩ := am_a0_s h0
  refine ⟨Nat.le_of_ble_eq_true rfl, fun X C hG hr => ?_⟩
  have h := hz
  unfold fn98 at h
  exact (show am_W X C 98 _ 0 0 0 [(0, .inr (.inr (4, o)))] [] μ from (am_c_aload_n hG (pc := 0) d98_0 rfl (x_get_n (v := .inl (μ o 10)) hG (pc := 1) d98_1 mo98 f4_80 rfl (xq_iret hG (by decide) hr (pc := 4) d98_4 mr98 (am_q0 h)))))
/-! ChartPress$Groups.putInOrder(LChartPress$Table;LChartPress$Request;)V -/
theorem D99 (k : Nat) {pc : Nat} {i : Instr} (h : tbi99[k]? = some (pc, i)) (hs : am_isw i = false) {n : Nat} (hn : am_il i = n) : decode (am_mc 99) pc = .ok (i, n) := am_d2 (by decide) (by decide) rfl h hs hn
theorem d99_0 : decode (am_mc 99) 0 = .ok (.aload_n 2, 1) := D99 0 rfl rfl rfl
theorem d99_1 : decode (am_mc 99) 1 = .ok (.invokevirtual 78, 3) := D99 1 rfl rfl rfl
theorem d99_4 : decode (am_mc 99) 4 = .ok (.istore_n 3, 1) := D99 2 rfl rfl rfl
theorem d99_5 : decode (am_mc 99) 5 = .ok (.aload_n 1, 1) := D99 3 rfl rfl rfl
theorem d99_6 : decode (am_mc 99) 6 = .ok (.iload_n 3, 1) := D99 4 rfl rfl rfl
theorem d99_7 : decode (am_mc 99) 7 = .ok (.invokevirtual 150, 3) := D99 5 rfl rfl rfl
theorem d99_10 : decode (am_mc 99) 10 = .ok (.iconst 3, 1) := D99 6 rfl rfl rfl
theorem d99_11 : decode (am_mc 99) 11 = .ok (.if_icmp .eq 51, 3) := D99 7 rfl rfl rfl
theorem d99_14 : decode (am_mc 99) 14 = .ok (.iconst 0, 1) := D99 8 rfl rfl rfl
theorem d99_15 : decode (am_mc 99) 15 = .ok (.istore 4, 2) := D99 9 rfl rfl rfl
theorem d99_17 : decode (am_mc 99) 17 = .ok (.iload 4, 2) := D99 10 rfl rfl rfl
theorem d99_19 : decode (am_mc 99) 19 = .ok (.aload_n 0, 1) := D99 11 rfl rfl rfl
theorem d99_20 : decode (am_mc 99) 20 = .ok (.getfield 62, 3) := D99 12 rfl rfl rfl
theorem d99_23 : decode (am_mc 99) 23 = .ok (.if_icmp .ge 35, 3) := D99 13 rfl rfl rfl
theorem d99_26 : decode (am_mc 99) 26 = .ok (.iload 4, 2) := D99 14 rfl rfl rfl
theorem d99_28 : decode (am_mc 99) 28 = .ok (.bipush 12, 2) := D99 15 rfl rfl rfl
theorem d99_30 : decode (am_mc 99) 30 = .ok (.if_icmp .ge 28, 3) := D99 16 rfl rfl rfl
theorem d99_33 : decode (am_mc 99) 33 = .ok (.aload_n 0, 1) := D99 17 rfl rfl rfl
theorem d99_34 : decode (am_mc 99) 34 = .ok (.getfield 37, 3) := D99 18 rfl rfl rfl
theorem d99_37 : decode (am_mc 99) 37 = .ok (.iload 4, 2) := D99 19 rfl rfl rfl
theorem d99_39 : decode (am_mc 99) 39 = .ok (.aload_n 1, 1) := D99 20 rfl rfl rfl
theorem d99_40 : decode (am_mc 99) 40 = .ok (.aload_n 0, 1) := D99 21 rfl rfl rfl
theorem d99_41 : decode (am_mc 99) 41 = .ok (.getfield 18, 3) := D99 22 rfl rfl rfl
theorem d99_44 : decode (am_mc 99) 44 = .ok (.iload 4, 2) := D99 23 rfl rfl rfl
theorem d99_46 : decode (am_mc 99) 46 = .ok (.iaload, 1) := D99 24 rfl rfl rfl
theorem d99_47 : decode (am_mc 99) 47 = .ok (.iload_n 3, 1) := D99 25 rfl rfl rfl
theorem d99_48 : decode (am_mc 99) 48 = .ok (.invokevirtual 142, 3) := D99 26 rfl rfl rfl
theorem d99_51 : decode (am_mc 99) 51 = .ok (.lastore, 1) := D99 27 rfl rfl rfl
theorem d99_52 : decode (am_mc 99) 52 = .ok (.iinc 4 1, 3) := D99 28 rfl rfl rfl
theorem d99_55 : decode (am_mc 99) 55 = .ok (.goto (-38), 3) := D99 29 rfl rfl rfl
theorem d99_58 : decode (am_mc 99) 58 = .ok (.aload_n 0, 1) := D99 30 rfl rfl rfl
theorem d99_59 : decode (am_mc 99) 59 = .ok (.invokevirtual 154, 3) := D99 31 rfl rfl rfl
theorem d99_62 : decode (am_mc 99) 62 = .ok (.aload_n 2, 1) := D99 32 rfl rfl rfl
theorem d99_63 : decode (am_mc 99) 63 = .ok (.invokevirtual 157, 3) := D99 33 rfl rfl rfl
theorem d99_66 : decode (am_mc 99) 66 = .ok (.ifCond .eq 52, 3) := D99 34 rfl rfl rfl
theorem d99_69 : decode (am_mc 99) 69 = .ok (.iconst 0, 1) := D99 35 rfl rfl rfl
theorem d99_70 : decode (am_mc 99) 70 = .ok (.istore 4, 2) := D99 36 rfl rfl rfl
theorem d99_72 : decode (am_mc 99) 72 = .ok (.iload 4, 2) := D99 37 rfl rfl rfl
theorem d99_74 : decode (am_mc 99) 74 = .ok (.aload_n 0, 1) := D99 38 rfl rfl rfl
theorem d99_75 : decode (am_mc 99) 75 = .ok (.getfield 62, 3) := D99 39 rfl rfl rfl
theorem d99_78 : decode (am_mc 99) 78 = .ok (.if_icmp .ge 36, 3) := D99 40 rfl rfl rfl
theorem d99_81 : decode (am_mc 99) 81 = .ok (.iload 4, 2) := D99 41 rfl rfl rfl
theorem d99_83 : decode (am_mc 99) 83 = .ok (.bipush 12, 2) := D99 42 rfl rfl rfl
theorem d99_85 : decode (am_mc 99) 85 = .ok (.if_icmp .ge 29, 3) := D99 43 rfl rfl rfl
theorem d99_88 : decode (am_mc 99) 88 = .ok (.aload_n 0, 1) := D99 44 rfl rfl rfl
theorem d99_89 : decode (am_mc 99) 89 = .ok (.getfield 37, 3) := D99 45 rfl rfl rfl
theorem d99_92 : decode (am_mc 99) 92 = .ok (.iload 4, 2) := D99 46 rfl rfl rfl
theorem d99_94 : decode (am_mc 99) 94 = .ok (.aload_n 2, 1) := D99 47 rfl rfl rfl
theorem d99_95 : decode (am_mc 99) 95 = .ok (.invokevirtual 157, 3) := D99 48 rfl rfl rfl
theorem d99_98 : decode (am_mc 99) 98 = .ok (.i2l, 1) := D99 49 rfl rfl rfl
theorem d99_99 : decode (am_mc 99) 99 = .ok (.aload_n 0, 1) := D99 50 rfl rfl rfl
theorem d99_100 : decode (am_mc 99) 100 = .ok (.getfield 34, 3) := D99 51 rfl rfl rfl
theorem d99_103 : decode (am_mc 99) 103 = .ok (.iload 4, 2) := D99 52 rfl rfl rfl
theorem d99_105 : decode (am_mc 99) 105 = .ok (.laload, 1) := D99 53 rfl rfl rfl
theorem d99_106 : decode (am_mc 99) 106 = .ok (.lmul, 1) := D99 54 rfl rfl rfl
theorem d99_107 : decode (am_mc 99) 107 = .ok (.lastore, 1) := D99 55 rfl rfl rfl
theorem d99_108 : decode (am_mc 99) 108 = .ok (.iinc 4 1, 3) := D99 56 rfl rfl rfl
theorem d99_111 : decode (am_mc 99) 111 = .ok (.goto (-39), 3) := D99 57 rfl rfl rfl
theorem d99_114 : decode (am_mc 99) 114 = .ok (.aload_n 0, 1) := D99 58 rfl rfl rfl
theorem d99_115 : decode (am_mc 99) 115 = .ok (.invokevirtual 154, 3) := D99 59 rfl rfl rfl
theorem d99_118 : decode (am_mc 99) 118 = .ok (.return_, 1) := D99 60 rfl rfl rfl
theorem ml99 : ∀ n, n < 5 → n < am_ml 99 := fun _ h => h
theorem mo99 : am_mo 99 = 6 := by decide +kernel
theorem rk99 : am_rk 99 = 0 := by decide +kernel
theorem rg99 : am_rcg 99 = 7 := by decide +kernel
theorem m6_78 : tb_m 6 78 = some (83, 1, 1, 0) := by decide +kernel
theorem m6_150 : tb_m 6 150 = some (45, 2, 1, 0) := by decide +kernel
theorem m6_154 : tb_m 6 154 = some (97, 1, 0, 0) := by decide +kernel
theorem m6_157 : tb_m 6 157 = some (98, 1, 1, 0) := by decide +kernel
theorem dp99_45 : am_md 45 + 1 ≤ am_md 99 ∧ 8 + (am_ml 45 + 11) + am_lr 45 ≤ am_lr 99 := by decide +kernel
theorem dp99_80 : am_md 80 + 1 ≤ am_md 99 ∧ 8 + (am_ml 80 + 11) + am_lr 80 ≤ am_lr 99 := by decide +kernel
theorem dp99_83 : am_md 83 + 1 ≤ am_md 99 ∧ 8 + (am_ml 83 + 11) + am_lr 83 ≤ am_lr 99 := by decide +kernel
theorem dp99_97 : am_md 97 + 1 ≤ am_md 99 ∧ 8 + (am_ml 97 + 11) + am_lr 97 ≤ am_lr 99 := by decide +kernel
theorem dp99_98 : am_md 98 + 1 ≤ am_md 99 ∧ 8 + (am_ml 98 + 11) + am_lr 98 ≤ am_lr 99 := by decide +kernel
def L99_72 (l0 : Nat) (l2 : Nat) : Nat → Int → am_M → Option ((Int × am_M) ⊕ (Int × am_M))
  | 0, _, _ => none
  | n + 1, l4, μ => (if l4 < μ l0 9 then (if l4 < 12 then (am_op (fn98 l2 μ) (fun z4 => (if (0 : Int) ≤ l4 ∧ l4 < ((am_len (am_ref l0 5) : Nat) : Int) then (if (0 : Int) ≤ l4 ∧ l4 < ((am_len (am_ref l0 6) : Nat) : Int) then (L99_72 l0 l2 n (w32 (l4 + 1)) (am_up z4.2 (am_ref l0 6) (l4 : Int).toNat (w64 (z4.1 * (z4.2 (am_ref l0 5) (l4 : Int).toNat))))) else none) else none))) else (some (.inr (l4, μ)))) else (some (.inr (l4, μ))))
theorem w99_72 {X : am_K} {C : am_C} {Q : State → Prop} (hG : am_G X C 99 0 0 (0, fun _ => 0)) (hr : match X with | (_, _, _, _, _, _, _, _, meth, _) => meth.sig.returnType = am_mr 99 ∧ meth.locks = false) (l0 : Nat) (l2 : Nat) : ∀ (n : Nat) (l4 : Int) (μ : am_M) (r : (Int × am_M) ⊕ (Int × am_M)), L99_72 l0 l2 n l4 μ = some r → (∀ q, r = .inl q → Q = am_E X C 99 q.1 q.2) → (∀ t, r = .inr t → am_W X C 99 Q 0 0 114 [(0, .inr (.inr (6, l0)))] [] t.2) → am_W X C 99 Q 0 0 72 [(0, .inr (.inr (6, l0))), (2, .inr (.inr (4, l2))), (4, .inl l4)] [] μ := by
  intro n
  induction n with
  | zero => intro l4 μ r h; cases h
  | succ n ih =>
    intro l4 μ r h hI hX
    unfold L99_72 at h
    exact (am_c_iload hG (pc := 72) d99_72 rfl (am_c_aload_n hG (pc := 74) d99_74 rfl (x_get_n (v := .inl (μ l0 9)) hG (pc := 75) d99_75 mo99 f6_62 rfl (x_icmp_ge (tgt := 114) hG (pc := 78) d99_78 rfl h (fun h => (am_lvw (lv2 := [(0, .inr (.inr (6, l0)))]) [0] rfl (hX (l4, μ) (Option.some.inj h).symm))) (fun h => (am_c_iload hG (pc := 81) d99_81 rfl (am_c_bipush hG (pc := 83) d99_83 (by decide) (x_icmp_ge (tgt := 114) hG (pc := 85) d99_85 rfl h (fun h => (am_lvw (lv2 := [(0, .inr (.inr (6, l0)))]) [0] rfl (hX (l4, μ) (Option.some.inj h).symm))) (fun h => (am_c_aload_n hG (pc := 88) d99_88 rfl (x_get_n (v := .inr (.inr (17, am_ref l0 6))) hG (pc := 89) d99_89 mo99 f6_37 rfl (am_c_iload hG (pc := 92) d99_92 rfl (am_c_aload_n hG (pc := 94) d99_94 rfl (x_virtual_i (t := 4) (o := l2) (as2 := []) (rest := [.inl l4, .inr (.inr (17, am_ref l0 6))]) hG (pc := 95) d99_95 mo99 m6_157 (by decide) dp99_98 rfl rfl (Nat.le_of_ble_eq_true rfl) (Nat.le_of_ble_eq_true rfl) rg98 sd98 (e98 _ _) h (fun z4 h => (am_c_i2l hG (pc := 98) d99_98 (am_c_aload_n hG (pc := 99) d99_99 rfl (x_get_n (v := .inr (.inr (17, am_ref l0 5))) hG (pc := 100) d99_100 mo99 f6_34 rfl (am_c_iload hG (pc := 103) d99_103 rfl (x_laload hG (pc := 105) d99_105 h (fun h => (am_c_lmul hG (pc := 106) d99_106 (x_lastore hG (pc := 107) d99_107 h (fun h => (x_iinc (lv' := [(4, .inl (w32 (l4 + 1))), (0, .inr (.inr (6, l0))), (2, .inr (.inr (4, l2)))]) hG (pc := 108) d99_108 rfl (ml99 _ (by decide)) rfl (x_goto (tgt := 72) hG (pc := 111) d99_111 rfl (am_lvw (lv2 := [(0, .inr (.inr (6, l0))), (2, .inr (.inr (4, l2))), (4, .inl (w32 (l4 + 1)))]) [1, 2, 0] rfl (ih _ _ _ h hI hX))))))))))))))))))))))))))))
def L99_17 (l0 : Nat) (l1 : Nat) (l2 : Nat) (l3 : Int) : Nat → Int → am_M → Option ((Int × am_M) ⊕ (Int × am_M))
  | 0, _, _ => none
  | n + 1, l4, μ => (if l4 < μ l0 9 then (if l4 < 12 then (if (0 : Int) ≤ l4 ∧ l4 < ((am_len (am_ref l0 2) : Nat) : Int) then (am_op (fn80 l1 (μ (am_ref l0 2) (l4 : Int).toNat) l3 μ) (fun z6 => (if (0 : Int) ≤ l4 ∧ l4 < ((am_len (am_ref l0 6) : Nat) : Int) then (L99_17 l0 l1 l2 l3 n (w32 (l4 + 1)) (am_up z6.2 (am_ref l0 6) (l4 : Int).toNat z6.1)) else none))) else none) else (some (.inr (l4, μ)))) else (some (.inr (l4, μ))))
theorem w99_17 {X : am_K} {C : am_C} {Q : State → Prop} (hG : am_G X C 99 0 0 (0, fun _ => 0)) (hr : match X with | (_, _, _, _, _, _, _, _, meth, _) => meth.sig.returnType = am_mr 99 ∧ meth.locks = false) (l0 : Nat) (l1 : Nat) (l2 : Nat) (l3 : Int) : ∀ (n : Nat) (l4 : Int) (μ : am_M) (r : (Int × am_M) ⊕ (Int × am_M)), L99_17 l0 l1 l2 l3 n l4 μ = some r → (∀ q, r = .inl q → Q = am_E X C 99 q.1 q.2) → (∀ t, r = .inr t → am_W X C 99 Q 0 0 58 [(0, .inr (.inr (6, l0))), (2, .inr (.inr (4, l2)))] [] t.2) → am_W X C 99 Q 0 0 17 [(0, .inr (.inr (6, l0))), (1, .inr (.inr (2, l1))), (2, .inr (.inr (4, l2))), (3, .inl l3), (4, .inl l4)] [] μ := by
  intro n
  induction n with
  | zero => intro l4 μ r h; cases h
  | succ n ih =>
    intro l4 μ r h hI hX
    unfold L99_17 at h
    exact (am_c_iload hG (pc := 17) d99_17 rfl (am_c_aload_n hG (pc := 19) d99_19 rfl (x_get_n (v := .inl (μ l0 9)) hG (pc := 20) d99_20 mo99 f6_62 rfl (x_icmp_ge (tgt := 58) hG (pc := 23) d99_23 rfl h (fun h => (am_lvw (lv2 := [(0, .inr (.inr (6, l0))), (2, .inr (.inr (4, l2)))]) [0, 2] rfl (hX (l4, μ) (Option.some.inj h).symm))) (fun h => (am_c_iload hG (pc := 26) d99_26 rfl (am_c_bipush hG (pc := 28) d99_28 (by decide) (x_icmp_ge (tgt := 58) hG (pc := 30) d99_30 rfl h (fun h => (am_lvw (lv2 := [(0, .inr (.inr (6, l0))), (2, .inr (.inr (4, l2)))]) [0, 2] rfl (hX (l4, μ) (Option.some.inj h).symm))) (fun h => (am_c_aload_n hG (pc := 33) d99_33 rfl (x_get_n (v := .inr (.inr (17, am_ref l0 6))) hG (pc := 34) d99_34 mo99 f6_37 rfl (am_c_iload hG (pc := 37) d99_37 rfl (am_c_aload_n hG (pc := 39) d99_39 rfl (am_c_aload_n hG (pc := 40) d99_40 rfl (x_get_n (v := .inr (.inr (16, am_ref l0 2))) hG (pc := 41) d99_41 mo99 f6_18 rfl (am_c_iload hG (pc := 44) d99_44 rfl (x_iaload hG (pc := 46) d99_46 h (fun h => (am_c_iload_n hG (pc := 47) d99_47 rfl (x_virtual_l (t := 2) (o := l1) (as2 := [.inl (μ (am_ref l0 2) (l4 : Int).toNat), .inl l3]) (rest := [.inl l4, .inr (.inr (17, am_ref l0 6))]) hG (pc := 48) d99_48 mo99 m6_142 (by decide) dp99_80 rfl rfl (Nat.le_of_ble_eq_true rfl) (Nat.le_of_ble_eq_true rfl) rg80 sd80 (e80 _ _ _ _) h (fun z6 h => (x_lastore hG (pc := 51) d99_51 h (fun h => (x_iinc (lv' := [(4, .inl (w32 (l4 + 1))), (0, .inr (.inr (6, l0))), (1, .inr (.inr (2, l1))), (2, .inr (.inr (4, l2))), (3, .inl l3)]) hG (pc := 52) d99_52 rfl (ml99 _ (by decide)) rfl (x_goto (tgt := 17) hG (pc := 55) d99_55 rfl (am_lvw (lv2 := [(0, .inr (.inr (6, l0))), (1, .inr (.inr (2, l1))), (2, .inr (.inr (4, l2))), (3, .inl l3), (4, .inl (w32 (l4 + 1)))]) [1, 2, 3, 4, 0] rfl (ih _ _ _ h hI hX)))))))))))))))))))))))))))
def fn99 (o : Nat) (a : Nat) (b : Nat) (μ : am_M) : Option (Int × am_M) := (am_op (fn83 b μ) (fun z1 => (am_op (fn45 a z1.1 z1.2) (fun z2 => (if z2.1 = 3 then (am_op (fn98 b z2.2) (fun z3 => (if z3.1 = 0 then some (0, z3.2) else (am_op (L99_72 o b am_fuel 0 z3.2) (fun s => am_lp s (fun q1 => some q1) (fun t1 => (am_op (fn97 o t1.2) (fun z5 => some (0, z5.2))))))))) else (am_op (L99_17 o a b z1.1 am_fuel 0 z2.2) (fun s => am_lp s (fun q2 => some q2) (fun t2 => (am_op (fn97 o t2.2) (fun z7 => (am_op (fn98 b z7.2) (fun z8 => (if z8.1 = 0 then some (0, z8.2) else (am_op (L99_72 o b am_fuel 0 z8.2) (fun s => am_lp s (fun q3 => some q3) (fun t3 => (am_op (fn97 o t3.2) (fun z9 => some (0, z9.2)))))))))))))))))))
def sp99 : am_F := fun vs μ => am_aR 6 vs fun o vs => am_aR 2 vs fun a vs => am_aR 4 vs fun b vs => am_a0 vs (fn99 o a b μ)
theorem e99 (o : Nat) (a : Nat) (b : Nat) (μ : am_M) : sp99 [.inr (.inr (6, o)), .inr (.inr (2, a)), .inr (.inr (4, b))] μ = fn99 o a b μ := am_aR_c.trans (am_aR_c.trans (am_aR_c.trans am_a0_c))
theorem sd99 : am_Sd 99 sp99 := by
  refine am_Sd_of (by decide) (fun vs μ μ' x h hv hM => ?_)
  obtain ⟨o, vs0, rfl, h0⟩ := am_aR_s h
  obtain ⟨a, vs1, rfl, h1⟩ := am_aR_s h0
  obtain ⟨b, vs2, rfl, h2⟩ := am_aR_s h1
  obtain ⟨rfl, hz⟩ := am_a0_s h2
  refine ⟨Nat.le_of_ble_eq_true rfl, fun X C hG hr => ?_⟩
  have h := hz
  unfold fn99 at h
  exact (show am_W X C 99 _ 0 0 0 [(0, .inr (.inr (6, o))), (1, .inr (.inr (2, a))), (2, .inr (.inr (4, b)))] [] μ from (am_c_aload_n hG (pc := 0) d99_0 rfl (x_virtual_i (t := 4) (o := b) (as2 := []) (rest := []) hG (pc := 1) d99_1 mo99 m6_78 (by decide) dp99_83 rfl rfl (Nat.le_of_ble_eq_true rfl) (Nat.le_of_ble_eq_true rfl) rg83 sd83 (e83 _ _) h (fun z1 h => (x_istore_n (lv' := [(3, .inl z1.1), (0, .inr (.inr (6, o))), (1, .inr (.inr (2, a))), (2, .inr (.inr (4, b)))]) hG (pc := 4) d99_4 (ml99 _ (by decide)) rfl (am_c_aload_n hG (pc := 5) d99_5 rfl (am_c_iload_n hG (pc := 6) d99_6 rfl (x_virtual_i (t := 2) (o := a) (as2 := [.inl z1.1]) (rest := []) hG (pc := 7) d99_7 mo99 m6_150 (by decide) dp99_45 rfl rfl (Nat.le_of_ble_eq_true rfl) (Nat.le_of_ble_eq_true rfl) rg45 sd45 (e45 _ _ _) h (fun z2 h => (am_c_iconst hG (pc := 10) d99_10 (by decide) (x_icmp_eq (tgt := 62) hG (pc := 11) d99_11 rfl h (fun h => (am_c_aload_n hG (pc := 62) d99_62 rfl (x_virtual_i (t := 4) (o := b) (as2 := []) (rest := []) hG (pc := 63) d99_63 mo99 m6_157 (by decide) dp99_98 rfl rfl (Nat.le_of_ble_eq_true rfl) (Nat.le_of_ble_eq_true rfl) rg98 sd98 (e98 _ _) h (fun z3 h => (x_if_eq (tgt := 118) hG (pc := 66) d99_66 rfl h (fun h => (xq_vret hG (by decide) hr (pc := 118) d99_118 rk99 (am_q0 h))) (fun h => (am_c_iconst hG (pc := 69) d99_69 (by decide) (x_istore (lv' := [(4, .inl 0), (3, .inl z1.1), (0, .inr (.inr (6, o))), (1, .inr (.inr (2, a))), (2, .inr (.inr (4, b)))]) hG (pc := 70) d99_70 (ml99 _ (by decide)) rfl (x_lp h (fun r h1 h2 => (am_lvw (lv2 := [(0, .inr (.inr (6, o))), (2, .inr (.inr (4, b))), (4, .inl 0)]) [2, 4, 0] rfl (w99_72 hG hr _ _ _ _ _ _ h1 (fun q1 e => am_q1 e h2 (fun h => am_q0 h)) (fun t1 e => am_q2 e h2 (fun h => (am_c_aload_n hG (pc := 114) d99_114 rfl (x_virtual_v (t := 6) (o := o) (as2 := []) (rest := []) hG (pc := 115) d99_115 mo99 m6_154 (by decide) dp99_97 rfl rfl (Nat.le_of_ble_eq_true rfl) (Nat.le_of_ble_eq_true rfl) rg97 sd97 (e97 _ _) h (fun z5 h => (xq_vret hG (by decide) hr (pc := 118) d99_118 rk99 (am_q0 h))))))))))))))))))) (fun h => (am_c_iconst hG (pc := 14) d99_14 (by decide) (x_istore (lv' := [(4, .inl 0), (3, .inl z1.1), (0, .inr (.inr (6, o))), (1, .inr (.inr (2, a))), (2, .inr (.inr (4, b)))]) hG (pc := 15) d99_15 (ml99 _ (by decide)) rfl (x_lp h (fun r h1 h2 => (am_lvw (lv2 := [(0, .inr (.inr (6, o))), (1, .inr (.inr (2, a))), (2, .inr (.inr (4, b))), (3, .inl z1.1), (4, .inl 0)]) [2, 3, 4, 1, 0] rfl (w99_17 hG hr _ _ _ _ _ _ _ _ h1 (fun q2 e => am_q1 e h2 (fun h => am_q0 h)) (fun t2 e => am_q2 e h2 (fun h => (am_c_aload_n hG (pc := 58) d99_58 rfl (x_virtual_v (t := 6) (o := o) (as2 := []) (rest := []) hG (pc := 59) d99_59 mo99 m6_154 (by decide) dp99_97 rfl rfl (Nat.le_of_ble_eq_true rfl) (Nat.le_of_ble_eq_true rfl) rg97 sd97 (e97 _ _) h (fun z7 h => (am_c_aload_n hG (pc := 62) d99_62 rfl (x_virtual_i (t := 4) (o := b) (as2 := []) (rest := []) hG (pc := 63) d99_63 mo99 m6_157 (by decide) dp99_98 rfl rfl (Nat.le_of_ble_eq_true rfl) (Nat.le_of_ble_eq_true rfl) rg98 sd98 (e98 _ _) h (fun z8 h => (x_if_eq (tgt := 118) hG (pc := 66) d99_66 rfl h (fun h => (xq_vret hG (by decide) hr (pc := 118) d99_118 rk99 (am_q0 h))) (fun h => (am_c_iconst hG (pc := 69) d99_69 (by decide) (x_istore (lv' := [(4, .inl 0), (0, .inr (.inr (6, o))), (2, .inr (.inr (4, b)))]) hG (pc := 70) d99_70 (ml99 _ (by decide)) rfl (x_lp h (fun r h1 h2 => (am_lvw (lv2 := [(0, .inr (.inr (6, o))), (2, .inr (.inr (4, b))), (4, .inl 0)]) [1, 2, 0] rfl (w99_72 hG hr _ _ _ _ _ _ h1 (fun q3 e => am_q1 e h2 (fun h => am_q0 h)) (fun t3 e => am_q2 e h2 (fun h => (am_c_aload_n hG (pc := 114) d99_114 rfl (x_virtual_v (t := 6) (o := o) (as2 := []) (rest := []) hG (pc := 115) d99_115 mo99 m6_154 (by decide) dp99_97 rfl rfl (Nat.le_of_ble_eq_true rfl) (Nat.le_of_ble_eq_true rfl) rg97 sd97 (e97 _ _) h (fun z9 h => (xq_vret hG (by decide) hr (pc := 118) d99_118 rk99 (am_q0 h)))))))))))))))))))))))))))))))))))))))))
/-! ChartPress$Groups.carryOut(LChartPress$Table;LChartPress$Request;)V -/
theorem D100 (k : Nat) {pc : Nat} {i : Instr} (h : tbi100[k]? = some (pc, i)) (hs : am_isw i = false) {n : Nat} (hn : am_il i = n) : decode (am_mc 100) pc = .ok (i, n) := am_d2 (by decide) (by decide) rfl h hs hn
theorem d100_0 : decode (am_mc 100) 0 = .ok (.aload_n 1, 1) := D100 0 rfl rfl rfl
theorem d100_1 : decode (am_mc 100) 1 = .ok (.invokevirtual 50, 3) := D100 1 rfl rfl rfl
theorem d100_4 : decode (am_mc 100) 4 = .ok (.bipush 12, 2) := D100 2 rfl rfl rfl
theorem d100_6 : decode (am_mc 100) 6 = .ok (.invokestatic 56, 3) := D100 3 rfl rfl rfl
theorem d100_9 : decode (am_mc 100) 9 = .ok (.istore_n 3, 1) := D100 4 rfl rfl rfl
theorem d100_10 : decode (am_mc 100) 10 = .ok (.aload_n 0, 1) := D100 5 rfl rfl rfl
theorem d100_11 : decode (am_mc 100) 11 = .ok (.iconst 0, 1) := D100 6 rfl rfl rfl
theorem d100_12 : decode (am_mc 100) 12 = .ok (.putfield 62, 3) := D100 7 rfl rfl rfl
theorem d100_15 : decode (am_mc 100) 15 = .ok (.aload_n 0, 1) := D100 8 rfl rfl rfl
theorem d100_16 : decode (am_mc 100) 16 = .ok (.iconst 0, 1) := D100 9 rfl rfl rfl
theorem d100_17 : decode (am_mc 100) 17 = .ok (.putfield 66, 3) := D100 10 rfl rfl rfl
theorem d100_20 : decode (am_mc 100) 20 = .ok (.aload_n 0, 1) := D100 11 rfl rfl rfl
theorem d100_21 : decode (am_mc 100) 21 = .ok (.iconst 0, 1) := D100 12 rfl rfl rfl
theorem d100_22 : decode (am_mc 100) 22 = .ok (.putfield 69, 3) := D100 13 rfl rfl rfl
theorem d100_25 : decode (am_mc 100) 25 = .ok (.iconst 0, 1) := D100 14 rfl rfl rfl
theorem d100_26 : decode (am_mc 100) 26 = .ok (.istore 4, 2) := D100 15 rfl rfl rfl
theorem d100_28 : decode (am_mc 100) 28 = .ok (.iload 4, 2) := D100 16 rfl rfl rfl
theorem d100_30 : decode (am_mc 100) 30 = .ok (.iload_n 3, 1) := D100 17 rfl rfl rfl
theorem d100_31 : decode (am_mc 100) 31 = .ok (.if_icmp .ge 57, 3) := D100 18 rfl rfl rfl
theorem d100_34 : decode (am_mc 100) 34 = .ok (.aload_n 0, 1) := D100 19 rfl rfl rfl
theorem d100_35 : decode (am_mc 100) 35 = .ok (.getfield 9, 3) := D100 20 rfl rfl rfl
theorem d100_38 : decode (am_mc 100) 38 = .ok (.iload 4, 2) := D100 21 rfl rfl rfl
theorem d100_40 : decode (am_mc 100) 40 = .ok (.iconst (-1), 1) := D100 22 rfl rfl rfl
theorem d100_41 : decode (am_mc 100) 41 = .ok (.iastore, 1) := D100 23 rfl rfl rfl
theorem d100_42 : decode (am_mc 100) 42 = .ok (.aload_n 0, 1) := D100 24 rfl rfl rfl
theorem d100_43 : decode (am_mc 100) 43 = .ok (.getfield 15, 3) := D100 25 rfl rfl rfl
theorem d100_46 : decode (am_mc 100) 46 = .ok (.iload 4, 2) := D100 26 rfl rfl rfl
theorem d100_48 : decode (am_mc 100) 48 = .ok (.iconst (-1), 1) := D100 27 rfl rfl rfl
theorem d100_49 : decode (am_mc 100) 49 = .ok (.iastore, 1) := D100 28 rfl rfl rfl
theorem d100_50 : decode (am_mc 100) 50 = .ok (.aload_n 2, 1) := D100 29 rfl rfl rfl
theorem d100_51 : decode (am_mc 100) 51 = .ok (.aload_n 1, 1) := D100 30 rfl rfl rfl
theorem d100_52 : decode (am_mc 100) 52 = .ok (.iload 4, 2) := D100 31 rfl rfl rfl
theorem d100_54 : decode (am_mc 100) 54 = .ok (.invokevirtual 72, 3) := D100 32 rfl rfl rfl
theorem d100_57 : decode (am_mc 100) 57 = .ok (.ifCond .eq 25, 3) := D100 33 rfl rfl rfl
theorem d100_60 : decode (am_mc 100) 60 = .ok (.aload_n 0, 1) := D100 34 rfl rfl rfl
theorem d100_61 : decode (am_mc 100) 61 = .ok (.aload_n 1, 1) := D100 35 rfl rfl rfl
theorem d100_62 : decode (am_mc 100) 62 = .ok (.aload_n 2, 1) := D100 36 rfl rfl rfl
theorem d100_63 : decode (am_mc 100) 63 = .ok (.invokevirtual 78, 3) := D100 37 rfl rfl rfl
theorem d100_66 : decode (am_mc 100) 66 = .ok (.iload 4, 2) := D100 38 rfl rfl rfl
theorem d100_68 : decode (am_mc 100) 68 = .ok (.invokevirtual 81, 3) := D100 39 rfl rfl rfl
theorem d100_71 : decode (am_mc 100) 71 = .ok (.aload_n 0, 1) := D100 40 rfl rfl rfl
theorem d100_72 : decode (am_mc 100) 72 = .ok (.aload_n 1, 1) := D100 41 rfl rfl rfl
theorem d100_73 : decode (am_mc 100) 73 = .ok (.aload_n 2, 1) := D100 42 rfl rfl rfl
theorem d100_74 : decode (am_mc 100) 74 = .ok (.invokevirtual 85, 3) := D100 43 rfl rfl rfl
theorem d100_77 : decode (am_mc 100) 77 = .ok (.iload 4, 2) := D100 44 rfl rfl rfl
theorem d100_79 : decode (am_mc 100) 79 = .ok (.invokevirtual 88, 3) := D100 45 rfl rfl rfl
theorem d100_82 : decode (am_mc 100) 82 = .ok (.iinc 4 1, 3) := D100 46 rfl rfl rfl
theorem d100_85 : decode (am_mc 100) 85 = .ok (.goto (-57), 3) := D100 47 rfl rfl rfl
theorem d100_88 : decode (am_mc 100) 88 = .ok (.iconst 0, 1) := D100 48 rfl rfl rfl
theorem d100_89 : decode (am_mc 100) 89 = .ok (.istore 4, 2) := D100 49 rfl rfl rfl
theorem d100_91 : decode (am_mc 100) 91 = .ok (.iload 4, 2) := D100 50 rfl rfl rfl
theorem d100_93 : decode (am_mc 100) 93 = .ok (.aload_n 0, 1) := D100 51 rfl rfl rfl
theorem d100_94 : decode (am_mc 100) 94 = .ok (.getfield 62, 3) := D100 52 rfl rfl rfl
theorem d100_97 : decode (am_mc 100) 97 = .ok (.if_icmp .ge 25, 3) := D100 53 rfl rfl rfl
theorem d100_100 : decode (am_mc 100) 100 = .ok (.iload 4, 2) := D100 54 rfl rfl rfl
theorem d100_102 : decode (am_mc 100) 102 = .ok (.bipush 12, 2) := D100 55 rfl rfl rfl
theorem d100_104 : decode (am_mc 100) 104 = .ok (.if_icmp .ge 18, 3) := D100 56 rfl rfl rfl
theorem d100_107 : decode (am_mc 100) 107 = .ok (.aload_n 0, 1) := D100 57 rfl rfl rfl
theorem d100_108 : decode (am_mc 100) 108 = .ok (.aload_n 1, 1) := D100 58 rfl rfl rfl
theorem d100_109 : decode (am_mc 100) 109 = .ok (.aload_n 2, 1) := D100 59 rfl rfl rfl
theorem d100_110 : decode (am_mc 100) 110 = .ok (.iload 4, 2) := D100 60 rfl rfl rfl
theorem d100_112 : decode (am_mc 100) 112 = .ok (.iload_n 3, 1) := D100 61 rfl rfl rfl
theorem d100_113 : decode (am_mc 100) 113 = .ok (.invokevirtual 91, 3) := D100 62 rfl rfl rfl
theorem d100_116 : decode (am_mc 100) 116 = .ok (.iinc 4 1, 3) := D100 63 rfl rfl rfl
theorem d100_119 : decode (am_mc 100) 119 = .ok (.goto (-28), 3) := D100 64 rfl rfl rfl
theorem d100_122 : decode (am_mc 100) 122 = .ok (.aload_n 0, 1) := D100 65 rfl rfl rfl
theorem d100_123 : decode (am_mc 100) 123 = .ok (.aload_n 1, 1) := D100 66 rfl rfl rfl
theorem d100_124 : decode (am_mc 100) 124 = .ok (.aload_n 2, 1) := D100 67 rfl rfl rfl
theorem d100_125 : decode (am_mc 100) 125 = .ok (.invokevirtual 95, 3) := D100 68 rfl rfl rfl
theorem d100_128 : decode (am_mc 100) 128 = .ok (.return_, 1) := D100 69 rfl rfl rfl
theorem ml100 : ∀ n, n < 5 → n < am_ml 100 := fun _ h => h
theorem mo100 : am_mo 100 = 6 := by decide +kernel
theorem rk100 : am_rk 100 = 0 := by decide +kernel
theorem rg100 : am_rcg 100 = 7 := by decide +kernel
theorem m6_50 : tb_m 6 50 = some (26, 1, 1, 0) := by decide +kernel
theorem m6_56 : tb_m 6 56 = some (78, 2, 1, 0) := by decide +kernel
theorem m6_72 : tb_m 6 72 = some (82, 3, 1, 0) := by decide +kernel
theorem m6_81 : tb_m 6 81 = some (85, 4, 0, 0) := by decide +kernel
theorem m6_85 : tb_m 6 85 = some (86, 1, 1, 0) := by decide +kernel
theorem m6_88 : tb_m 6 88 = some (87, 4, 0, 0) := by decide +kernel
theorem m6_91 : tb_m 6 91 = some (96, 5, 0, 0) := by decide +kernel
theorem m6_95 : tb_m 6 95 = some (99, 3, 0, 0) := by decide +kernel
theorem dp100_26 : am_md 26 + 1 ≤ am_md 100 ∧ 8 + (am_ml 26 + 11) + am_lr 26 ≤ am_lr 100 := by decide +kernel
theorem dp100_78 : am_md 78 + 1 ≤ am_md 100 ∧ 8 + (am_ml 78 + 11) + am_lr 78 ≤ am_lr 100 := by decide +kernel
theorem dp100_82 : am_md 82 + 1 ≤ am_md 100 ∧ 8 + (am_ml 82 + 11) + am_lr 82 ≤ am_lr 100 := by decide +kernel
theorem dp100_83 : am_md 83 + 1 ≤ am_md 100 ∧ 8 + (am_ml 83 + 11) + am_lr 83 ≤ am_lr 100 := by decide +kernel
theorem dp100_85 : am_md 85 + 1 ≤ am_md 100 ∧ 8 + (am_ml 85 + 11) + am_lr 85 ≤ am_lr 100 := by decide +kernel
theorem dp100_86 : am_md 86 + 1 ≤ am_md 100 ∧ 8 + (am_ml 86 + 11) + am_lr 86 ≤ am_lr 100 := by decide +kernel
theorem dp100_87 : am_md 87 + 1 ≤ am_md 100 ∧ 8 + (am_ml 87 + 11) + am_lr 87 ≤ am_lr 100 := by decide +kernel
theorem dp100_96 : am_md 96 + 1 ≤ am_md 100 ∧ 8 + (am_ml 96 + 11) + am_lr 96 ≤ am_lr 100 := by decide +kernel
theorem dp100_99 : am_md 99 + 1 ≤ am_md 100 ∧ 8 + (am_ml 99 + 11) + am_lr 99 ≤ am_lr 100 := by decide +kernel
def L100_28 (l0 : Nat) (l1 : Nat) (l2 : Nat) (l3 : Int) : Nat → Int → am_M → Option ((Int × am_M) ⊕ (Int × am_M))
  | 0, _, _ => none
  | n + 1, l4, μ => (if l4 < l3 then (if (0 : Int) ≤ l4 ∧ l4 < ((am_len (am_ref l0 0) : Nat) : Int) then (if (0 : Int) ≤ l4 ∧ l4 < ((am_len (am_ref l0 1) : Nat) : Int) then (am_op (fn82 l2 l1 l4 (am_up (am_up μ (am_ref l0 0) (l4 : Int).toNat ((-1))) (am_ref l0 1) (l4 : Int).toNat ((-1)))) (fun z3 => (if z3.1 = 0 then (L100_28 l0 l1 l2 l3 n (w32 (l4 + 1)) z3.2) else (am_op (fn83 l2 z3.2) (fun z4 => (am_op (fn85 l0 l1 z4.1 l4 z4.2) (fun z5 => (am_op (fn86 l2 z5.2) (fun z6 => (am_op (fn87 l0 l1 z6.1 l4 z6.2) (fun z7 => (L100_28 l0 l1 l2 l3 n (w32 (l4 + 1)) z7.2)))))))))))) else none) else none) else (some (.inr (l4, μ))))
theorem w100_28 {X : am_K} {C : am_C} {Q : State → Prop} (hG : am_G X C 100 0 0 (0, fun _ => 0)) (hr : match X with | (_, _, _, _, _, _, _, _, meth, _) => meth.sig.returnType = am_mr 100 ∧ meth.locks = false) (l0 : Nat) (l1 : Nat) (l2 : Nat) (l3 : Int) : ∀ (n : Nat) (l4 : Int) (μ : am_M) (r : (Int × am_M) ⊕ (Int × am_M)), L100_28 l0 l1 l2 l3 n l4 μ = some r → (∀ q, r = .inl q → Q = am_E X C 100 q.1 q.2) → (∀ t, r = .inr t → am_W X C 100 Q 0 0 88 [(0, .inr (.inr (6, l0))), (1, .inr (.inr (2, l1))), (2, .inr (.inr (4, l2))), (3, .inl l3)] [] t.2) → am_W X C 100 Q 0 0 28 [(0, .inr (.inr (6, l0))), (1, .inr (.inr (2, l1))), (2, .inr (.inr (4, l2))), (3, .inl l3), (4, .inl l4)] [] μ := by
  intro n
  induction n with
  | zero => intro l4 μ r h; cases h
  | succ n ih =>
    intro l4 μ r h hI hX
    unfold L100_28 at h
    exact (am_c_iload hG (pc := 28) d100_28 rfl (am_c_iload_n hG (pc := 30) d100_30 rfl (x_icmp_ge (tgt := 88) hG (pc := 31) d100_31 rfl h (fun h => (am_lvw (lv2 := [(0, .inr (.inr (6, l0))), (1, .inr (.inr (2, l1))), (2, .inr (.inr (4, l2))), (3, .inl l3)]) [0, 1, 2, 3] rfl (hX (l4, μ) (Option.some.inj h).symm))) (fun h => (am_c_aload_n hG (pc := 34) d100_34 rfl (x_get_n (v := .inr (.inr (16, am_ref l0 0))) hG (pc := 35) d100_35 mo100 f6_9 rfl (am_c_iload hG (pc := 38) d100_38 rfl (am_c_iconst hG (pc := 40) d100_40 (by decide) (x_iastore hG (pc := 41) d100_41 h (fun h => (am_c_aload_n hG (pc := 42) d100_42 rfl (x_get_n (v := .inr (.inr (16, am_ref l0 1))) hG (pc := 43) d100_43 mo100 f6_15 rfl (am_c_iload hG (pc := 46) d100_46 rfl (am_c_iconst hG (pc := 48) d100_48 (by decide) (x_iastore hG (pc := 49) d100_49 h (fun h => (am_c_aload_n hG (pc := 50) d100_50 rfl (am_c_aload_n hG (pc := 51) d100_51 rfl (am_c_iload hG (pc := 52) d100_52 rfl (x_virtual_i (t := 4) (o := l2) (as2 := [.inr (.inr (2, l1)), .inl l4]) (rest := []) hG (pc := 54) d100_54 mo100 m6_72 (by decide) dp100_82 rfl rfl (Nat.le_of_ble_eq_true rfl) (Nat.le_of_ble_eq_true rfl) rg82 sd82 (e82 _ _ _ _) h (fun z3 h => (x_if_eq (tgt := 82) hG (pc := 57) d100_57 rfl h (fun h => (x_iinc (lv' := [(4, .inl (w32 (l4 + 1))), (0, .inr (.inr (6, l0))), (1, .inr (.inr (2, l1))), (2, .inr (.inr (4, l2))), (3, .inl l3)]) hG (pc := 82) d100_82 rfl (ml100 _ (by decide)) rfl (x_goto (tgt := 28) hG (pc := 85) d100_85 rfl (am_lvw (lv2 := [(0, .inr (.inr (6, l0))), (1, .inr (.inr (2, l1))), (2, .inr (.inr (4, l2))), (3, .inl l3), (4, .inl (w32 (l4 + 1)))]) [1, 2, 3, 4, 0] rfl (ih _ _ _ h hI hX))))) (fun h => (am_c_aload_n hG (pc := 60) d100_60 rfl (am_c_aload_n hG (pc := 61) d100_61 rfl (am_c_aload_n hG (pc := 62) d100_62 rfl (x_virtual_i (t := 4) (o := l2) (as2 := []) (rest := [.inr (.inr (2, l1)), .inr (.inr (6, l0))]) hG (pc := 63) d100_63 mo100 m6_78 (by decide) dp100_83 rfl rfl (Nat.le_of_ble_eq_true rfl) (Nat.le_of_ble_eq_true rfl) rg83 sd83 (e83 _ _) h (fun z4 h => (am_c_iload hG (pc := 66) d100_66 rfl (x_virtual_v (t := 6) (o := l0) (as2 := [.inr (.inr (2, l1)), .inl z4.1, .inl l4]) (rest := []) hG (pc := 68) d100_68 mo100 m6_81 (by decide) dp100_85 rfl rfl (Nat.le_of_ble_eq_true rfl) (Nat.le_of_ble_eq_true rfl) rg85 sd85 (e85 _ _ _ _ _) h (fun z5 h => (am_c_aload_n hG (pc := 71) d100_71 rfl (am_c_aload_n hG (pc := 72) d100_72 rfl (am_c_aload_n hG (pc := 73) d100_73 rfl (x_virtual_i (t := 4) (o := l2) (as2 := []) (rest := [.inr (.inr (2, l1)), .inr (.inr (6, l0))]) hG (pc := 74) d100_74 mo100 m6_85 (by decide) dp100_86 rfl rfl (Nat.le_of_ble_eq_true rfl) (Nat.le_of_ble_eq_true rfl) rg86 sd86 (e86 _ _) h (fun z6 h => (am_c_iload hG (pc := 77) d100_77 rfl (x_virtual_v (t := 6) (o := l0) (as2 := [.inr (.inr (2, l1)), .inl z6.1, .inl l4]) (rest := []) hG (pc := 79) d100_79 mo100 m6_88 (by decide) dp100_87 rfl rfl (Nat.le_of_ble_eq_true rfl) (Nat.le_of_ble_eq_true rfl) rg87 sd87 (e87 _ _ _ _ _) h (fun z7 h => (x_iinc (lv' := [(4, .inl (w32 (l4 + 1))), (0, .inr (.inr (6, l0))), (1, .inr (.inr (2, l1))), (2, .inr (.inr (4, l2))), (3, .inl l3)]) hG (pc := 82) d100_82 rfl (ml100 _ (by decide)) rfl (x_goto (tgt := 28) hG (pc := 85) d100_85 rfl (am_lvw (lv2 := [(0, .inr (.inr (6, l0))), (1, .inr (.inr (2, l1))), (2, .inr (.inr (4, l2))), (3, .inl l3), (4, .inl (w32 (l4 + 1)))]) [1, 2, 3, 4, 0] rfl (ih _ _ _ h hI hX)))))))))))))))))))))))))))))))))))))))))))
def L100_91 (l0 : Nat) (l1 : Nat) (l2 : Nat) (l3 : Int) : Nat → Int → am_M → Option ((Int × am_M) ⊕ (Int × am_M))
  | 0, _, _ => none
  | n + 1, l4, μ => (if l4 < μ l0 9 then (if l4 < 12 then (am_op (fn96 l0 l1 l2 l4 l3 μ) (fun z8 => (L100_91 l0 l1 l2 l3 n (w32 (l4 + 1)) z8.2))) else (some (.inr (l4, μ)))) else (some (.inr (l4, μ))))
theorem w100_91 {X : am_K} {C : am_C} {Q : State → Prop} (hG : am_G X C 100 0 0 (0, fun _ => 0)) (hr : match X with | (_, _, _, _, _, _, _, _, meth, _) => meth.sig.returnType = am_mr 100 ∧ meth.locks = false) (l0 : Nat) (l1 : Nat) (l2 : Nat) (l3 : Int) : ∀ (n : Nat) (l4 : Int) (μ : am_M) (r : (Int × am_M) ⊕ (Int × am_M)), L100_91 l0 l1 l2 l3 n l4 μ = some r → (∀ q, r = .inl q → Q = am_E X C 100 q.1 q.2) → (∀ t, r = .inr t → am_W X C 100 Q 0 0 122 [(0, .inr (.inr (6, l0))), (1, .inr (.inr (2, l1))), (2, .inr (.inr (4, l2)))] [] t.2) → am_W X C 100 Q 0 0 91 [(0, .inr (.inr (6, l0))), (1, .inr (.inr (2, l1))), (2, .inr (.inr (4, l2))), (3, .inl l3), (4, .inl l4)] [] μ := by
  intro n
  induction n with
  | zero => intro l4 μ r h; cases h
  | succ n ih =>
    intro l4 μ r h hI hX
    unfold L100_91 at h
    exact (am_c_iload hG (pc := 91) d100_91 rfl (am_c_aload_n hG (pc := 93) d100_93 rfl (x_get_n (v := .inl (μ l0 9)) hG (pc := 94) d100_94 mo100 f6_62 rfl (x_icmp_ge (tgt := 122) hG (pc := 97) d100_97 rfl h (fun h => (am_lvw (lv2 := [(0, .inr (.inr (6, l0))), (1, .inr (.inr (2, l1))), (2, .inr (.inr (4, l2)))]) [0, 1, 2] rfl (hX (l4, μ) (Option.some.inj h).symm))) (fun h => (am_c_iload hG (pc := 100) d100_100 rfl (am_c_bipush hG (pc := 102) d100_102 (by decide) (x_icmp_ge (tgt := 122) hG (pc := 104) d100_104 rfl h (fun h => (am_lvw (lv2 := [(0, .inr (.inr (6, l0))), (1, .inr (.inr (2, l1))), (2, .inr (.inr (4, l2)))]) [0, 1, 2] rfl (hX (l4, μ) (Option.some.inj h).symm))) (fun h => (am_c_aload_n hG (pc := 107) d100_107 rfl (am_c_aload_n hG (pc := 108) d100_108 rfl (am_c_aload_n hG (pc := 109) d100_109 rfl (am_c_iload hG (pc := 110) d100_110 rfl (am_c_iload_n hG (pc := 112) d100_112 rfl (x_virtual_v (t := 6) (o := l0) (as2 := [.inr (.inr (2, l1)), .inr (.inr (4, l2)), .inl l4, .inl l3]) (rest := []) hG (pc := 113) d100_113 mo100 m6_91 (by decide) dp100_96 rfl rfl (Nat.le_of_ble_eq_true rfl) (Nat.le_of_ble_eq_true rfl) rg96 sd96 (e96 _ _ _ _ _ _) h (fun z8 h => (x_iinc (lv' := [(4, .inl (w32 (l4 + 1))), (0, .inr (.inr (6, l0))), (1, .inr (.inr (2, l1))), (2, .inr (.inr (4, l2))), (3, .inl l3)]) hG (pc := 116) d100_116 rfl (ml100 _ (by decide)) rfl (x_goto (tgt := 91) hG (pc := 119) d100_119 rfl (am_lvw (lv2 := [(0, .inr (.inr (6, l0))), (1, .inr (.inr (2, l1))), (2, .inr (.inr (4, l2))), (3, .inl l3), (4, .inl (w32 (l4 + 1)))]) [1, 2, 3, 4, 0] rfl (ih _ _ _ h hI hX))))))))))))))))))))
def fn100 (o : Nat) (a : Nat) (b : Nat) (μ : am_M) : Option (Int × am_M) := (am_op (fn26 a μ) (fun z1 => (am_op (fn78 z1.1 12 z1.2) (fun z2 => (am_op (L100_28 o a b z2.1 am_fuel 0 (am_up (am_up (am_up z2.2 o 9 0) o 10 0) o 11 0)) (fun s => am_lp s (fun q1 => some q1) (fun t1 => (am_op (L100_91 o a b z2.1 am_fuel 0 t1.2) (fun s => am_lp s (fun q2 => some q2) (fun t2 => (am_op (fn99 o a b t2.2) (fun z9 => some (0, z9.2)))))))))))))
def sp100 : am_F := fun vs μ => am_aR 6 vs fun o vs => am_aR 2 vs fun a vs => am_aR 4 vs fun b vs => am_a0 vs (fn100 o a b μ)
theorem e100 (o : Nat) (a : Nat) (b : Nat) (μ : am_M) : sp100 [.inr (.inr (6, o)), .inr (.inr (2, a)), .inr (.inr (4, b))] μ = fn100 o a b μ := am_aR_c.trans (am_aR_c.trans (am_aR_c.trans am_a0_c))
theorem sd100 : am_Sd 100 sp100 := by
  refine am_Sd_of (by decide) (fun vs μ μ' x h hv hM => ?_)
  obtain ⟨o, vs0, rfl, h0⟩ := am_aR_s h
  obtain ⟨a, vs1, rfl, h1⟩ := am_aR_s h0
  obtain ⟨b, vs2, rfl, h2⟩ := am_aR_s h1
  obtain ⟨rfl, hz⟩ := am_a0_s h2
  refine ⟨Nat.le_of_ble_eq_true rfl, fun X C hG hr => ?_⟩
  have h := hz
  unfold fn100 at h
  exact (show am_W X C 100 _ 0 0 0 [(0, .inr (.inr (6, o))), (1, .inr (.inr (2, a))), (2, .inr (.inr (4, b)))] [] μ from (am_c_aload_n hG (pc := 0) d100_0 rfl (x_virtual_i (t := 2) (o := a) (as2 := []) (rest := []) hG (pc := 1) d100_1 mo100 m6_50 (by decide) dp100_26 rfl rfl (Nat.le_of_ble_eq_true rfl) (Nat.le_of_ble_eq_true rfl) rg26 sd26 (e26 _ _) h (fun z1 h => (am_c_bipush hG (pc := 4) d100_4 (by decide) (x_static_i (as := [.inl z1.1, .inl 12]) (rest := []) hG (pc := 6) d100_6 mo100 m6_56 (by decide) dp100_78 rfl rfl (Nat.le_of_ble_eq_true rfl) (Nat.le_of_ble_eq_true rfl) rg78 sd78 (e78 _ _ _) h (fun z2 h => (x_istore_n (lv' := [(3, .inl z2.1), (0, .inr (.inr (6, o))), (1, .inr (.inr (2, a))), (2, .inr (.inr (4, b)))]) hG (pc := 9) d100_9 (ml100 _ (by decide)) rfl (am_c_aload_n hG (pc := 10) d100_10 rfl (am_c_iconst hG (pc := 11) d100_11 (by decide) (x_put_i hG (pc := 12) d100_12 mo100 f6_62 (by decide) (am_c_aload_n hG (pc := 15) d100_15 rfl (am_c_iconst hG (pc := 16) d100_16 (by decide) (x_put_i hG (pc := 17) d100_17 mo100 f6_66 (by decide) (am_c_aload_n hG (pc := 20) d100_20 rfl (am_c_iconst hG (pc := 21) d100_21 (by decide) (x_put_i hG (pc := 22) d100_22 mo100 f6_69 (by decide) (am_c_iconst hG (pc := 25) d100_25 (by decide) (x_istore (lv' := [(4, .inl 0), (3, .inl z2.1), (0, .inr (.inr (6, o))), (1, .inr (.inr (2, a))), (2, .inr (.inr (4, b)))]) hG (pc := 26) d100_26 (ml100 _ (by decide)) rfl (x_lp h (fun r h1 h2 => (am_lvw (lv2 := [(0, .inr (.inr (6, o))), (1, .inr (.inr (2, a))), (2, .inr (.inr (4, b))), (3, .inl z2.1), (4, .inl 0)]) [2, 3, 4, 1, 0] rfl (w100_28 hG hr _ _ _ _ _ _ _ _ h1 (fun q1 e => am_q1 e h2 (fun h => am_q0 h)) (fun t1 e => am_q2 e h2 (fun h => (am_c_iconst hG (pc := 88) d100_88 (by decide) (x_istore (lv' := [(4, .inl 0), (0, .inr (.inr (6, o))), (1, .inr (.inr (2, a))), (2, .inr (.inr (4, b))), (3, .inl z2.1)]) hG (pc := 89) d100_89 (ml100 _ (by decide)) rfl (x_lp h (fun r h1 h2 => (am_lvw (lv2 := [(0, .inr (.inr (6, o))), (1, .inr (.inr (2, a))), (2, .inr (.inr (4, b))), (3, .inl z2.1), (4, .inl 0)]) [1, 2, 3, 4, 0] rfl (w100_91 hG hr _ _ _ _ _ _ _ _ h1 (fun q2 e => am_q1 e h2 (fun h => am_q0 h)) (fun t2 e => am_q2 e h2 (fun h => (am_c_aload_n hG (pc := 122) d100_122 rfl (am_c_aload_n hG (pc := 123) d100_123 rfl (am_c_aload_n hG (pc := 124) d100_124 rfl (x_virtual_v (t := 6) (o := o) (as2 := [.inr (.inr (2, a)), .inr (.inr (4, b))]) (rest := []) hG (pc := 125) d100_125 mo100 m6_95 (by decide) dp100_99 rfl rfl (Nat.le_of_ble_eq_true rfl) (Nat.le_of_ble_eq_true rfl) rg99 sd99 (e99 _ _ _ _) h (fun z9 h => (xq_vret hG (by decide) hr (pc := 128) d100_128 rk100 (am_q0 h))))))))))))))))))))))))))))))))))))))))
/-! ChartPress$Groups.count()I -/
theorem D101 (k : Nat) {pc : Nat} {i : Instr} (h : tbi101[k]? = some (pc, i)) (hs : am_isw i = false) {n : Nat} (hn : am_il i = n) : decode (am_mc 101) pc = .ok (i, n) := am_d2 (by decide) (by decide) rfl h hs hn
theorem d101_0 : decode (am_mc 101) 0 = .ok (.aload_n 0, 1) := D101 0 rfl rfl rfl
theorem d101_1 : decode (am_mc 101) 1 = .ok (.getfield 69, 3) := D101 1 rfl rfl rfl
theorem d101_4 : decode (am_mc 101) 4 = .ok (.ireturn, 1) := D101 2 rfl rfl rfl
theorem ml101 : ∀ n, n < 1 → n < am_ml 101 := fun _ h => h
theorem mo101 : am_mo 101 = 6 := by decide +kernel
theorem mr101 : am_mr 101 = some .int := by decide +kernel
theorem rg101 : am_rcg 101 = 7 := by decide +kernel
def fn101 (o : Nat) (μ : am_M) : Option (Int × am_M) := some (μ o 11, μ)
def sp101 : am_F := fun vs μ => am_aR 6 vs fun o vs => am_a0 vs (fn101 o μ)
theorem e101 (o : Nat) (μ : am_M) : sp101 [.inr (.inr (6, o))] μ = fn101 o μ := am_aR_c.trans am_a0_c
theorem sd101 : am_Sd 101 sp101 := by
  refine am_Sd_of (by decide) (fun vs μ μ' x h hv hM => ?_)
  obtain ⟨o, vs0, rfl, h0⟩ := am_aR_s h
  obtain ⟨rfl, hz⟩ := am_a0_s h0
  refine ⟨Nat.le_of_ble_eq_true rfl, fun X C hG hr => ?_⟩
  have h := hz
  unfold fn101 at h
  exact (show am_W X C 101 _ 0 0 0 [(0, .inr (.inr (6, o)))] [] μ from (am_c_aload_n hG (pc := 0) d101_0 rfl (x_get_n (v := .inl (μ o 11)) hG (pc := 1) d101_1 mo101 f6_69 rfl (xq_iret hG (by decide) hr (pc := 4) d101_4 mr101 (am_q0 h)))))
/-! ChartPress$Request.mark()I -/
theorem D102 (k : Nat) {pc : Nat} {i : Instr} (h : tbi102[k]? = some (pc, i)) (hs : am_isw i = false) {n : Nat} (hn : am_il i = n) : decode (am_mc 102) pc = .ok (i, n) := am_d2 (by decide) (by decide) rfl h hs hn
theorem d102_0 : decode (am_mc 102) 0 = .ok (.aload_n 0, 1) := D102 0 rfl rfl rfl
theorem d102_1 : decode (am_mc 102) 1 = .ok (.getfield 68, 3) := D102 1 rfl rfl rfl
theorem d102_4 : decode (am_mc 102) 4 = .ok (.ireturn, 1) := D102 2 rfl rfl rfl
theorem ml102 : ∀ n, n < 1 → n < am_ml 102 := fun _ h => h
theorem mo102 : am_mo 102 = 4 := by decide +kernel
theorem mr102 : am_mr 102 = some .int := by decide +kernel
theorem rg102 : am_rcg 102 = 5 := by decide +kernel
def fn102 (o : Nat) (μ : am_M) : Option (Int × am_M) := some (μ o 5, μ)
def sp102 : am_F := fun vs μ => am_aR 4 vs fun o vs => am_a0 vs (fn102 o μ)
theorem e102 (o : Nat) (μ : am_M) : sp102 [.inr (.inr (4, o))] μ = fn102 o μ := am_aR_c.trans am_a0_c
theorem sd102 : am_Sd 102 sp102 := by
  refine am_Sd_of (by decide) (fun vs μ μ' x h hv hM => ?_)
  obtain ⟨o, vs0, rfl, h0⟩ := am_aR_s h
  obtain ⟨rfl, hz⟩ := am_a0_s h0
  refine ⟨Nat.le_of_ble_eq_true rfl, fun X C hG hr => ?_⟩
  have h := hz
  unfold fn102 at h
  exact (show am_W X C 102 _ 0 0 0 [(0, .inr (.inr (4, o)))] [] μ from (am_c_aload_n hG (pc := 0) d102_0 rfl (x_get_n (v := .inl (μ o 5)) hG (pc := 1) d102_1 mo102 f4_68 rfl (xq_iret hG (by decide) hr (pc := 4) d102_4 mr102 (am_q0 h)))))
/-! ChartPress$Groups.series()I -/
theorem D103 (k : Nat) {pc : Nat} {i : Instr} (h : tbi103[k]? = some (pc, i)) (hs : am_isw i = false) {n : Nat} (hn : am_il i = n) : decode (am_mc 103) pc = .ok (i, n) := am_d2 (by decide) (by decide) rfl h hs hn
theorem d103_0 : decode (am_mc 103) 0 = .ok (.aload_n 0, 1) := D103 0 rfl rfl rfl
theorem d103_1 : decode (am_mc 103) 1 = .ok (.getfield 66, 3) := D103 1 rfl rfl rfl
theorem d103_4 : decode (am_mc 103) 4 = .ok (.ireturn, 1) := D103 2 rfl rfl rfl
theorem ml103 : ∀ n, n < 1 → n < am_ml 103 := fun _ h => h
theorem mo103 : am_mo 103 = 6 := by decide +kernel
theorem mr103 : am_mr 103 = some .int := by decide +kernel
theorem rg103 : am_rcg 103 = 7 := by decide +kernel
def fn103 (o : Nat) (μ : am_M) : Option (Int × am_M) := some (μ o 10, μ)
def sp103 : am_F := fun vs μ => am_aR 6 vs fun o vs => am_a0 vs (fn103 o μ)
theorem e103 (o : Nat) (μ : am_M) : sp103 [.inr (.inr (6, o))] μ = fn103 o μ := am_aR_c.trans am_a0_c
theorem sd103 : am_Sd 103 sp103 := by
  refine am_Sd_of (by decide) (fun vs μ μ' x h hv hM => ?_)
  obtain ⟨o, vs0, rfl, h0⟩ := am_aR_s h
  obtain ⟨rfl, hz⟩ := am_a0_s h0
  refine ⟨Nat.le_of_ble_eq_true rfl, fun X C hG hr => ?_⟩
  have h := hz
  unfold fn103 at h
  exact (show am_W X C 103 _ 0 0 0 [(0, .inr (.inr (6, o)))] [] μ from (am_c_aload_n hG (pc := 0) d103_0 rfl (x_get_n (v := .inl (μ o 10)) hG (pc := 1) d103_1 mo103 f6_66 rfl (xq_iret hG (by decide) hr (pc := 4) d103_4 mr103 (am_q0 h)))))
