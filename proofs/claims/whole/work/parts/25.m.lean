/-! Methods as functions with their contracts (written by program). -/
/-! ChartPressModel.areaWidth()I -/
theorem D209 (k : Nat) {pc : Nat} {i : Instr} (h : tbi209[k]? = some (pc, i)) (hs : am_isw i = false) {n : Nat} (hn : am_il i = n) : decode (am_mc 209) pc = .ok (i, n) := am_d2 (by decide) (by decide) rfl h hs hn
theorem d209_0 : decode (am_mc 209) 0 = .ok (.aload_n 0, 1) := D209 0 rfl rfl rfl
theorem d209_1 : decode (am_mc 209) 1 = .ok (.getfield 16, 3) := D209 1 rfl rfl rfl
theorem d209_4 : decode (am_mc 209) 4 = .ok (.iconst 1, 1) := D209 2 rfl rfl rfl
theorem d209_5 : decode (am_mc 209) 5 = .ok (.isub, 1) := D209 3 rfl rfl rfl
theorem d209_6 : decode (am_mc 209) 6 = .ok (.aload_n 0, 1) := D209 4 rfl rfl rfl
theorem d209_7 : decode (am_mc 209) 7 = .ok (.getfield 348, 3) := D209 5 rfl rfl rfl
theorem d209_10 : decode (am_mc 209) 10 = .ok (.isub, 1) := D209 6 rfl rfl rfl
theorem d209_11 : decode (am_mc 209) 11 = .ok (.ireturn, 1) := D209 7 rfl rfl rfl
theorem ml209 : ∀ n, n < 1 → n < am_ml 209 := fun _ h => h
theorem mo209 : am_mo 209 = 11 := by decide +kernel
theorem mr209 : am_mr 209 = some .int := by decide +kernel
theorem rg209 : am_rcg 209 = 12 := by decide +kernel
theorem f11_348 : tb_f 11 348 = some (11, 45, 0, 0) := by decide +kernel
def fn209 (o : Nat) (μ : am_M) : Option (Int × am_M) := some (w32 ((w32 ((μ o 5) - 1)) - (μ o 45)), μ)
def sp209 : am_F := fun vs μ => am_aR 11 vs fun o vs => am_a0 vs (fn209 o μ)
theorem e209 (o : Nat) (μ : am_M) : sp209 [.inr (.inr (11, o))] μ = fn209 o μ := am_aR_c.trans am_a0_c
theorem sd209 : am_Sd 209 sp209 := by
  refine am_Sd_of (by decide) (fun vs μ μ' x h hv hM => ?_)
  obtain ⟨o, vs0, rfl, h0⟩ := am_aR_s h
  obtain ⟨rfl, hz⟩ := am_a0_s h0
  refine ⟨Nat.le_of_ble_eq_true rfl, fun X C hG hr => ?_⟩
  have h := hz
  unfold fn209 at h
  exact (show am_W X C 209 _ 0 0 0 [(0, .inr (.inr (11, o)))] [] μ from (am_c_aload_n hG (pc := 0) d209_0 rfl (x_get_n (v := .inl (μ o 5)) hG (pc := 1) d209_1 mo209 f11_16 rfl (am_c_iconst hG (pc := 4) d209_4 (by decide) (am_c_isub hG (pc := 5) d209_5 (am_c_aload_n hG (pc := 6) d209_6 rfl (x_get_n (v := .inl (μ o 45)) hG (pc := 7) d209_7 mo209 f11_348 rfl (am_c_isub hG (pc := 10) d209_10 (xq_iret hG (by decide) hr (pc := 11) d209_11 mr209 (am_q0 h))))))))))
/-! ChartPressModel.labelLength(I)I -/
theorem D210 (k : Nat) {pc : Nat} {i : Instr} (h : tbi210[k]? = some (pc, i)) (hs : am_isw i = false) {n : Nat} (hn : am_il i = n) : decode (am_mc 210) pc = .ok (i, n) := am_d2 (by decide) (by decide) rfl h hs hn
theorem d210_0 : decode (am_mc 210) 0 = .ok (.aload_n 0, 1) := D210 0 rfl rfl rfl
theorem d210_1 : decode (am_mc 210) 1 = .ok (.getfield 27, 3) := D210 1 rfl rfl rfl
theorem d210_4 : decode (am_mc 210) 4 = .ok (.aload_n 0, 1) := D210 2 rfl rfl rfl
theorem d210_5 : decode (am_mc 210) 5 = .ok (.aload_n 0, 1) := D210 3 rfl rfl rfl
theorem d210_6 : decode (am_mc 210) 6 = .ok (.getfield 57, 3) := D210 4 rfl rfl rfl
theorem d210_9 : decode (am_mc 210) 9 = .ok (.aload_n 0, 1) := D210 5 rfl rfl rfl
theorem d210_10 : decode (am_mc 210) 10 = .ok (.getfield 64, 3) := D210 6 rfl rfl rfl
theorem d210_13 : decode (am_mc 210) 13 = .ok (.iload_n 1, 1) := D210 7 rfl rfl rfl
theorem d210_14 : decode (am_mc 210) 14 = .ok (.iaload, 1) := D210 8 rfl rfl rfl
theorem d210_15 : decode (am_mc 210) 15 = .ok (.iaload, 1) := D210 9 rfl rfl rfl
theorem d210_16 : decode (am_mc 210) 16 = .ok (.aload_n 0, 1) := D210 10 rfl rfl rfl
theorem d210_17 : decode (am_mc 210) 17 = .ok (.getfield 263, 3) := D210 11 rfl rfl rfl
theorem d210_20 : decode (am_mc 210) 20 = .ok (.invokevirtual 133, 3) := D210 12 rfl rfl rfl
theorem d210_23 : decode (am_mc 210) 23 = .ok (.iaload, 1) := D210 13 rfl rfl rfl
theorem d210_24 : decode (am_mc 210) 24 = .ok (.ireturn, 1) := D210 14 rfl rfl rfl
theorem ml210 : ∀ n, n < 2 → n < am_ml 210 := fun _ h => h
theorem mo210 : am_mo 210 = 11 := by decide +kernel
theorem mr210 : am_mr 210 = some .int := by decide +kernel
theorem rg210 : am_rcg 210 = 12 := by decide +kernel
theorem dp210_173 : am_md 173 + 1 ≤ am_md 210 ∧ 8 + (am_ml 173 + 11) + am_lr 173 ≤ am_lr 210 := by decide +kernel
def fn210 (o : Nat) (a : Int) (μ : am_M) : Option (Int × am_M) := (if (0 : Int) ≤ a ∧ a < ((am_len (am_ref o 36) : Nat) : Int) then (if (0 : Int) ≤ μ (am_ref o 36) (a : Int).toNat ∧ μ (am_ref o 36) (a : Int).toNat < ((am_len (am_ref o 34) : Nat) : Int) then (am_op (fn173 o (μ (am_ref o 34) (μ (am_ref o 36) (a : Int).toNat : Int).toNat) (μ o 21) μ) (fun z1 => (if (0 : Int) ≤ z1.1 ∧ z1.1 < ((am_len (am_ref o 11) : Nat) : Int) then some (z1.2 (am_ref o 11) (z1.1 : Int).toNat, z1.2) else none))) else none) else none)
def sp210 : am_F := fun vs μ => am_aR 11 vs fun o vs => am_aI vs fun a vs => am_a0 vs (fn210 o a μ)
theorem e210 (o : Nat) (a : Int) (μ : am_M) : sp210 [.inr (.inr (11, o)), .inl a] μ = fn210 o a μ := am_aR_c.trans (am_aI_c.trans am_a0_c)
theorem sd210 : am_Sd 210 sp210 := by
  refine am_Sd_of (by decide) (fun vs μ μ' x h hv hM => ?_)
  obtain ⟨o, vs0, rfl, h0⟩ := am_aR_s h
  obtain ⟨a, vs1, rfl, h1⟩ := am_aI_s h0
  obtain ⟨rfl, hz⟩ := am_a0_s h1
  refine ⟨Nat.le_of_ble_eq_true rfl, fun X C hG hr => ?_⟩
  have h := hz
  unfold fn210 at h
  exact (show am_W X C 210 _ 0 0 0 [(0, .inr (.inr (11, o))), (1, .inl a)] [] μ from (am_c_aload_n hG (pc := 0) d210_0 rfl (x_get_n (v := .inr (.inr (16, am_ref o 11))) hG (pc := 1) d210_1 mo210 f11_27 rfl (am_c_aload_n hG (pc := 4) d210_4 rfl (am_c_aload_n hG (pc := 5) d210_5 rfl (x_get_n (v := .inr (.inr (16, am_ref o 34))) hG (pc := 6) d210_6 mo210 f11_57 rfl (am_c_aload_n hG (pc := 9) d210_9 rfl (x_get_n (v := .inr (.inr (16, am_ref o 36))) hG (pc := 10) d210_10 mo210 f11_64 rfl (am_c_iload_n hG (pc := 13) d210_13 rfl (x_iaload hG (pc := 14) d210_14 h (fun h => (x_iaload hG (pc := 15) d210_15 h (fun h => (am_c_aload_n hG (pc := 16) d210_16 rfl (x_get_n (v := .inl (μ o 21)) hG (pc := 17) d210_17 mo210 f11_263 rfl (x_virtual_i (t := 11) (o := o) (as2 := [.inl (μ (am_ref o 34) (μ (am_ref o 36) (a : Int).toNat : Int).toNat), .inl (μ o 21)]) (rest := [.inr (.inr (16, am_ref o 11))]) hG (pc := 20) d210_20 mo210 m11_133 (by decide) dp210_173 rfl rfl (Nat.le_of_ble_eq_true rfl) (Nat.le_of_ble_eq_true rfl) rg173 sd173 (e173 _ _ _ _) h (fun z1 h => (x_iaload hG (pc := 23) d210_23 h (fun h => (xq_iret hG (by decide) hr (pc := 24) d210_24 mr210 (am_q0 h)))))))))))))))))))))
/-! ChartPressModel.bandFrom(I)I -/
theorem D211 (k : Nat) {pc : Nat} {i : Instr} (h : tbi211[k]? = some (pc, i)) (hs : am_isw i = false) {n : Nat} (hn : am_il i = n) : decode (am_mc 211) pc = .ok (i, n) := am_d2 (by decide) (by decide) rfl h hs hn
theorem d211_0 : decode (am_mc 211) 0 = .ok (.aload_n 0, 1) := D211 0 rfl rfl rfl
theorem d211_1 : decode (am_mc 211) 1 = .ok (.getfield 348, 3) := D211 1 rfl rfl rfl
theorem d211_4 : decode (am_mc 211) 4 = .ok (.iload_n 1, 1) := D211 2 rfl rfl rfl
theorem d211_5 : decode (am_mc 211) 5 = .ok (.aload_n 0, 1) := D211 3 rfl rfl rfl
theorem d211_6 : decode (am_mc 211) 6 = .ok (.invokevirtual 351, 3) := D211 4 rfl rfl rfl
theorem d211_9 : decode (am_mc 211) 9 = .ok (.imul, 1) := D211 5 rfl rfl rfl
theorem d211_10 : decode (am_mc 211) 10 = .ok (.aload_n 0, 1) := D211 6 rfl rfl rfl
theorem d211_11 : decode (am_mc 211) 11 = .ok (.getfield 310, 3) := D211 7 rfl rfl rfl
theorem d211_14 : decode (am_mc 211) 14 = .ok (.idiv, 1) := D211 8 rfl rfl rfl
theorem d211_15 : decode (am_mc 211) 15 = .ok (.iadd, 1) := D211 9 rfl rfl rfl
theorem d211_16 : decode (am_mc 211) 16 = .ok (.ireturn, 1) := D211 10 rfl rfl rfl
theorem ml211 : ∀ n, n < 2 → n < am_ml 211 := fun _ h => h
theorem mo211 : am_mo 211 = 11 := by decide +kernel
theorem mr211 : am_mr 211 = some .int := by decide +kernel
theorem rg211 : am_rcg 211 = 12 := by decide +kernel
theorem m11_351 : tb_m 11 351 = some (209, 1, 1, 0) := by decide +kernel
theorem dp211_209 : am_md 209 + 1 ≤ am_md 211 ∧ 8 + (am_ml 209 + 11) + am_lr 209 ≤ am_lr 211 := by decide +kernel
def fn211 (o : Nat) (a : Int) (μ : am_M) : Option (Int × am_M) := (am_op (fn209 o μ) (fun z1 => (if z1.2 o 47 = 0 then none else some (w32 ((μ o 45) + (o_div (w32 (a * z1.1)) (z1.2 o 47))), z1.2))))
def sp211 : am_F := fun vs μ => am_aR 11 vs fun o vs => am_aI vs fun a vs => am_a0 vs (fn211 o a μ)
theorem e211 (o : Nat) (a : Int) (μ : am_M) : sp211 [.inr (.inr (11, o)), .inl a] μ = fn211 o a μ := am_aR_c.trans (am_aI_c.trans am_a0_c)
theorem sd211 : am_Sd 211 sp211 := by
  refine am_Sd_of (by decide) (fun vs μ μ' x h hv hM => ?_)
  obtain ⟨o, vs0, rfl, h0⟩ := am_aR_s h
  obtain ⟨a, vs1, rfl, h1⟩ := am_aI_s h0
  obtain ⟨rfl, hz⟩ := am_a0_s h1
  refine ⟨Nat.le_of_ble_eq_true rfl, fun X C hG hr => ?_⟩
  have h := hz
  unfold fn211 at h
  exact (show am_W X C 211 _ 0 0 0 [(0, .inr (.inr (11, o))), (1, .inl a)] [] μ from (am_c_aload_n hG (pc := 0) d211_0 rfl (x_get_n (v := .inl (μ o 45)) hG (pc := 1) d211_1 mo211 f11_348 rfl (am_c_iload_n hG (pc := 4) d211_4 rfl (am_c_aload_n hG (pc := 5) d211_5 rfl (x_virtual_i (t := 11) (o := o) (as2 := []) (rest := [.inl a, .inl (μ o 45)]) hG (pc := 6) d211_6 mo211 m11_351 (by decide) dp211_209 rfl rfl (Nat.le_of_ble_eq_true rfl) (Nat.le_of_ble_eq_true rfl) rg209 sd209 (e209 _ _) h (fun z1 h => (am_c_imul hG (pc := 9) d211_9 (am_c_aload_n hG (pc := 10) d211_10 rfl (x_get_n (v := .inl (z1.2 o 47)) hG (pc := 11) d211_11 mo211 f11_310 rfl (x_idiv hG (pc := 14) d211_14 h (fun h => (am_c_iadd hG (pc := 15) d211_15 (xq_iret hG (by decide) hr (pc := 16) d211_16 mr211 (am_q0 h)))))))))))))))
/-! ChartPressModel.bandTo(I)I -/
theorem D212 (k : Nat) {pc : Nat} {i : Instr} (h : tbi212[k]? = some (pc, i)) (hs : am_isw i = false) {n : Nat} (hn : am_il i = n) : decode (am_mc 212) pc = .ok (i, n) := am_d2 (by decide) (by decide) rfl h hs hn
theorem d212_0 : decode (am_mc 212) 0 = .ok (.aload_n 0, 1) := D212 0 rfl rfl rfl
theorem d212_1 : decode (am_mc 212) 1 = .ok (.iload_n 1, 1) := D212 1 rfl rfl rfl
theorem d212_2 : decode (am_mc 212) 2 = .ok (.iconst 1, 1) := D212 2 rfl rfl rfl
theorem d212_3 : decode (am_mc 212) 3 = .ok (.iadd, 1) := D212 3 rfl rfl rfl
theorem d212_4 : decode (am_mc 212) 4 = .ok (.invokevirtual 354, 3) := D212 4 rfl rfl rfl
theorem d212_7 : decode (am_mc 212) 7 = .ok (.iconst 1, 1) := D212 5 rfl rfl rfl
theorem d212_8 : decode (am_mc 212) 8 = .ok (.isub, 1) := D212 6 rfl rfl rfl
theorem d212_9 : decode (am_mc 212) 9 = .ok (.ireturn, 1) := D212 7 rfl rfl rfl
theorem ml212 : ∀ n, n < 2 → n < am_ml 212 := fun _ h => h
theorem mo212 : am_mo 212 = 11 := by decide +kernel
theorem mr212 : am_mr 212 = some .int := by decide +kernel
theorem rg212 : am_rcg 212 = 12 := by decide +kernel
theorem m11_354 : tb_m 11 354 = some (211, 2, 1, 0) := by decide +kernel
theorem dp212_211 : am_md 211 + 1 ≤ am_md 212 ∧ 8 + (am_ml 211 + 11) + am_lr 211 ≤ am_lr 212 := by decide +kernel
def fn212 (o : Nat) (a : Int) (μ : am_M) : Option (Int × am_M) := (am_op (fn211 o (w32 (a + 1)) μ) (fun z1 => some (w32 (z1.1 - 1), z1.2)))
def sp212 : am_F := fun vs μ => am_aR 11 vs fun o vs => am_aI vs fun a vs => am_a0 vs (fn212 o a μ)
theorem e212 (o : Nat) (a : Int) (μ : am_M) : sp212 [.inr (.inr (11, o)), .inl a] μ = fn212 o a μ := am_aR_c.trans (am_aI_c.trans am_a0_c)
theorem sd212 : am_Sd 212 sp212 := by
  refine am_Sd_of (by decide) (fun vs μ μ' x h hv hM => ?_)
  obtain ⟨o, vs0, rfl, h0⟩ := am_aR_s h
  obtain ⟨a, vs1, rfl, h1⟩ := am_aI_s h0
  obtain ⟨rfl, hz⟩ := am_a0_s h1
  refine ⟨Nat.le_of_ble_eq_true rfl, fun X C hG hr => ?_⟩
  have h := hz
  unfold fn212 at h
  exact (show am_W X C 212 _ 0 0 0 [(0, .inr (.inr (11, o))), (1, .inl a)] [] μ from (am_c_aload_n hG (pc := 0) d212_0 rfl (am_c_iload_n hG (pc := 1) d212_1 rfl (am_c_iconst hG (pc := 2) d212_2 (by decide) (am_c_iadd hG (pc := 3) d212_3 (x_virtual_i (t := 11) (o := o) (as2 := [.inl (w32 (a + 1))]) (rest := []) hG (pc := 4) d212_4 mo212 m11_354 (by decide) dp212_211 rfl rfl (Nat.le_of_ble_eq_true rfl) (Nat.le_of_ble_eq_true rfl) rg211 sd211 (e211 _ _ _) h (fun z1 h => (am_c_iconst hG (pc := 7) d212_7 (by decide) (am_c_isub hG (pc := 8) d212_8 (xq_iret hG (by decide) hr (pc := 9) d212_9 mr212 (am_q0 h)))))))))))
/-! ChartPressModel.middle(I)I -/
theorem D213 (k : Nat) {pc : Nat} {i : Instr} (h : tbi213[k]? = some (pc, i)) (hs : am_isw i = false) {n : Nat} (hn : am_il i = n) : decode (am_mc 213) pc = .ok (i, n) := am_d2 (by decide) (by decide) rfl h hs hn
theorem d213_0 : decode (am_mc 213) 0 = .ok (.aload_n 0, 1) := D213 0 rfl rfl rfl
theorem d213_1 : decode (am_mc 213) 1 = .ok (.iload_n 1, 1) := D213 1 rfl rfl rfl
theorem d213_2 : decode (am_mc 213) 2 = .ok (.invokevirtual 354, 3) := D213 2 rfl rfl rfl
theorem d213_5 : decode (am_mc 213) 5 = .ok (.aload_n 0, 1) := D213 3 rfl rfl rfl
theorem d213_6 : decode (am_mc 213) 6 = .ok (.iload_n 1, 1) := D213 4 rfl rfl rfl
theorem d213_7 : decode (am_mc 213) 7 = .ok (.invokevirtual 357, 3) := D213 5 rfl rfl rfl
theorem d213_10 : decode (am_mc 213) 10 = .ok (.iadd, 1) := D213 6 rfl rfl rfl
theorem d213_11 : decode (am_mc 213) 11 = .ok (.iconst 2, 1) := D213 7 rfl rfl rfl
theorem d213_12 : decode (am_mc 213) 12 = .ok (.idiv, 1) := D213 8 rfl rfl rfl
theorem d213_13 : decode (am_mc 213) 13 = .ok (.ireturn, 1) := D213 9 rfl rfl rfl
theorem ml213 : ∀ n, n < 2 → n < am_ml 213 := fun _ h => h
theorem mo213 : am_mo 213 = 11 := by decide +kernel
theorem mr213 : am_mr 213 = some .int := by decide +kernel
theorem rg213 : am_rcg 213 = 12 := by decide +kernel
theorem m11_357 : tb_m 11 357 = some (212, 2, 1, 0) := by decide +kernel
theorem dp213_211 : am_md 211 + 1 ≤ am_md 213 ∧ 8 + (am_ml 211 + 11) + am_lr 211 ≤ am_lr 213 := by decide +kernel
theorem dp213_212 : am_md 212 + 1 ≤ am_md 213 ∧ 8 + (am_ml 212 + 11) + am_lr 212 ≤ am_lr 213 := by decide +kernel
def fn213 (o : Nat) (a : Int) (μ : am_M) : Option (Int × am_M) := (am_op (fn211 o a μ) (fun z1 => (am_op (fn212 o a z1.2) (fun z2 => some (o_div (w32 (z1.1 + z2.1)) 2, z2.2)))))
def sp213 : am_F := fun vs μ => am_aR 11 vs fun o vs => am_aI vs fun a vs => am_a0 vs (fn213 o a μ)
theorem e213 (o : Nat) (a : Int) (μ : am_M) : sp213 [.inr (.inr (11, o)), .inl a] μ = fn213 o a μ := am_aR_c.trans (am_aI_c.trans am_a0_c)
theorem sd213 : am_Sd 213 sp213 := by
  refine am_Sd_of (by decide) (fun vs μ μ' x h hv hM => ?_)
  obtain ⟨o, vs0, rfl, h0⟩ := am_aR_s h
  obtain ⟨a, vs1, rfl, h1⟩ := am_aI_s h0
  obtain ⟨rfl, hz⟩ := am_a0_s h1
  refine ⟨Nat.le_of_ble_eq_true rfl, fun X C hG hr => ?_⟩
  have h := hz
  unfold fn213 at h
  exact (show am_W X C 213 _ 0 0 0 [(0, .inr (.inr (11, o))), (1, .inl a)] [] μ from (am_c_aload_n hG (pc := 0) d213_0 rfl (am_c_iload_n hG (pc := 1) d213_1 rfl (x_virtual_i (t := 11) (o := o) (as2 := [.inl a]) (rest := []) hG (pc := 2) d213_2 mo213 m11_354 (by decide) dp213_211 rfl rfl (Nat.le_of_ble_eq_true rfl) (Nat.le_of_ble_eq_true rfl) rg211 sd211 (e211 _ _ _) h (fun z1 h => (am_c_aload_n hG (pc := 5) d213_5 rfl (am_c_iload_n hG (pc := 6) d213_6 rfl (x_virtual_i (t := 11) (o := o) (as2 := [.inl a]) (rest := [.inl z1.1]) hG (pc := 7) d213_7 mo213 m11_357 (by decide) dp213_212 rfl rfl (Nat.le_of_ble_eq_true rfl) (Nat.le_of_ble_eq_true rfl) rg212 sd212 (e212 _ _ _) h (fun z2 h => (am_c_iadd hG (pc := 10) d213_10 (am_c_iconst hG (pc := 11) d213_11 (by decide) (am_c_idiv hG (pc := 12) d213_12 (by decide) (xq_iret hG (by decide) hr (pc := 13) d213_13 mr213 (am_q0 h))))))))))))))
/-! ChartPressModel.labelFrom(I)I -/
theorem D214 (k : Nat) {pc : Nat} {i : Instr} (h : tbi214[k]? = some (pc, i)) (hs : am_isw i = false) {n : Nat} (hn : am_il i = n) : decode (am_mc 214) pc = .ok (i, n) := am_d2 (by decide) (by decide) rfl h hs hn
theorem d214_0 : decode (am_mc 214) 0 = .ok (.iconst 4, 1) := D214 0 rfl rfl rfl
theorem d214_1 : decode (am_mc 214) 1 = .ok (.aload_n 0, 1) := D214 1 rfl rfl rfl
theorem d214_2 : decode (am_mc 214) 2 = .ok (.iload_n 1, 1) := D214 2 rfl rfl rfl
theorem d214_3 : decode (am_mc 214) 3 = .ok (.invokevirtual 360, 3) := D214 3 rfl rfl rfl
theorem d214_6 : decode (am_mc 214) 6 = .ok (.imul, 1) := D214 4 rfl rfl rfl
theorem d214_7 : decode (am_mc 214) 7 = .ok (.iconst 1, 1) := D214 5 rfl rfl rfl
theorem d214_8 : decode (am_mc 214) 8 = .ok (.isub, 1) := D214 6 rfl rfl rfl
theorem d214_9 : decode (am_mc 214) 9 = .ok (.istore_n 2, 1) := D214 7 rfl rfl rfl
theorem d214_10 : decode (am_mc 214) 10 = .ok (.aload_n 0, 1) := D214 8 rfl rfl rfl
theorem d214_11 : decode (am_mc 214) 11 = .ok (.iload_n 1, 1) := D214 9 rfl rfl rfl
theorem d214_12 : decode (am_mc 214) 12 = .ok (.invokevirtual 363, 3) := D214 10 rfl rfl rfl
theorem d214_15 : decode (am_mc 214) 15 = .ok (.iload_n 2, 1) := D214 11 rfl rfl rfl
theorem d214_16 : decode (am_mc 214) 16 = .ok (.iconst 2, 1) := D214 12 rfl rfl rfl
theorem d214_17 : decode (am_mc 214) 17 = .ok (.idiv, 1) := D214 13 rfl rfl rfl
theorem d214_18 : decode (am_mc 214) 18 = .ok (.isub, 1) := D214 14 rfl rfl rfl
theorem d214_19 : decode (am_mc 214) 19 = .ok (.istore_n 3, 1) := D214 15 rfl rfl rfl
theorem d214_20 : decode (am_mc 214) 20 = .ok (.iload_n 3, 1) := D214 16 rfl rfl rfl
theorem d214_21 : decode (am_mc 214) 21 = .ok (.iload_n 2, 1) := D214 17 rfl rfl rfl
theorem d214_22 : decode (am_mc 214) 22 = .ok (.iadd, 1) := D214 18 rfl rfl rfl
theorem d214_23 : decode (am_mc 214) 23 = .ok (.aload_n 0, 1) := D214 19 rfl rfl rfl
theorem d214_24 : decode (am_mc 214) 24 = .ok (.getfield 16, 3) := D214 20 rfl rfl rfl
theorem d214_27 : decode (am_mc 214) 27 = .ok (.if_icmp .le 12, 3) := D214 21 rfl rfl rfl
theorem d214_30 : decode (am_mc 214) 30 = .ok (.aload_n 0, 1) := D214 22 rfl rfl rfl
theorem d214_31 : decode (am_mc 214) 31 = .ok (.getfield 16, 3) := D214 23 rfl rfl rfl
theorem d214_34 : decode (am_mc 214) 34 = .ok (.iload_n 2, 1) := D214 24 rfl rfl rfl
theorem d214_35 : decode (am_mc 214) 35 = .ok (.isub, 1) := D214 25 rfl rfl rfl
theorem d214_36 : decode (am_mc 214) 36 = .ok (.goto 4, 3) := D214 26 rfl rfl rfl
theorem d214_39 : decode (am_mc 214) 39 = .ok (.iload_n 3, 1) := D214 27 rfl rfl rfl
theorem d214_40 : decode (am_mc 214) 40 = .ok (.istore_n 3, 1) := D214 28 rfl rfl rfl
theorem d214_41 : decode (am_mc 214) 41 = .ok (.iload_n 3, 1) := D214 29 rfl rfl rfl
theorem d214_42 : decode (am_mc 214) 42 = .ok (.ifCond .ge 7, 3) := D214 30 rfl rfl rfl
theorem d214_45 : decode (am_mc 214) 45 = .ok (.iconst 0, 1) := D214 31 rfl rfl rfl
theorem d214_46 : decode (am_mc 214) 46 = .ok (.goto 4, 3) := D214 32 rfl rfl rfl
theorem d214_49 : decode (am_mc 214) 49 = .ok (.iload_n 3, 1) := D214 33 rfl rfl rfl
theorem d214_50 : decode (am_mc 214) 50 = .ok (.ireturn, 1) := D214 34 rfl rfl rfl
theorem ml214 : ∀ n, n < 4 → n < am_ml 214 := fun _ h => h
theorem mo214 : am_mo 214 = 11 := by decide +kernel
theorem mr214 : am_mr 214 = some .int := by decide +kernel
theorem rg214 : am_rcg 214 = 12 := by decide +kernel
theorem m11_360 : tb_m 11 360 = some (210, 2, 1, 0) := by decide +kernel
theorem m11_363 : tb_m 11 363 = some (213, 2, 1, 0) := by decide +kernel
theorem dp214_210 : am_md 210 + 1 ≤ am_md 214 ∧ 8 + (am_ml 210 + 11) + am_lr 210 ≤ am_lr 214 := by decide +kernel
theorem dp214_213 : am_md 213 + 1 ≤ am_md 214 ∧ 8 + (am_ml 213 + 11) + am_lr 213 ≤ am_lr 214 := by decide +kernel
def fn214 (o : Nat) (a : Int) (μ : am_M) : Option (Int × am_M) := (am_op (fn210 o a μ) (fun z1 => (am_op (fn213 o a z1.2) (fun z2 => (if z2.2 o 5 < w32 ((w32 (z2.1 - (o_div (w32 ((w32 (4 * z1.1)) - 1)) 2))) + (w32 ((w32 (4 * z1.1)) - 1))) then (if w32 ((z2.2 o 5) - (w32 ((w32 (4 * z1.1)) - 1))) < 0 then some (0, z2.2) else some (w32 ((z2.2 o 5) - (w32 ((w32 (4 * z1.1)) - 1))), z2.2)) else (if w32 (z2.1 - (o_div (w32 ((w32 (4 * z1.1)) - 1)) 2)) < 0 then some (0, z2.2) else some (w32 (z2.1 - (o_div (w32 ((w32 (4 * z1.1)) - 1)) 2)), z2.2)))))))
def sp214 : am_F := fun vs μ => am_aR 11 vs fun o vs => am_aI vs fun a vs => am_a0 vs (fn214 o a μ)
theorem e214 (o : Nat) (a : Int) (μ : am_M) : sp214 [.inr (.inr (11, o)), .inl a] μ = fn214 o a μ := am_aR_c.trans (am_aI_c.trans am_a0_c)
theorem sd214 : am_Sd 214 sp214 := by
  refine am_Sd_of (by decide) (fun vs μ μ' x h hv hM => ?_)
  obtain ⟨o, vs0, rfl, h0⟩ := am_aR_s h
  obtain ⟨a, vs1, rfl, h1⟩ := am_aI_s h0
  obtain ⟨rfl, hz⟩ := am_a0_s h1
  refine ⟨Nat.le_of_ble_eq_true rfl, fun X C hG hr => ?_⟩
  have h := hz
  unfold fn214 at h
  exact (show am_W X C 214 _ 0 0 0 [(0, .inr (.inr (11, o))), (1, .inl a)] [] μ from (am_c_iconst hG (pc := 0) d214_0 (by decide) (am_c_aload_n hG (pc := 1) d214_1 rfl (am_c_iload_n hG (pc := 2) d214_2 rfl (x_virtual_i (t := 11) (o := o) (as2 := [.inl a]) (rest := [.inl 4]) hG (pc := 3) d214_3 mo214 m11_360 (by decide) dp214_210 rfl rfl (Nat.le_of_ble_eq_true rfl) (Nat.le_of_ble_eq_true rfl) rg210 sd210 (e210 _ _ _) h (fun z1 h => (am_c_imul hG (pc := 6) d214_6 (am_c_iconst hG (pc := 7) d214_7 (by decide) (am_c_isub hG (pc := 8) d214_8 (x_istore_n (lv' := [(2, .inl (w32 ((w32 (4 * z1.1)) - 1))), (0, .inr (.inr (11, o))), (1, .inl a)]) hG (pc := 9) d214_9 (ml214 _ (by decide)) rfl (am_c_aload_n hG (pc := 10) d214_10 rfl (am_c_iload_n hG (pc := 11) d214_11 rfl (x_virtual_i (t := 11) (o := o) (as2 := [.inl a]) (rest := []) hG (pc := 12) d214_12 mo214 m11_363 (by decide) dp214_213 rfl rfl (Nat.le_of_ble_eq_true rfl) (Nat.le_of_ble_eq_true rfl) rg213 sd213 (e213 _ _ _) h (fun z2 h => (am_c_iload_n hG (pc := 15) d214_15 rfl (am_c_iconst hG (pc := 16) d214_16 (by decide) (am_c_idiv hG (pc := 17) d214_17 (by decide) (am_c_isub hG (pc := 18) d214_18 (x_istore_n (lv' := [(3, .inl (w32 (z2.1 - (o_div (w32 ((w32 (4 * z1.1)) - 1)) 2)))), (2, .inl (w32 ((w32 (4 * z1.1)) - 1))), (0, .inr (.inr (11, o))), (1, .inl a)]) hG (pc := 19) d214_19 (ml214 _ (by decide)) rfl (am_c_iload_n hG (pc := 20) d214_20 rfl (am_c_iload_n hG (pc := 21) d214_21 rfl (am_c_iadd hG (pc := 22) d214_22 (am_c_aload_n hG (pc := 23) d214_23 rfl (x_get_n (v := .inl (z2.2 o 5)) hG (pc := 24) d214_24 mo214 f11_16 rfl (x_icmp_le (tgt := 39) hG (pc := 27) d214_27 rfl h (fun h => (am_c_iload_n hG (pc := 39) d214_39 rfl (x_istore_n (lv' := [(3, .inl (w32 (z2.1 - (o_div (w32 ((w32 (4 * z1.1)) - 1)) 2)))), (2, .inl (w32 ((w32 (4 * z1.1)) - 1))), (0, .inr (.inr (11, o))), (1, .inl a)]) hG (pc := 40) d214_40 (ml214 _ (by decide)) rfl (am_c_iload_n hG (pc := 41) d214_41 rfl (x_if_ge (tgt := 49) hG (pc := 42) d214_42 rfl h (fun h => (am_c_iload_n hG (pc := 49) d214_49 rfl (xq_iret hG (by decide) hr (pc := 50) d214_50 mr214 (am_q0 h)))) (fun h => (am_c_iconst hG (pc := 45) d214_45 (by decide) (x_goto (tgt := 50) hG (pc := 46) d214_46 rfl (xq_iret hG (by decide) hr (pc := 50) d214_50 mr214 (am_q0 h)))))))))) (fun h => (am_c_aload_n hG (pc := 30) d214_30 rfl (x_get_n (v := .inl (z2.2 o 5)) hG (pc := 31) d214_31 mo214 f11_16 rfl (am_c_iload_n hG (pc := 34) d214_34 rfl (am_c_isub hG (pc := 35) d214_35 (x_goto (tgt := 40) hG (pc := 36) d214_36 rfl (x_istore_n (lv' := [(3, .inl (w32 ((z2.2 o 5) - (w32 ((w32 (4 * z1.1)) - 1))))), (2, .inl (w32 ((w32 (4 * z1.1)) - 1))), (0, .inr (.inr (11, o))), (1, .inl a)]) hG (pc := 40) d214_40 (ml214 _ (by decide)) rfl (am_c_iload_n hG (pc := 41) d214_41 rfl (x_if_ge (tgt := 49) hG (pc := 42) d214_42 rfl h (fun h => (am_c_iload_n hG (pc := 49) d214_49 rfl (xq_iret hG (by decide) hr (pc := 50) d214_50 mr214 (am_q0 h)))) (fun h => (am_c_iconst hG (pc := 45) d214_45 (by decide) (x_goto (tgt := 50) hG (pc := 46) d214_46 rfl (xq_iret hG (by decide) hr (pc := 50) d214_50 mr214 (am_q0 h)))))))))))))))))))))))))))))))))))))))
/-! ChartPressModel.apart(I)Z -/
theorem D215 (k : Nat) {pc : Nat} {i : Instr} (h : tbi215[k]? = some (pc, i)) (hs : am_isw i = false) {n : Nat} (hn : am_il i = n) : decode (am_mc 215) pc = .ok (i, n) := am_d2 (by decide) (by decide) rfl h hs hn
theorem d215_0 : decode (am_mc 215) 0 = .ok (.iconst 1, 1) := D215 0 rfl rfl rfl
theorem d215_1 : decode (am_mc 215) 1 = .ok (.istore_n 2, 1) := D215 1 rfl rfl rfl
theorem d215_2 : decode (am_mc 215) 2 = .ok (.iload_n 1, 1) := D215 2 rfl rfl rfl
theorem d215_3 : decode (am_mc 215) 3 = .ok (.istore_n 3, 1) := D215 3 rfl rfl rfl
theorem d215_4 : decode (am_mc 215) 4 = .ok (.iload_n 3, 1) := D215 4 rfl rfl rfl
theorem d215_5 : decode (am_mc 215) 5 = .ok (.aload_n 0, 1) := D215 5 rfl rfl rfl
theorem d215_6 : decode (am_mc 215) 6 = .ok (.getfield 310, 3) := D215 6 rfl rfl rfl
theorem d215_9 : decode (am_mc 215) 9 = .ok (.if_icmp .ge 49, 3) := D215 7 rfl rfl rfl
theorem d215_12 : decode (am_mc 215) 12 = .ok (.iload_n 2, 1) := D215 8 rfl rfl rfl
theorem d215_13 : decode (am_mc 215) 13 = .ok (.ifCond .eq 36, 3) := D215 9 rfl rfl rfl
theorem d215_16 : decode (am_mc 215) 16 = .ok (.aload_n 0, 1) := D215 10 rfl rfl rfl
theorem d215_17 : decode (am_mc 215) 17 = .ok (.iload_n 3, 1) := D215 11 rfl rfl rfl
theorem d215_18 : decode (am_mc 215) 18 = .ok (.invokevirtual 366, 3) := D215 12 rfl rfl rfl
theorem d215_21 : decode (am_mc 215) 21 = .ok (.aload_n 0, 1) := D215 13 rfl rfl rfl
theorem d215_22 : decode (am_mc 215) 22 = .ok (.iload_n 3, 1) := D215 14 rfl rfl rfl
theorem d215_23 : decode (am_mc 215) 23 = .ok (.iload_n 1, 1) := D215 15 rfl rfl rfl
theorem d215_24 : decode (am_mc 215) 24 = .ok (.isub, 1) := D215 16 rfl rfl rfl
theorem d215_25 : decode (am_mc 215) 25 = .ok (.invokevirtual 366, 3) := D215 17 rfl rfl rfl
theorem d215_28 : decode (am_mc 215) 28 = .ok (.iconst 4, 1) := D215 18 rfl rfl rfl
theorem d215_29 : decode (am_mc 215) 29 = .ok (.aload_n 0, 1) := D215 19 rfl rfl rfl
theorem d215_30 : decode (am_mc 215) 30 = .ok (.iload_n 3, 1) := D215 20 rfl rfl rfl
theorem d215_31 : decode (am_mc 215) 31 = .ok (.iload_n 1, 1) := D215 21 rfl rfl rfl
theorem d215_32 : decode (am_mc 215) 32 = .ok (.isub, 1) := D215 22 rfl rfl rfl
theorem d215_33 : decode (am_mc 215) 33 = .ok (.invokevirtual 360, 3) := D215 23 rfl rfl rfl
theorem d215_36 : decode (am_mc 215) 36 = .ok (.imul, 1) := D215 24 rfl rfl rfl
theorem d215_37 : decode (am_mc 215) 37 = .ok (.iadd, 1) := D215 25 rfl rfl rfl
theorem d215_38 : decode (am_mc 215) 38 = .ok (.iconst 2, 1) := D215 26 rfl rfl rfl
theorem d215_39 : decode (am_mc 215) 39 = .ok (.isub, 1) := D215 27 rfl rfl rfl
theorem d215_40 : decode (am_mc 215) 40 = .ok (.iconst 2, 1) := D215 28 rfl rfl rfl
theorem d215_41 : decode (am_mc 215) 41 = .ok (.iadd, 1) := D215 29 rfl rfl rfl
theorem d215_42 : decode (am_mc 215) 42 = .ok (.if_icmp .lt 7, 3) := D215 30 rfl rfl rfl
theorem d215_45 : decode (am_mc 215) 45 = .ok (.iconst 1, 1) := D215 31 rfl rfl rfl
theorem d215_46 : decode (am_mc 215) 46 = .ok (.goto 4, 3) := D215 32 rfl rfl rfl
theorem d215_49 : decode (am_mc 215) 49 = .ok (.iconst 0, 1) := D215 33 rfl rfl rfl
theorem d215_50 : decode (am_mc 215) 50 = .ok (.istore_n 2, 1) := D215 34 rfl rfl rfl
theorem d215_51 : decode (am_mc 215) 51 = .ok (.iload_n 3, 1) := D215 35 rfl rfl rfl
theorem d215_52 : decode (am_mc 215) 52 = .ok (.iload_n 1, 1) := D215 36 rfl rfl rfl
theorem d215_53 : decode (am_mc 215) 53 = .ok (.iadd, 1) := D215 37 rfl rfl rfl
theorem d215_54 : decode (am_mc 215) 54 = .ok (.istore_n 3, 1) := D215 38 rfl rfl rfl
theorem d215_55 : decode (am_mc 215) 55 = .ok (.goto (-51), 3) := D215 39 rfl rfl rfl
theorem d215_58 : decode (am_mc 215) 58 = .ok (.iload_n 2, 1) := D215 40 rfl rfl rfl
theorem d215_59 : decode (am_mc 215) 59 = .ok (.ireturn, 1) := D215 41 rfl rfl rfl
theorem ml215 : ∀ n, n < 4 → n < am_ml 215 := fun _ h => h
theorem mo215 : am_mo 215 = 11 := by decide +kernel
theorem mr215 : am_mr 215 = some .boolean := by decide +kernel
theorem rg215 : am_rcg 215 = 12 := by decide +kernel
theorem m11_366 : tb_m 11 366 = some (214, 2, 1, 0) := by decide +kernel
theorem dp215_210 : am_md 210 + 1 ≤ am_md 215 ∧ 8 + (am_ml 210 + 11) + am_lr 210 ≤ am_lr 215 := by decide +kernel
theorem dp215_214 : am_md 214 + 1 ≤ am_md 215 ∧ 8 + (am_ml 214 + 11) + am_lr 214 ≤ am_lr 215 := by decide +kernel
def L215_4 (l0 : Nat) (l1 : Int) : Nat → Int → Int → am_M → Option ((Int × am_M) ⊕ (Int × Int × am_M))
  | 0, _, _, _ => none
  | n + 1, l2, l3, μ => (if l3 < μ l0 47 then (if l2 = 0 then (L215_4 l0 l1 n 0 (w32 (l3 + l1)) μ) else (am_op (fn214 l0 l3 μ) (fun z1 => (am_op (fn214 l0 (w32 (l3 - l1)) z1.2) (fun z2 => (am_op (fn210 l0 (w32 (l3 - l1)) z2.2) (fun z3 => (if z1.1 < w32 ((w32 ((w32 (z2.1 + (w32 (4 * z3.1)))) - 2)) + 2) then (L215_4 l0 l1 n 0 (w32 (l3 + l1)) z3.2) else (L215_4 l0 l1 n 1 (w32 (l3 + l1)) z3.2))))))))) else (some (.inr (l2, l3, μ))))
theorem w215_4 {X : am_K} {C : am_C} {Q : State → Prop} (hG : am_G X C 215 0 0 (0, fun _ => 0)) (hr : match X with | (_, _, _, _, _, _, _, _, meth, _) => meth.sig.returnType = am_mr 215 ∧ meth.locks = false) (l0 : Nat) (l1 : Int) : ∀ (n : Nat) (l2 : Int) (l3 : Int) (μ : am_M) (r : (Int × am_M) ⊕ (Int × Int × am_M)), L215_4 l0 l1 n l2 l3 μ = some r → (∀ q, r = .inl q → Q = am_E X C 215 q.1 q.2) → (∀ t, r = .inr t → am_W X C 215 Q 0 0 58 [(2, .inl t.1)] [] t.2.2) → am_W X C 215 Q 0 0 4 [(0, .inr (.inr (11, l0))), (1, .inl l1), (2, .inl l2), (3, .inl l3)] [] μ := by
  intro n
  induction n with
  | zero => intro l2 l3 μ r h; cases h
  | succ n ih =>
    intro l2 l3 μ r h hI hX
    unfold L215_4 at h
    exact (am_c_iload_n hG (pc := 4) d215_4 rfl (am_c_aload_n hG (pc := 5) d215_5 rfl (x_get_n (v := .inl (μ l0 47)) hG (pc := 6) d215_6 mo215 f11_310 rfl (x_icmp_ge (tgt := 58) hG (pc := 9) d215_9 rfl h (fun h => (am_lvw (lv2 := [(2, .inl l2)]) [2] rfl (hX (l2, l3, μ) (Option.some.inj h).symm))) (fun h => (am_c_iload_n hG (pc := 12) d215_12 rfl (x_if_eq (tgt := 49) hG (pc := 13) d215_13 rfl h (fun h => (am_c_iconst hG (pc := 49) d215_49 (by decide) (x_istore_n (lv' := [(2, .inl 0), (0, .inr (.inr (11, l0))), (1, .inl l1), (3, .inl l3)]) hG (pc := 50) d215_50 (ml215 _ (by decide)) rfl (am_c_iload_n hG (pc := 51) d215_51 rfl (am_c_iload_n hG (pc := 52) d215_52 rfl (am_c_iadd hG (pc := 53) d215_53 (x_istore_n (lv' := [(3, .inl (w32 (l3 + l1))), (2, .inl 0), (0, .inr (.inr (11, l0))), (1, .inl l1)]) hG (pc := 54) d215_54 (ml215 _ (by decide)) rfl (x_goto (tgt := 4) hG (pc := 55) d215_55 rfl (am_lvw (lv2 := [(0, .inr (.inr (11, l0))), (1, .inl l1), (2, .inl 0), (3, .inl (w32 (l3 + l1)))]) [2, 3, 1, 0] rfl (ih _ _ _ _ h hI hX)))))))))) (fun h => (am_c_aload_n hG (pc := 16) d215_16 rfl (am_c_iload_n hG (pc := 17) d215_17 rfl (x_virtual_i (t := 11) (o := l0) (as2 := [.inl l3]) (rest := []) hG (pc := 18) d215_18 mo215 m11_366 (by decide) dp215_214 rfl rfl (Nat.le_of_ble_eq_true rfl) (Nat.le_of_ble_eq_true rfl) rg214 sd214 (e214 _ _ _) h (fun z1 h => (am_c_aload_n hG (pc := 21) d215_21 rfl (am_c_iload_n hG (pc := 22) d215_22 rfl (am_c_iload_n hG (pc := 23) d215_23 rfl (am_c_isub hG (pc := 24) d215_24 (x_virtual_i (t := 11) (o := l0) (as2 := [.inl (w32 (l3 - l1))]) (rest := [.inl z1.1]) hG (pc := 25) d215_25 mo215 m11_366 (by decide) dp215_214 rfl rfl (Nat.le_of_ble_eq_true rfl) (Nat.le_of_ble_eq_true rfl) rg214 sd214 (e214 _ _ _) h (fun z2 h => (am_c_iconst hG (pc := 28) d215_28 (by decide) (am_c_aload_n hG (pc := 29) d215_29 rfl (am_c_iload_n hG (pc := 30) d215_30 rfl (am_c_iload_n hG (pc := 31) d215_31 rfl (am_c_isub hG (pc := 32) d215_32 (x_virtual_i (t := 11) (o := l0) (as2 := [.inl (w32 (l3 - l1))]) (rest := [.inl 4, .inl z2.1, .inl z1.1]) hG (pc := 33) d215_33 mo215 m11_360 (by decide) dp215_210 rfl rfl (Nat.le_of_ble_eq_true rfl) (Nat.le_of_ble_eq_true rfl) rg210 sd210 (e210 _ _ _) h (fun z3 h => (am_c_imul hG (pc := 36) d215_36 (am_c_iadd hG (pc := 37) d215_37 (am_c_iconst hG (pc := 38) d215_38 (by decide) (am_c_isub hG (pc := 39) d215_39 (am_c_iconst hG (pc := 40) d215_40 (by decide) (am_c_iadd hG (pc := 41) d215_41 (x_icmp_lt (tgt := 49) hG (pc := 42) d215_42 rfl h (fun h => (am_c_iconst hG (pc := 49) d215_49 (by decide) (x_istore_n (lv' := [(2, .inl 0), (0, .inr (.inr (11, l0))), (1, .inl l1), (3, .inl l3)]) hG (pc := 50) d215_50 (ml215 _ (by decide)) rfl (am_c_iload_n hG (pc := 51) d215_51 rfl (am_c_iload_n hG (pc := 52) d215_52 rfl (am_c_iadd hG (pc := 53) d215_53 (x_istore_n (lv' := [(3, .inl (w32 (l3 + l1))), (2, .inl 0), (0, .inr (.inr (11, l0))), (1, .inl l1)]) hG (pc := 54) d215_54 (ml215 _ (by decide)) rfl (x_goto (tgt := 4) hG (pc := 55) d215_55 rfl (am_lvw (lv2 := [(0, .inr (.inr (11, l0))), (1, .inl l1), (2, .inl 0), (3, .inl (w32 (l3 + l1)))]) [2, 3, 1, 0] rfl (ih _ _ _ _ h hI hX)))))))))) (fun h => (am_c_iconst hG (pc := 45) d215_45 (by decide) (x_goto (tgt := 50) hG (pc := 46) d215_46 rfl (x_istore_n (lv' := [(2, .inl 1), (0, .inr (.inr (11, l0))), (1, .inl l1), (3, .inl l3)]) hG (pc := 50) d215_50 (ml215 _ (by decide)) rfl (am_c_iload_n hG (pc := 51) d215_51 rfl (am_c_iload_n hG (pc := 52) d215_52 rfl (am_c_iadd hG (pc := 53) d215_53 (x_istore_n (lv' := [(3, .inl (w32 (l3 + l1))), (2, .inl 1), (0, .inr (.inr (11, l0))), (1, .inl l1)]) hG (pc := 54) d215_54 (ml215 _ (by decide)) rfl (x_goto (tgt := 4) hG (pc := 55) d215_55 rfl (am_lvw (lv2 := [(0, .inr (.inr (11, l0))), (1, .inl l1), (2, .inl 1), (3, .inl (w32 (l3 + l1)))]) [2, 3, 1, 0] rfl (ih _ _ _ _ h hI hX)))))))))))))))))))))))))))))))))))))))))))
def fn215 (o : Nat) (a : Int) (μ : am_M) : Option (Int × am_M) := (am_op (L215_4 o a am_fuel 1 a μ) (fun s => am_lp s (fun q1 => some q1) (fun t1 => (if t1.1 = 0 ∨ t1.1 = 1 then some (t1.1, t1.2.2) else none))))
def sp215 : am_F := fun vs μ => am_aR 11 vs fun o vs => am_aI vs fun a vs => am_a0 vs (fn215 o a μ)
theorem e215 (o : Nat) (a : Int) (μ : am_M) : sp215 [.inr (.inr (11, o)), .inl a] μ = fn215 o a μ := am_aR_c.trans (am_aI_c.trans am_a0_c)
theorem sd215 : am_Sd 215 sp215 := by
  refine am_Sd_of (by decide) (fun vs μ μ' x h hv hM => ?_)
  obtain ⟨o, vs0, rfl, h0⟩ := am_aR_s h
  obtain ⟨a, vs1, rfl, h1⟩ := am_aI_s h0
  obtain ⟨rfl, hz⟩ := am_a0_s h1
  refine ⟨Nat.le_of_ble_eq_true rfl, fun X C hG hr => ?_⟩
  have h := hz
  unfold fn215 at h
  exact (show am_W X C 215 _ 0 0 0 [(0, .inr (.inr (11, o))), (1, .inl a)] [] μ from (am_c_iconst hG (pc := 0) d215_0 (by decide) (x_istore_n (lv' := [(2, .inl 1), (0, .inr (.inr (11, o))), (1, .inl a)]) hG (pc := 1) d215_1 (ml215 _ (by decide)) rfl (am_c_iload_n hG (pc := 2) d215_2 rfl (x_istore_n (lv' := [(3, .inl a), (2, .inl 1), (0, .inr (.inr (11, o))), (1, .inl a)]) hG (pc := 3) d215_3 (ml215 _ (by decide)) rfl (x_lp h (fun r h1 h2 => (am_lvw (lv2 := [(0, .inr (.inr (11, o))), (1, .inl a), (2, .inl 1), (3, .inl a)]) [2, 3, 1, 0] rfl (w215_4 hG hr _ _ _ _ _ _ _ h1 (fun q1 e => am_q1 e h2 (fun h => am_q0 h)) (fun t1 e => am_q2 e h2 (fun h => (am_c_iload_n hG (pc := 58) d215_58 rfl (xq_zret hG (by decide) hr (pc := 59) d215_59 mr215 h (fun h => (am_q0 h)))))))))))))))
/-! ChartPressModel.lay()Z -/
theorem D216 (k : Nat) {pc : Nat} {i : Instr} (h : tbi216[k]? = some (pc, i)) (hs : am_isw i = false) {n : Nat} (hn : am_il i = n) : decode (am_mc 216) pc = .ok (i, n) := am_d2 (by decide) (by decide) rfl h hs hn
theorem d216_0 : decode (am_mc 216) 0 = .ok (.iconst 0, 1) := D216 0 rfl rfl rfl
theorem d216_1 : decode (am_mc 216) 1 = .ok (.istore_n 1, 1) := D216 1 rfl rfl rfl
theorem d216_2 : decode (am_mc 216) 2 = .ok (.iconst 0, 1) := D216 2 rfl rfl rfl
theorem d216_3 : decode (am_mc 216) 3 = .ok (.istore_n 2, 1) := D216 3 rfl rfl rfl
theorem d216_4 : decode (am_mc 216) 4 = .ok (.iload_n 2, 1) := D216 4 rfl rfl rfl
theorem d216_5 : decode (am_mc 216) 5 = .ok (.aload_n 0, 1) := D216 5 rfl rfl rfl
theorem d216_6 : decode (am_mc 216) 6 = .ok (.getfield 343, 3) := D216 6 rfl rfl rfl
theorem d216_9 : decode (am_mc 216) 9 = .ok (.if_icmp .ge 26, 3) := D216 7 rfl rfl rfl
theorem d216_12 : decode (am_mc 216) 12 = .ok (.aload_n 0, 1) := D216 8 rfl rfl rfl
theorem d216_13 : decode (am_mc 216) 13 = .ok (.iload_n 2, 1) := D216 9 rfl rfl rfl
theorem d216_14 : decode (am_mc 216) 14 = .ok (.invokevirtual 369, 3) := D216 10 rfl rfl rfl
theorem d216_17 : decode (am_mc 216) 17 = .ok (.istore_n 3, 1) := D216 11 rfl rfl rfl
theorem d216_18 : decode (am_mc 216) 18 = .ok (.iload_n 3, 1) := D216 12 rfl rfl rfl
theorem d216_19 : decode (am_mc 216) 19 = .ok (.iload_n 1, 1) := D216 13 rfl rfl rfl
theorem d216_20 : decode (am_mc 216) 20 = .ok (.if_icmp .le 7, 3) := D216 14 rfl rfl rfl
theorem d216_23 : decode (am_mc 216) 23 = .ok (.iload_n 3, 1) := D216 15 rfl rfl rfl
theorem d216_24 : decode (am_mc 216) 24 = .ok (.goto 4, 3) := D216 16 rfl rfl rfl
theorem d216_27 : decode (am_mc 216) 27 = .ok (.iload_n 1, 1) := D216 17 rfl rfl rfl
theorem d216_28 : decode (am_mc 216) 28 = .ok (.istore_n 1, 1) := D216 18 rfl rfl rfl
theorem d216_29 : decode (am_mc 216) 29 = .ok (.iinc 2 1, 3) := D216 19 rfl rfl rfl
theorem d216_32 : decode (am_mc 216) 32 = .ok (.goto (-28), 3) := D216 20 rfl rfl rfl
theorem d216_35 : decode (am_mc 216) 35 = .ok (.aload_n 0, 1) := D216 21 rfl rfl rfl
theorem d216_36 : decode (am_mc 216) 36 = .ok (.iconst 4, 1) := D216 22 rfl rfl rfl
theorem d216_37 : decode (am_mc 216) 37 = .ok (.iload_n 1, 1) := D216 23 rfl rfl rfl
theorem d216_38 : decode (am_mc 216) 38 = .ok (.imul, 1) := D216 24 rfl rfl rfl
theorem d216_39 : decode (am_mc 216) 39 = .ok (.iconst 1, 1) := D216 25 rfl rfl rfl
theorem d216_40 : decode (am_mc 216) 40 = .ok (.isub, 1) := D216 26 rfl rfl rfl
theorem d216_41 : decode (am_mc 216) 41 = .ok (.iconst 3, 1) := D216 27 rfl rfl rfl
theorem d216_42 : decode (am_mc 216) 42 = .ok (.iadd, 1) := D216 28 rfl rfl rfl
theorem d216_43 : decode (am_mc 216) 43 = .ok (.putfield 348, 3) := D216 29 rfl rfl rfl
theorem d216_46 : decode (am_mc 216) 46 = .ok (.aload_n 0, 1) := D216 30 rfl rfl rfl
theorem d216_47 : decode (am_mc 216) 47 = .ok (.invokevirtual 351, 3) := D216 31 rfl rfl rfl
theorem d216_50 : decode (am_mc 216) 50 = .ok (.iconst 2, 1) := D216 32 rfl rfl rfl
theorem d216_51 : decode (am_mc 216) 51 = .ok (.aload_n 0, 1) := D216 33 rfl rfl rfl
theorem d216_52 : decode (am_mc 216) 52 = .ok (.getfield 310, 3) := D216 34 rfl rfl rfl
theorem d216_55 : decode (am_mc 216) 55 = .ok (.imul, 1) := D216 35 rfl rfl rfl
theorem d216_56 : decode (am_mc 216) 56 = .ok (.if_icmp .lt 7, 3) := D216 36 rfl rfl rfl
theorem d216_59 : decode (am_mc 216) 59 = .ok (.iconst 1, 1) := D216 37 rfl rfl rfl
theorem d216_60 : decode (am_mc 216) 60 = .ok (.goto 4, 3) := D216 38 rfl rfl rfl
theorem d216_63 : decode (am_mc 216) 63 = .ok (.iconst 0, 1) := D216 39 rfl rfl rfl
theorem d216_64 : decode (am_mc 216) 64 = .ok (.istore_n 2, 1) := D216 40 rfl rfl rfl
theorem d216_65 : decode (am_mc 216) 65 = .ok (.iconst 0, 1) := D216 41 rfl rfl rfl
theorem d216_66 : decode (am_mc 216) 66 = .ok (.istore_n 3, 1) := D216 42 rfl rfl rfl
theorem d216_67 : decode (am_mc 216) 67 = .ok (.iload_n 3, 1) := D216 43 rfl rfl rfl
theorem d216_68 : decode (am_mc 216) 68 = .ok (.aload_n 0, 1) := D216 44 rfl rfl rfl
theorem d216_69 : decode (am_mc 216) 69 = .ok (.getfield 310, 3) := D216 45 rfl rfl rfl
theorem d216_72 : decode (am_mc 216) 72 = .ok (.if_icmp .ge 35, 3) := D216 46 rfl rfl rfl
theorem d216_75 : decode (am_mc 216) 75 = .ok (.iload_n 2, 1) := D216 47 rfl rfl rfl
theorem d216_76 : decode (am_mc 216) 76 = .ok (.ifCond .eq 23, 3) := D216 48 rfl rfl rfl
theorem d216_79 : decode (am_mc 216) 79 = .ok (.iconst 4, 1) := D216 49 rfl rfl rfl
theorem d216_80 : decode (am_mc 216) 80 = .ok (.aload_n 0, 1) := D216 50 rfl rfl rfl
theorem d216_81 : decode (am_mc 216) 81 = .ok (.iload_n 3, 1) := D216 51 rfl rfl rfl
theorem d216_82 : decode (am_mc 216) 82 = .ok (.invokevirtual 360, 3) := D216 52 rfl rfl rfl
theorem d216_85 : decode (am_mc 216) 85 = .ok (.imul, 1) := D216 53 rfl rfl rfl
theorem d216_86 : decode (am_mc 216) 86 = .ok (.iconst 1, 1) := D216 54 rfl rfl rfl
theorem d216_87 : decode (am_mc 216) 87 = .ok (.isub, 1) := D216 55 rfl rfl rfl
theorem d216_88 : decode (am_mc 216) 88 = .ok (.aload_n 0, 1) := D216 56 rfl rfl rfl
theorem d216_89 : decode (am_mc 216) 89 = .ok (.getfield 16, 3) := D216 57 rfl rfl rfl
theorem d216_92 : decode (am_mc 216) 92 = .ok (.if_icmp .gt 7, 3) := D216 58 rfl rfl rfl
theorem d216_95 : decode (am_mc 216) 95 = .ok (.iconst 1, 1) := D216 59 rfl rfl rfl
theorem d216_96 : decode (am_mc 216) 96 = .ok (.goto 4, 3) := D216 60 rfl rfl rfl
theorem d216_99 : decode (am_mc 216) 99 = .ok (.iconst 0, 1) := D216 61 rfl rfl rfl
theorem d216_100 : decode (am_mc 216) 100 = .ok (.istore_n 2, 1) := D216 62 rfl rfl rfl
theorem d216_101 : decode (am_mc 216) 101 = .ok (.iinc 3 1, 3) := D216 63 rfl rfl rfl
theorem d216_104 : decode (am_mc 216) 104 = .ok (.goto (-37), 3) := D216 64 rfl rfl rfl
theorem d216_107 : decode (am_mc 216) 107 = .ok (.aload_n 0, 1) := D216 65 rfl rfl rfl
theorem d216_108 : decode (am_mc 216) 108 = .ok (.iconst 1, 1) := D216 66 rfl rfl rfl
theorem d216_109 : decode (am_mc 216) 109 = .ok (.putfield 372, 3) := D216 67 rfl rfl rfl
theorem d216_112 : decode (am_mc 216) 112 = .ok (.iload_n 2, 1) := D216 68 rfl rfl rfl
theorem d216_113 : decode (am_mc 216) 113 = .ok (.ifCond .eq 27, 3) := D216 69 rfl rfl rfl
theorem d216_116 : decode (am_mc 216) 116 = .ok (.aload_n 0, 1) := D216 70 rfl rfl rfl
theorem d216_117 : decode (am_mc 216) 117 = .ok (.aload_n 0, 1) := D216 71 rfl rfl rfl
theorem d216_118 : decode (am_mc 216) 118 = .ok (.getfield 372, 3) := D216 72 rfl rfl rfl
theorem d216_121 : decode (am_mc 216) 121 = .ok (.invokevirtual 375, 3) := D216 73 rfl rfl rfl
theorem d216_124 : decode (am_mc 216) 124 = .ok (.ifCond .ne 16, 3) := D216 74 rfl rfl rfl
theorem d216_127 : decode (am_mc 216) 127 = .ok (.aload_n 0, 1) := D216 75 rfl rfl rfl
theorem d216_128 : decode (am_mc 216) 128 = .ok (.dup, 1) := D216 76 rfl rfl rfl
theorem d216_129 : decode (am_mc 216) 129 = .ok (.getfield 372, 3) := D216 77 rfl rfl rfl
theorem d216_132 : decode (am_mc 216) 132 = .ok (.iconst 1, 1) := D216 78 rfl rfl rfl
theorem d216_133 : decode (am_mc 216) 133 = .ok (.iadd, 1) := D216 79 rfl rfl rfl
theorem d216_134 : decode (am_mc 216) 134 = .ok (.putfield 372, 3) := D216 80 rfl rfl rfl
theorem d216_137 : decode (am_mc 216) 137 = .ok (.goto (-25), 3) := D216 81 rfl rfl rfl
theorem d216_140 : decode (am_mc 216) 140 = .ok (.iload_n 2, 1) := D216 82 rfl rfl rfl
theorem d216_141 : decode (am_mc 216) 141 = .ok (.ireturn, 1) := D216 83 rfl rfl rfl
theorem ml216 : ∀ n, n < 4 → n < am_ml 216 := fun _ h => h
theorem mo216 : am_mo 216 = 11 := by decide +kernel
theorem mr216 : am_mr 216 = some .boolean := by decide +kernel
theorem rg216 : am_rcg 216 = 12 := by decide +kernel
theorem f11_372 : tb_f 11 372 = some (11, 46, 0, 0) := by decide +kernel
theorem m11_369 : tb_m 11 369 = some (208, 2, 1, 0) := by decide +kernel
theorem m11_375 : tb_m 11 375 = some (215, 2, 1, 0) := by decide +kernel
theorem dp216_208 : am_md 208 + 1 ≤ am_md 216 ∧ 8 + (am_ml 208 + 11) + am_lr 208 ≤ am_lr 216 := by decide +kernel
theorem dp216_209 : am_md 209 + 1 ≤ am_md 216 ∧ 8 + (am_ml 209 + 11) + am_lr 209 ≤ am_lr 216 := by decide +kernel
theorem dp216_210 : am_md 210 + 1 ≤ am_md 216 ∧ 8 + (am_ml 210 + 11) + am_lr 210 ≤ am_lr 216 := by decide +kernel
theorem dp216_215 : am_md 215 + 1 ≤ am_md 216 ∧ 8 + (am_ml 215 + 11) + am_lr 215 ≤ am_lr 216 := by decide +kernel
def L216_4 (l0 : Nat) : Nat → Int → Int → am_M → Option ((Int × am_M) ⊕ (Int × Int × am_M))
  | 0, _, _, _ => none
  | n + 1, l1, l2, μ => (if l2 < μ l0 44 then (am_op (fn208 l0 l2 μ) (fun z1 => (if l1 < z1.1 then (L216_4 l0 n z1.1 (w32 (l2 + 1)) z1.2) else (L216_4 l0 n l1 (w32 (l2 + 1)) z1.2)))) else (some (.inr (l1, l2, μ))))
theorem w216_4 {X : am_K} {C : am_C} {Q : State → Prop} (hG : am_G X C 216 0 0 (0, fun _ => 0)) (hr : match X with | (_, _, _, _, _, _, _, _, meth, _) => meth.sig.returnType = am_mr 216 ∧ meth.locks = false) (l0 : Nat) : ∀ (n : Nat) (l1 : Int) (l2 : Int) (μ : am_M) (r : (Int × am_M) ⊕ (Int × Int × am_M)), L216_4 l0 n l1 l2 μ = some r → (∀ q, r = .inl q → Q = am_E X C 216 q.1 q.2) → (∀ t, r = .inr t → am_W X C 216 Q 0 0 35 [(0, .inr (.inr (11, l0))), (1, .inl t.1)] [] t.2.2) → am_W X C 216 Q 0 0 4 [(0, .inr (.inr (11, l0))), (1, .inl l1), (2, .inl l2)] [] μ := by
  intro n
  induction n with
  | zero => intro l1 l2 μ r h; cases h
  | succ n ih =>
    intro l1 l2 μ r h hI hX
    unfold L216_4 at h
    exact (am_c_iload_n hG (pc := 4) d216_4 rfl (am_c_aload_n hG (pc := 5) d216_5 rfl (x_get_n (v := .inl (μ l0 44)) hG (pc := 6) d216_6 mo216 f11_343 rfl (x_icmp_ge (tgt := 35) hG (pc := 9) d216_9 rfl h (fun h => (am_lvw (lv2 := [(0, .inr (.inr (11, l0))), (1, .inl l1)]) [0, 1] rfl (hX (l1, l2, μ) (Option.some.inj h).symm))) (fun h => (am_c_aload_n hG (pc := 12) d216_12 rfl (am_c_iload_n hG (pc := 13) d216_13 rfl (x_virtual_i (t := 11) (o := l0) (as2 := [.inl l2]) (rest := []) hG (pc := 14) d216_14 mo216 m11_369 (by decide) dp216_208 rfl rfl (Nat.le_of_ble_eq_true rfl) (Nat.le_of_ble_eq_true rfl) rg208 sd208 (e208 _ _ _) h (fun z1 h => (x_istore_n (lv' := [(3, .inl z1.1), (0, .inr (.inr (11, l0))), (1, .inl l1), (2, .inl l2)]) hG (pc := 17) d216_17 (ml216 _ (by decide)) rfl (am_c_iload_n hG (pc := 18) d216_18 rfl (am_c_iload_n hG (pc := 19) d216_19 rfl (x_icmp_le (tgt := 27) hG (pc := 20) d216_20 rfl h (fun h => (am_c_iload_n hG (pc := 27) d216_27 rfl (x_istore_n (lv' := [(1, .inl l1), (3, .inl z1.1), (0, .inr (.inr (11, l0))), (2, .inl l2)]) hG (pc := 28) d216_28 (ml216 _ (by decide)) rfl (x_iinc (lv' := [(2, .inl (w32 (l2 + 1))), (1, .inl l1), (3, .inl z1.1), (0, .inr (.inr (11, l0)))]) hG (pc := 29) d216_29 rfl (ml216 _ (by decide)) rfl (x_goto (tgt := 4) hG (pc := 32) d216_32 rfl (am_lvw (lv2 := [(0, .inr (.inr (11, l0))), (1, .inl l1), (2, .inl (w32 (l2 + 1)))]) [3, 1, 0] rfl (ih _ _ _ _ h hI hX))))))) (fun h => (am_c_iload_n hG (pc := 23) d216_23 rfl (x_goto (tgt := 28) hG (pc := 24) d216_24 rfl (x_istore_n (lv' := [(1, .inl z1.1), (3, .inl z1.1), (0, .inr (.inr (11, l0))), (2, .inl l2)]) hG (pc := 28) d216_28 (ml216 _ (by decide)) rfl (x_iinc (lv' := [(2, .inl (w32 (l2 + 1))), (1, .inl z1.1), (3, .inl z1.1), (0, .inr (.inr (11, l0)))]) hG (pc := 29) d216_29 rfl (ml216 _ (by decide)) rfl (x_goto (tgt := 4) hG (pc := 32) d216_32 rfl (am_lvw (lv2 := [(0, .inr (.inr (11, l0))), (1, .inl z1.1), (2, .inl (w32 (l2 + 1)))]) [3, 1, 0] rfl (ih _ _ _ _ h hI hX)))))))))))))))))))))
def L216_67 (l0 : Nat) : Nat → Int → Int → am_M → Option ((Int × am_M) ⊕ (Int × Int × am_M))
  | 0, _, _, _ => none
  | n + 1, l2, l3, μ => (if l3 < μ l0 47 then (if l2 = 0 then (L216_67 l0 n 0 (w32 (l3 + 1)) μ) else (am_op (fn210 l0 l3 μ) (fun z3 => (if z3.2 l0 5 < w32 ((w32 (4 * z3.1)) - 1) then (L216_67 l0 n 0 (w32 (l3 + 1)) z3.2) else (L216_67 l0 n 1 (w32 (l3 + 1)) z3.2))))) else (some (.inr (l2, l3, μ))))
theorem w216_67 {X : am_K} {C : am_C} {Q : State → Prop} (hG : am_G X C 216 0 0 (0, fun _ => 0)) (hr : match X with | (_, _, _, _, _, _, _, _, meth, _) => meth.sig.returnType = am_mr 216 ∧ meth.locks = false) (l0 : Nat) : ∀ (n : Nat) (l2 : Int) (l3 : Int) (μ : am_M) (r : (Int × am_M) ⊕ (Int × Int × am_M)), L216_67 l0 n l2 l3 μ = some r → (∀ q, r = .inl q → Q = am_E X C 216 q.1 q.2) → (∀ t, r = .inr t → am_W X C 216 Q 0 0 107 [(0, .inr (.inr (11, l0))), (2, .inl t.1)] [] t.2.2) → am_W X C 216 Q 0 0 67 [(0, .inr (.inr (11, l0))), (2, .inl l2), (3, .inl l3)] [] μ := by
  intro n
  induction n with
  | zero => intro l2 l3 μ r h; cases h
  | succ n ih =>
    intro l2 l3 μ r h hI hX
    unfold L216_67 at h
    exact (am_c_iload_n hG (pc := 67) d216_67 rfl (am_c_aload_n hG (pc := 68) d216_68 rfl (x_get_n (v := .inl (μ l0 47)) hG (pc := 69) d216_69 mo216 f11_310 rfl (x_icmp_ge (tgt := 107) hG (pc := 72) d216_72 rfl h (fun h => (am_lvw (lv2 := [(0, .inr (.inr (11, l0))), (2, .inl l2)]) [0, 1] rfl (hX (l2, l3, μ) (Option.some.inj h).symm))) (fun h => (am_c_iload_n hG (pc := 75) d216_75 rfl (x_if_eq (tgt := 99) hG (pc := 76) d216_76 rfl h (fun h => (am_c_iconst hG (pc := 99) d216_99 (by decide) (x_istore_n (lv' := [(2, .inl 0), (0, .inr (.inr (11, l0))), (3, .inl l3)]) hG (pc := 100) d216_100 (ml216 _ (by decide)) rfl (x_iinc (lv' := [(3, .inl (w32 (l3 + 1))), (2, .inl 0), (0, .inr (.inr (11, l0)))]) hG (pc := 101) d216_101 rfl (ml216 _ (by decide)) rfl (x_goto (tgt := 67) hG (pc := 104) d216_104 rfl (am_lvw (lv2 := [(0, .inr (.inr (11, l0))), (2, .inl 0), (3, .inl (w32 (l3 + 1)))]) [2, 1, 0] rfl (ih _ _ _ _ h hI hX))))))) (fun h => (am_c_iconst hG (pc := 79) d216_79 (by decide) (am_c_aload_n hG (pc := 80) d216_80 rfl (am_c_iload_n hG (pc := 81) d216_81 rfl (x_virtual_i (t := 11) (o := l0) (as2 := [.inl l3]) (rest := [.inl 4]) hG (pc := 82) d216_82 mo216 m11_360 (by decide) dp216_210 rfl rfl (Nat.le_of_ble_eq_true rfl) (Nat.le_of_ble_eq_true rfl) rg210 sd210 (e210 _ _ _) h (fun z3 h => (am_c_imul hG (pc := 85) d216_85 (am_c_iconst hG (pc := 86) d216_86 (by decide) (am_c_isub hG (pc := 87) d216_87 (am_c_aload_n hG (pc := 88) d216_88 rfl (x_get_n (v := .inl (z3.2 l0 5)) hG (pc := 89) d216_89 mo216 f11_16 rfl (x_icmp_gt (tgt := 99) hG (pc := 92) d216_92 rfl h (fun h => (am_c_iconst hG (pc := 99) d216_99 (by decide) (x_istore_n (lv' := [(2, .inl 0), (0, .inr (.inr (11, l0))), (3, .inl l3)]) hG (pc := 100) d216_100 (ml216 _ (by decide)) rfl (x_iinc (lv' := [(3, .inl (w32 (l3 + 1))), (2, .inl 0), (0, .inr (.inr (11, l0)))]) hG (pc := 101) d216_101 rfl (ml216 _ (by decide)) rfl (x_goto (tgt := 67) hG (pc := 104) d216_104 rfl (am_lvw (lv2 := [(0, .inr (.inr (11, l0))), (2, .inl 0), (3, .inl (w32 (l3 + 1)))]) [2, 1, 0] rfl (ih _ _ _ _ h hI hX))))))) (fun h => (am_c_iconst hG (pc := 95) d216_95 (by decide) (x_goto (tgt := 100) hG (pc := 96) d216_96 rfl (x_istore_n (lv' := [(2, .inl 1), (0, .inr (.inr (11, l0))), (3, .inl l3)]) hG (pc := 100) d216_100 (ml216 _ (by decide)) rfl (x_iinc (lv' := [(3, .inl (w32 (l3 + 1))), (2, .inl 1), (0, .inr (.inr (11, l0)))]) hG (pc := 101) d216_101 rfl (ml216 _ (by decide)) rfl (x_goto (tgt := 67) hG (pc := 104) d216_104 rfl (am_lvw (lv2 := [(0, .inr (.inr (11, l0))), (2, .inl 1), (3, .inl (w32 (l3 + 1)))]) [2, 1, 0] rfl (ih _ _ _ _ h hI hX)))))))))))))))))))))))))))
def L216_112 (l0 : Nat) (l2 : Int) : Nat → am_M → Option ((Int × am_M) ⊕ (am_M))
  | 0, _ => none
  | n + 1, μ => (if l2 = 0 then (some (.inr (μ))) else (am_op (fn215 l0 (μ l0 46) μ) (fun z4 => (if z4.1 = 0 then (L216_112 l0 l2 n  (am_up z4.2 l0 46 (w32 ((z4.2 l0 46) + 1)))) else (some (.inr (z4.2)))))))
theorem w216_112 {X : am_K} {C : am_C} {Q : State → Prop} (hG : am_G X C 216 0 0 (0, fun _ => 0)) (hr : match X with | (_, _, _, _, _, _, _, _, meth, _) => meth.sig.returnType = am_mr 216 ∧ meth.locks = false) (l0 : Nat) (l2 : Int) : ∀ (n : Nat)  (μ : am_M) (r : (Int × am_M) ⊕ (am_M)), L216_112 l0 l2 n  μ = some r → (∀ q, r = .inl q → Q = am_E X C 216 q.1 q.2) → (∀ t, r = .inr t → am_W X C 216 Q 0 0 140 [(2, .inl l2)] [] t) → am_W X C 216 Q 0 0 112 [(0, .inr (.inr (11, l0))), (2, .inl l2)] [] μ := by
  intro n
  induction n with
  | zero => intro  μ r h; cases h
  | succ n ih =>
    intro  μ r h hI hX
    unfold L216_112 at h
    exact (am_c_iload_n hG (pc := 112) d216_112 rfl (x_if_eq (tgt := 140) hG (pc := 113) d216_113 rfl h (fun h => (am_lvw (lv2 := [(2, .inl l2)]) [1] rfl (hX (μ) (Option.some.inj h).symm))) (fun h => (am_c_aload_n hG (pc := 116) d216_116 rfl (am_c_aload_n hG (pc := 117) d216_117 rfl (x_get_n (v := .inl (μ l0 46)) hG (pc := 118) d216_118 mo216 f11_372 rfl (x_virtual_i (t := 11) (o := l0) (as2 := [.inl (μ l0 46)]) (rest := []) hG (pc := 121) d216_121 mo216 m11_375 (by decide) dp216_215 rfl rfl (Nat.le_of_ble_eq_true rfl) (Nat.le_of_ble_eq_true rfl) rg215 sd215 (e215 _ _ _) h (fun z4 h => (x_if_ne (tgt := 140) hG (pc := 124) d216_124 rfl h (fun h => (am_lvw (lv2 := [(2, .inl l2)]) [1] rfl (hX (z4.2) (Option.some.inj h).symm))) (fun h => (am_c_aload_n hG (pc := 127) d216_127 rfl (am_c_dup hG (pc := 128) d216_128 rfl (x_get_n (v := .inl (z4.2 l0 46)) hG (pc := 129) d216_129 mo216 f11_372 rfl (am_c_iconst hG (pc := 132) d216_132 (by decide) (am_c_iadd hG (pc := 133) d216_133 (x_put_i hG (pc := 134) d216_134 mo216 f11_372 (by decide) (x_goto (tgt := 112) hG (pc := 137) d216_137 rfl (am_lvw (lv2 := [(0, .inr (.inr (11, l0))), (2, .inl l2)]) [0, 1] rfl (ih  _ _ h hI hX)))))))))))))))))))
def fn216 (o : Nat) (μ : am_M) : Option (Int × am_M) := (am_op (L216_4 o am_fuel 0 0 μ) (fun s => am_lp s (fun q1 => some q1) (fun t1 => (am_op (fn209 o (am_up t1.2.2 o 45 (w32 ((w32 ((w32 (4 * t1.1)) - 1)) + 3)))) (fun z2 => (if z2.1 < w32 (2 * (z2.2 o 47)) then (am_op (L216_67 o am_fuel 0 0 z2.2) (fun s => am_lp s (fun q2 => some q2) (fun t2 => (am_op (L216_112 o t2.1 am_fuel  (am_up t2.2.2 o 46 1)) (fun s => am_lp s (fun q3 => some q3) (fun t3 => (if t2.1 = 0 ∨ t2.1 = 1 then some (t2.1, t3) else none))))))) else (am_op (L216_67 o am_fuel 1 0 z2.2) (fun s => am_lp s (fun q4 => some q4) (fun t4 => (am_op (L216_112 o t4.1 am_fuel  (am_up t4.2.2 o 46 1)) (fun s => am_lp s (fun q5 => some q5) (fun t5 => (if t4.1 = 0 ∨ t4.1 = 1 then some (t4.1, t5) else none)))))))))))))
def sp216 : am_F := fun vs μ => am_aR 11 vs fun o vs => am_a0 vs (fn216 o μ)
theorem e216 (o : Nat) (μ : am_M) : sp216 [.inr (.inr (11, o))] μ = fn216 o μ := am_aR_c.trans am_a0_c
theorem sd216 : am_Sd 216 sp216 := by
  refine am_Sd_of (by decide) (fun vs μ μ' x h hv hM => ?_)
  obtain ⟨o, vs0, rfl, h0⟩ := am_aR_s h
  obtain ⟨rfl, hz⟩ := am_a0_s h0
  refine ⟨Nat.le_of_ble_eq_true rfl, fun X C hG hr => ?_⟩
  have h := hz
  unfold fn216 at h
  exact (show am_W X C 216 _ 0 0 0 [(0, .inr (.inr (11, o)))] [] μ from (am_c_iconst hG (pc := 0) d216_0 (by decide) (x_istore_n (lv' := [(1, .inl 0), (0, .inr (.inr (11, o)))]) hG (pc := 1) d216_1 (ml216 _ (by decide)) rfl (am_c_iconst hG (pc := 2) d216_2 (by decide) (x_istore_n (lv' := [(2, .inl 0), (1, .inl 0), (0, .inr (.inr (11, o)))]) hG (pc := 3) d216_3 (ml216 _ (by decide)) rfl (x_lp h (fun r h1 h2 => (am_lvw (lv2 := [(0, .inr (.inr (11, o))), (1, .inl 0), (2, .inl 0)]) [2, 1, 0] rfl (w216_4 hG hr _ _ _ _ _ _ h1 (fun q1 e => am_q1 e h2 (fun h => am_q0 h)) (fun t1 e => am_q2 e h2 (fun h => (am_c_aload_n hG (pc := 35) d216_35 rfl (am_c_iconst hG (pc := 36) d216_36 (by decide) (am_c_iload_n hG (pc := 37) d216_37 rfl (am_c_imul hG (pc := 38) d216_38 (am_c_iconst hG (pc := 39) d216_39 (by decide) (am_c_isub hG (pc := 40) d216_40 (am_c_iconst hG (pc := 41) d216_41 (by decide) (am_c_iadd hG (pc := 42) d216_42 (x_put_i hG (pc := 43) d216_43 mo216 f11_348 (by decide) (am_c_aload_n hG (pc := 46) d216_46 rfl (x_virtual_i (t := 11) (o := o) (as2 := []) (rest := []) hG (pc := 47) d216_47 mo216 m11_351 (by decide) dp216_209 rfl rfl (Nat.le_of_ble_eq_true rfl) (Nat.le_of_ble_eq_true rfl) rg209 sd209 (e209 _ _) h (fun z2 h => (am_c_iconst hG (pc := 50) d216_50 (by decide) (am_c_aload_n hG (pc := 51) d216_51 rfl (x_get_n (v := .inl (z2.2 o 47)) hG (pc := 52) d216_52 mo216 f11_310 rfl (am_c_imul hG (pc := 55) d216_55 (x_icmp_lt (tgt := 63) hG (pc := 56) d216_56 rfl h (fun h => (am_c_iconst hG (pc := 63) d216_63 (by decide) (x_istore_n (lv' := [(2, .inl 0), (0, .inr (.inr (11, o))), (1, .inl t1.1)]) hG (pc := 64) d216_64 (ml216 _ (by decide)) rfl (am_c_iconst hG (pc := 65) d216_65 (by decide) (x_istore_n (lv' := [(3, .inl 0), (2, .inl 0), (0, .inr (.inr (11, o))), (1, .inl t1.1)]) hG (pc := 66) d216_66 (ml216 _ (by decide)) rfl (x_lp h (fun r h1 h2 => (am_lvw (lv2 := [(0, .inr (.inr (11, o))), (2, .inl 0), (3, .inl 0)]) [2, 1, 0] rfl (w216_67 hG hr _ _ _ _ _ _ h1 (fun q2 e => am_q1 e h2 (fun h => am_q0 h)) (fun t2 e => am_q2 e h2 (fun h => (am_c_aload_n hG (pc := 107) d216_107 rfl (am_c_iconst hG (pc := 108) d216_108 (by decide) (x_put_i hG (pc := 109) d216_109 mo216 f11_372 (by decide) (x_lp h (fun r h1 h2 => (am_lvw (lv2 := [(0, .inr (.inr (11, o))), (2, .inl t2.1)]) [0, 1] rfl (w216_112 hG hr _ _ _  _ _ h1 (fun q3 e => am_q1 e h2 (fun h => am_q0 h)) (fun t3 e => am_q2 e h2 (fun h => (am_c_iload_n hG (pc := 140) d216_140 rfl (xq_zret hG (by decide) hr (pc := 141) d216_141 mr216 h (fun h => (am_q0 h)))))))))))))))))))))))) (fun h => (am_c_iconst hG (pc := 59) d216_59 (by decide) (x_goto (tgt := 64) hG (pc := 60) d216_60 rfl (x_istore_n (lv' := [(2, .inl 1), (0, .inr (.inr (11, o))), (1, .inl t1.1)]) hG (pc := 64) d216_64 (ml216 _ (by decide)) rfl (am_c_iconst hG (pc := 65) d216_65 (by decide) (x_istore_n (lv' := [(3, .inl 0), (2, .inl 1), (0, .inr (.inr (11, o))), (1, .inl t1.1)]) hG (pc := 66) d216_66 (ml216 _ (by decide)) rfl (x_lp h (fun r h1 h2 => (am_lvw (lv2 := [(0, .inr (.inr (11, o))), (2, .inl 1), (3, .inl 0)]) [2, 1, 0] rfl (w216_67 hG hr _ _ _ _ _ _ h1 (fun q4 e => am_q1 e h2 (fun h => am_q0 h)) (fun t4 e => am_q2 e h2 (fun h => (am_c_aload_n hG (pc := 107) d216_107 rfl (am_c_iconst hG (pc := 108) d216_108 (by decide) (x_put_i hG (pc := 109) d216_109 mo216 f11_372 (by decide) (x_lp h (fun r h1 h2 => (am_lvw (lv2 := [(0, .inr (.inr (11, o))), (2, .inl t4.1)]) [0, 1] rfl (w216_112 hG hr _ _ _  _ _ h1 (fun q5 e => am_q1 e h2 (fun h => am_q0 h)) (fun t5 e => am_q2 e h2 (fun h => (am_c_iload_n hG (pc := 140) d216_140 rfl (xq_zret hG (by decide) hr (pc := 141) d216_141 mr216 h (fun h => (am_q0 h)))))))))))))))))))))))))))))))))))))))))))))))))))))
/-! ChartPressModel.dot(III)V -/
theorem D217 (k : Nat) {pc : Nat} {i : Instr} (h : tbi217[k]? = some (pc, i)) (hs : am_isw i = false) {n : Nat} (hn : am_il i = n) : decode (am_mc 217) pc = .ok (i, n) := am_d2 (by decide) (by decide) rfl h hs hn
theorem d217_0 : decode (am_mc 217) 0 = .ok (.aload_n 0, 1) := D217 0 rfl rfl rfl
theorem d217_1 : decode (am_mc 217) 1 = .ok (.getfield 74, 3) := D217 1 rfl rfl rfl
theorem d217_4 : decode (am_mc 217) 4 = .ok (.bipush 96, 2) := D217 2 rfl rfl rfl
theorem d217_6 : decode (am_mc 217) 6 = .ok (.iload_n 2, 1) := D217 3 rfl rfl rfl
theorem d217_7 : decode (am_mc 217) 7 = .ok (.imul, 1) := D217 4 rfl rfl rfl
theorem d217_8 : decode (am_mc 217) 8 = .ok (.iload_n 1, 1) := D217 5 rfl rfl rfl
theorem d217_9 : decode (am_mc 217) 9 = .ok (.iadd, 1) := D217 6 rfl rfl rfl
theorem d217_10 : decode (am_mc 217) 10 = .ok (.iload_n 3, 1) := D217 7 rfl rfl rfl
theorem d217_11 : decode (am_mc 217) 11 = .ok (.iastore, 1) := D217 8 rfl rfl rfl
theorem d217_12 : decode (am_mc 217) 12 = .ok (.return_, 1) := D217 9 rfl rfl rfl
theorem ml217 : ∀ n, n < 4 → n < am_ml 217 := fun _ h => h
theorem mo217 : am_mo 217 = 11 := by decide +kernel
theorem rk217 : am_rk 217 = 0 := by decide +kernel
theorem rg217 : am_rcg 217 = 12 := by decide +kernel
theorem f11_74 : tb_f 11 74 = some (11, 50, 5, 16) := by decide +kernel
def fn217 (o : Nat) (a : Int) (b : Int) (c : Int) (μ : am_M) : Option (Int × am_M) := (if (0 : Int) ≤ w32 ((w32 (96 * b)) + a) ∧ w32 ((w32 (96 * b)) + a) < ((am_len (am_ref o 50) : Nat) : Int) then some (0, am_up μ (am_ref o 50) (w32 ((w32 (96 * b)) + a) : Int).toNat c) else none)
def sp217 : am_F := fun vs μ => am_aR 11 vs fun o vs => am_aI vs fun a vs => am_aI vs fun b vs => am_aI vs fun c vs => am_a0 vs (fn217 o a b c μ)
theorem e217 (o : Nat) (a : Int) (b : Int) (c : Int) (μ : am_M) : sp217 [.inr (.inr (11, o)), .inl a, .inl b, .inl c] μ = fn217 o a b c μ := am_aR_c.trans (am_aI_c.trans (am_aI_c.trans (am_aI_c.trans am_a0_c)))
theorem sd217 : am_Sd 217 sp217 := by
  refine am_Sd_of (by decide) (fun vs μ μ' x h hv hM => ?_)
  obtain ⟨o, vs0, rfl, h0⟩ := am_aR_s h
  obtain ⟨a, vs1, rfl, h1⟩ := am_aI_s h0
  obtain ⟨b, vs2, rfl, h2⟩ := am_aI_s h1
  obtain ⟨c, vs3, rfl, h3⟩ := am_aI_s h2
  obtain ⟨rfl, hz⟩ := am_a0_s h3
  refine ⟨Nat.le_of_ble_eq_true rfl, fun X C hG hr => ?_⟩
  have h := hz
  unfold fn217 at h
  exact (show am_W X C 217 _ 0 0 0 [(0, .inr (.inr (11, o))), (1, .inl a), (2, .inl b), (3, .inl c)] [] μ from (am_c_aload_n hG (pc := 0) d217_0 rfl (x_get_n (v := .inr (.inr (16, am_ref o 50))) hG (pc := 1) d217_1 mo217 f11_74 rfl (am_c_bipush hG (pc := 4) d217_4 (by decide) (am_c_iload_n hG (pc := 6) d217_6 rfl (am_c_imul hG (pc := 7) d217_7 (am_c_iload_n hG (pc := 8) d217_8 rfl (am_c_iadd hG (pc := 9) d217_9 (am_c_iload_n hG (pc := 10) d217_10 rfl (x_iastore hG (pc := 11) d217_11 h (fun h => (xq_vret hG (by decide) hr (pc := 12) d217_12 rk217 (am_q0 h)))))))))))))
/-! ChartPressModel.rowOf(J)I -/
theorem D218 (k : Nat) {pc : Nat} {i : Instr} (h : tbi218[k]? = some (pc, i)) (hs : am_isw i = false) {n : Nat} (hn : am_il i = n) : decode (am_mc 218) pc = .ok (i, n) := am_d2 (by decide) (by decide) rfl h hs hn
theorem d218_0 : decode (am_mc 218) 0 = .ok (.aload_n 0, 1) := D218 0 rfl rfl rfl
theorem d218_1 : decode (am_mc 218) 1 = .ok (.getfield 340, 3) := D218 1 rfl rfl rfl
theorem d218_4 : decode (am_mc 218) 4 = .ok (.aload_n 0, 1) := D218 2 rfl rfl rfl
theorem d218_5 : decode (am_mc 218) 5 = .ok (.getfield 337, 3) := D218 3 rfl rfl rfl
theorem d218_8 : decode (am_mc 218) 8 = .ok (.lsub, 1) := D218 4 rfl rfl rfl
theorem d218_9 : decode (am_mc 218) 9 = .ok (.ldc2_w 280, 3) := D218 5 rfl rfl rfl
theorem d218_12 : decode (am_mc 218) 12 = .ok (.lmul, 1) := D218 6 rfl rfl rfl
theorem d218_13 : decode (am_mc 218) 13 = .ok (.lstore_n 3, 1) := D218 7 rfl rfl rfl
theorem d218_14 : decode (am_mc 218) 14 = .ok (.lload_n 1, 1) := D218 8 rfl rfl rfl
theorem d218_15 : decode (am_mc 218) 15 = .ok (.aload_n 0, 1) := D218 9 rfl rfl rfl
theorem d218_16 : decode (am_mc 218) 16 = .ok (.getfield 337, 3) := D218 10 rfl rfl rfl
theorem d218_19 : decode (am_mc 218) 19 = .ok (.ldc2_w 280, 3) := D218 11 rfl rfl rfl
theorem d218_22 : decode (am_mc 218) 22 = .ok (.lmul, 1) := D218 12 rfl rfl rfl
theorem d218_23 : decode (am_mc 218) 23 = .ok (.lsub, 1) := D218 13 rfl rfl rfl
theorem d218_24 : decode (am_mc 218) 24 = .ok (.aload_n 0, 1) := D218 14 rfl rfl rfl
theorem d218_25 : decode (am_mc 218) 25 = .ok (.getfield 20, 3) := D218 15 rfl rfl rfl
theorem d218_28 : decode (am_mc 218) 28 = .ok (.bipush 10, 2) := D218 16 rfl rfl rfl
theorem d218_30 : decode (am_mc 218) 30 = .ok (.isub, 1) := D218 17 rfl rfl rfl
theorem d218_31 : decode (am_mc 218) 31 = .ok (.i2l, 1) := D218 18 rfl rfl rfl
theorem d218_32 : decode (am_mc 218) 32 = .ok (.lmul, 1) := D218 19 rfl rfl rfl
theorem d218_33 : decode (am_mc 218) 33 = .ok (.lstore 5, 2) := D218 20 rfl rfl rfl
theorem d218_35 : decode (am_mc 218) 35 = .ok (.aload_n 0, 1) := D218 21 rfl rfl rfl
theorem d218_36 : decode (am_mc 218) 36 = .ok (.getfield 20, 3) := D218 22 rfl rfl rfl
theorem d218_39 : decode (am_mc 218) 39 = .ok (.bipush 9, 2) := D218 23 rfl rfl rfl
theorem d218_41 : decode (am_mc 218) 41 = .ok (.isub, 1) := D218 24 rfl rfl rfl
theorem d218_42 : decode (am_mc 218) 42 = .ok (.ldc2_w 326, 3) := D218 25 rfl rfl rfl
theorem d218_45 : decode (am_mc 218) 45 = .ok (.lload 5, 2) := D218 26 rfl rfl rfl
theorem d218_47 : decode (am_mc 218) 47 = .ok (.lmul, 1) := D218 27 rfl rfl rfl
theorem d218_48 : decode (am_mc 218) 48 = .ok (.lload_n 3, 1) := D218 28 rfl rfl rfl
theorem d218_49 : decode (am_mc 218) 49 = .ok (.ladd, 1) := D218 29 rfl rfl rfl
theorem d218_50 : decode (am_mc 218) 50 = .ok (.ldc2_w 326, 3) := D218 30 rfl rfl rfl
theorem d218_53 : decode (am_mc 218) 53 = .ok (.lload_n 3, 1) := D218 31 rfl rfl rfl
theorem d218_54 : decode (am_mc 218) 54 = .ok (.lmul, 1) := D218 32 rfl rfl rfl
theorem d218_55 : decode (am_mc 218) 55 = .ok (.ldiv, 1) := D218 33 rfl rfl rfl
theorem d218_56 : decode (am_mc 218) 56 = .ok (.l2i, 1) := D218 34 rfl rfl rfl
theorem d218_57 : decode (am_mc 218) 57 = .ok (.isub, 1) := D218 35 rfl rfl rfl
theorem d218_58 : decode (am_mc 218) 58 = .ok (.ireturn, 1) := D218 36 rfl rfl rfl
theorem ml218 : ∀ n, n < 7 → n < am_ml 218 := fun _ h => h
theorem mo218 : am_mo 218 = 11 := by decide +kernel
theorem mr218 : am_mr 218 = some .int := by decide +kernel
theorem rg218 : am_rcg 218 = 12 := by decide +kernel
def fn218 (o : Nat) (a : Int) (μ : am_M) : Option (Int × am_M) := (if w64 (2 * (w64 ((w64 ((μ o 43) - (μ o 42))) * 27720))) = 0 then none else some (w32 ((w32 ((μ o 6) - 9)) - (o_l2i (o_divl (w64 ((w64 (2 * (w64 ((w64 (a - (w64 ((μ o 42) * 27720)))) * (w32 ((μ o 6) - 10)))))) + (w64 ((w64 ((μ o 43) - (μ o 42))) * 27720)))) (w64 (2 * (w64 ((w64 ((μ o 43) - (μ o 42))) * 27720))))))), μ))
def sp218 : am_F := fun vs μ => am_aR 11 vs fun o vs => am_aJ vs fun a vs => am_a0 vs (fn218 o a μ)
theorem e218 (o : Nat) (a : Int) (μ : am_M) : sp218 [.inr (.inr (11, o)), .inr (.inl a)] μ = fn218 o a μ := am_aR_c.trans (am_aJ_c.trans am_a0_c)
theorem sd218 : am_Sd 218 sp218 := by
  refine am_Sd_of (by decide) (fun vs μ μ' x h hv hM => ?_)
  obtain ⟨o, vs0, rfl, h0⟩ := am_aR_s h
  obtain ⟨a, vs1, rfl, h1⟩ := am_aJ_s h0
  obtain ⟨rfl, hz⟩ := am_a0_s h1
  refine ⟨Nat.le_of_ble_eq_true rfl, fun X C hG hr => ?_⟩
  have h := hz
  unfold fn218 at h
  exact (show am_W X C 218 _ 0 0 0 [(0, .inr (.inr (11, o))), (1, .inr (.inl a))] [] μ from (am_c_aload_n hG (pc := 0) d218_0 rfl (x_get_n (v := .inr (.inl (μ o 43))) hG (pc := 1) d218_1 mo218 f11_340 rfl (am_c_aload_n hG (pc := 4) d218_4 rfl (x_get_n (v := .inr (.inl (μ o 42))) hG (pc := 5) d218_5 mo218 f11_337 rfl (am_c_lsub hG (pc := 8) d218_8 (am_c_ldc2 hG (pc := 9) d218_9 (v := 27720) (by decide +kernel) (am_c_lmul hG (pc := 12) d218_12 (x_lstore_n (lv' := [(3, .inr (.inl (w64 ((w64 ((μ o 43) - (μ o 42))) * 27720)))), (0, .inr (.inr (11, o))), (1, .inr (.inl a))]) hG (pc := 13) d218_13 (ml218 _ (by decide)) rfl (am_c_lload_n hG (pc := 14) d218_14 rfl (am_c_aload_n hG (pc := 15) d218_15 rfl (x_get_n (v := .inr (.inl (μ o 42))) hG (pc := 16) d218_16 mo218 f11_337 rfl (am_c_ldc2 hG (pc := 19) d218_19 (v := 27720) (by decide +kernel) (am_c_lmul hG (pc := 22) d218_22 (am_c_lsub hG (pc := 23) d218_23 (am_c_aload_n hG (pc := 24) d218_24 rfl (x_get_n (v := .inl (μ o 6)) hG (pc := 25) d218_25 mo218 f11_20 rfl (am_c_bipush hG (pc := 28) d218_28 (by decide) (am_c_isub hG (pc := 30) d218_30 (am_c_i2l hG (pc := 31) d218_31 (am_c_lmul hG (pc := 32) d218_32 (x_lstore (lv' := [(5, .inr (.inl (w64 ((w64 (a - (w64 ((μ o 42) * 27720)))) * (w32 ((μ o 6) - 10)))))), (3, .inr (.inl (w64 ((w64 ((μ o 43) - (μ o 42))) * 27720)))), (0, .inr (.inr (11, o))), (1, .inr (.inl a))]) hG (pc := 33) d218_33 (ml218 _ (by decide)) rfl (am_c_aload_n hG (pc := 35) d218_35 rfl (x_get_n (v := .inl (μ o 6)) hG (pc := 36) d218_36 mo218 f11_20 rfl (am_c_bipush hG (pc := 39) d218_39 (by decide) (am_c_isub hG (pc := 41) d218_41 (am_c_ldc2 hG (pc := 42) d218_42 (v := 2) (by decide +kernel) (am_c_lload hG (pc := 45) d218_45 rfl (am_c_lmul hG (pc := 47) d218_47 (am_c_lload_n hG (pc := 48) d218_48 rfl (am_c_ladd hG (pc := 49) d218_49 (am_c_ldc2 hG (pc := 50) d218_50 (v := 2) (by decide +kernel) (am_c_lload_n hG (pc := 53) d218_53 rfl (am_c_lmul hG (pc := 54) d218_54 (x_ldiv hG (pc := 55) d218_55 h (fun h => (am_c_l2i hG (pc := 56) d218_56 (am_c_isub hG (pc := 57) d218_57 (xq_iret hG (by decide) hr (pc := 58) d218_58 mr218 (am_q0 h))))))))))))))))))))))))))))))))))))))))
/-! ChartPressModel.drawAxes()V -/
theorem D219 (k : Nat) {pc : Nat} {i : Instr} (h : tbi219[k]? = some (pc, i)) (hs : am_isw i = false) {n : Nat} (hn : am_il i = n) : decode (am_mc 219) pc = .ok (i, n) := am_d2 (by decide) (by decide) rfl h hs hn
theorem d219_0 : decode (am_mc 219) 0 = .ok (.iconst 1, 1) := D219 0 rfl rfl rfl
theorem d219_1 : decode (am_mc 219) 1 = .ok (.istore_n 1, 1) := D219 1 rfl rfl rfl
theorem d219_2 : decode (am_mc 219) 2 = .ok (.iload_n 1, 1) := D219 2 rfl rfl rfl
theorem d219_3 : decode (am_mc 219) 3 = .ok (.aload_n 0, 1) := D219 3 rfl rfl rfl
theorem d219_4 : decode (am_mc 219) 4 = .ok (.getfield 20, 3) := D219 4 rfl rfl rfl
theorem d219_7 : decode (am_mc 219) 7 = .ok (.bipush 9, 2) := D219 5 rfl rfl rfl
theorem d219_9 : decode (am_mc 219) 9 = .ok (.isub, 1) := D219 6 rfl rfl rfl
theorem d219_10 : decode (am_mc 219) 10 = .ok (.if_icmp .gt 21, 3) := D219 7 rfl rfl rfl
theorem d219_13 : decode (am_mc 219) 13 = .ok (.aload_n 0, 1) := D219 8 rfl rfl rfl
theorem d219_14 : decode (am_mc 219) 14 = .ok (.aload_n 0, 1) := D219 9 rfl rfl rfl
theorem d219_15 : decode (am_mc 219) 15 = .ok (.getfield 348, 3) := D219 10 rfl rfl rfl
theorem d219_18 : decode (am_mc 219) 18 = .ok (.iconst 1, 1) := D219 11 rfl rfl rfl
theorem d219_19 : decode (am_mc 219) 19 = .ok (.isub, 1) := D219 12 rfl rfl rfl
theorem d219_20 : decode (am_mc 219) 20 = .ok (.iload_n 1, 1) := D219 13 rfl rfl rfl
theorem d219_21 : decode (am_mc 219) 21 = .ok (.iconst 1, 1) := D219 14 rfl rfl rfl
theorem d219_22 : decode (am_mc 219) 22 = .ok (.invokevirtual 378, 3) := D219 15 rfl rfl rfl
theorem d219_25 : decode (am_mc 219) 25 = .ok (.iinc 1 1, 3) := D219 16 rfl rfl rfl
theorem d219_28 : decode (am_mc 219) 28 = .ok (.goto (-26), 3) := D219 17 rfl rfl rfl
theorem d219_31 : decode (am_mc 219) 31 = .ok (.aload_n 0, 1) := D219 18 rfl rfl rfl
theorem d219_32 : decode (am_mc 219) 32 = .ok (.getfield 348, 3) := D219 19 rfl rfl rfl
theorem d219_35 : decode (am_mc 219) 35 = .ok (.iconst 1, 1) := D219 20 rfl rfl rfl
theorem d219_36 : decode (am_mc 219) 36 = .ok (.isub, 1) := D219 21 rfl rfl rfl
theorem d219_37 : decode (am_mc 219) 37 = .ok (.istore_n 1, 1) := D219 22 rfl rfl rfl
theorem d219_38 : decode (am_mc 219) 38 = .ok (.iload_n 1, 1) := D219 23 rfl rfl rfl
theorem d219_39 : decode (am_mc 219) 39 = .ok (.aload_n 0, 1) := D219 24 rfl rfl rfl
theorem d219_40 : decode (am_mc 219) 40 = .ok (.getfield 16, 3) := D219 25 rfl rfl rfl
theorem d219_43 : decode (am_mc 219) 43 = .ok (.iconst 2, 1) := D219 26 rfl rfl rfl
theorem d219_44 : decode (am_mc 219) 44 = .ok (.isub, 1) := D219 27 rfl rfl rfl
theorem d219_45 : decode (am_mc 219) 45 = .ok (.if_icmp .gt 22, 3) := D219 28 rfl rfl rfl
theorem d219_48 : decode (am_mc 219) 48 = .ok (.aload_n 0, 1) := D219 29 rfl rfl rfl
theorem d219_49 : decode (am_mc 219) 49 = .ok (.iload_n 1, 1) := D219 30 rfl rfl rfl
theorem d219_50 : decode (am_mc 219) 50 = .ok (.aload_n 0, 1) := D219 31 rfl rfl rfl
theorem d219_51 : decode (am_mc 219) 51 = .ok (.getfield 20, 3) := D219 32 rfl rfl rfl
theorem d219_54 : decode (am_mc 219) 54 = .ok (.bipush 8, 2) := D219 33 rfl rfl rfl
theorem d219_56 : decode (am_mc 219) 56 = .ok (.isub, 1) := D219 34 rfl rfl rfl
theorem d219_57 : decode (am_mc 219) 57 = .ok (.iconst 1, 1) := D219 35 rfl rfl rfl
theorem d219_58 : decode (am_mc 219) 58 = .ok (.invokevirtual 378, 3) := D219 36 rfl rfl rfl
theorem d219_61 : decode (am_mc 219) 61 = .ok (.iinc 1 1, 3) := D219 37 rfl rfl rfl
theorem d219_64 : decode (am_mc 219) 64 = .ok (.goto (-26), 3) := D219 38 rfl rfl rfl
theorem d219_67 : decode (am_mc 219) 67 = .ok (.iconst 0, 1) := D219 39 rfl rfl rfl
theorem d219_68 : decode (am_mc 219) 68 = .ok (.istore_n 1, 1) := D219 40 rfl rfl rfl
theorem d219_69 : decode (am_mc 219) 69 = .ok (.iload_n 1, 1) := D219 41 rfl rfl rfl
theorem d219_70 : decode (am_mc 219) 70 = .ok (.aload_n 0, 1) := D219 42 rfl rfl rfl
theorem d219_71 : decode (am_mc 219) 71 = .ok (.getfield 343, 3) := D219 43 rfl rfl rfl
theorem d219_74 : decode (am_mc 219) 74 = .ok (.if_icmp .ge 40, 3) := D219 44 rfl rfl rfl
theorem d219_77 : decode (am_mc 219) 77 = .ok (.aload_n 0, 1) := D219 45 rfl rfl rfl
theorem d219_78 : decode (am_mc 219) 78 = .ok (.aload_n 0, 1) := D219 46 rfl rfl rfl
theorem d219_79 : decode (am_mc 219) 79 = .ok (.getfield 348, 3) := D219 47 rfl rfl rfl
theorem d219_82 : decode (am_mc 219) 82 = .ok (.iconst 2, 1) := D219 48 rfl rfl rfl
theorem d219_83 : decode (am_mc 219) 83 = .ok (.isub, 1) := D219 49 rfl rfl rfl
theorem d219_84 : decode (am_mc 219) 84 = .ok (.aload_n 0, 1) := D219 50 rfl rfl rfl
theorem d219_85 : decode (am_mc 219) 85 = .ok (.aload_n 0, 1) := D219 51 rfl rfl rfl
theorem d219_86 : decode (am_mc 219) 86 = .ok (.getfield 337, 3) := D219 52 rfl rfl rfl
theorem d219_89 : decode (am_mc 219) 89 = .ok (.iload_n 1, 1) := D219 53 rfl rfl rfl
theorem d219_90 : decode (am_mc 219) 90 = .ok (.i2l, 1) := D219 54 rfl rfl rfl
theorem d219_91 : decode (am_mc 219) 91 = .ok (.aload_n 0, 1) := D219 55 rfl rfl rfl
theorem d219_92 : decode (am_mc 219) 92 = .ok (.getfield 330, 3) := D219 56 rfl rfl rfl
theorem d219_95 : decode (am_mc 219) 95 = .ok (.lmul, 1) := D219 57 rfl rfl rfl
theorem d219_96 : decode (am_mc 219) 96 = .ok (.ladd, 1) := D219 58 rfl rfl rfl
theorem d219_97 : decode (am_mc 219) 97 = .ok (.ldc2_w 280, 3) := D219 59 rfl rfl rfl
theorem d219_100 : decode (am_mc 219) 100 = .ok (.lmul, 1) := D219 60 rfl rfl rfl
theorem d219_101 : decode (am_mc 219) 101 = .ok (.invokevirtual 382, 3) := D219 61 rfl rfl rfl
theorem d219_104 : decode (am_mc 219) 104 = .ok (.iconst 1, 1) := D219 62 rfl rfl rfl
theorem d219_105 : decode (am_mc 219) 105 = .ok (.invokevirtual 378, 3) := D219 63 rfl rfl rfl
theorem d219_108 : decode (am_mc 219) 108 = .ok (.iinc 1 1, 3) := D219 64 rfl rfl rfl
theorem d219_111 : decode (am_mc 219) 111 = .ok (.goto (-42), 3) := D219 65 rfl rfl rfl
theorem d219_114 : decode (am_mc 219) 114 = .ok (.return_, 1) := D219 66 rfl rfl rfl
theorem ml219 : ∀ n, n < 2 → n < am_ml 219 := fun _ h => h
theorem mo219 : am_mo 219 = 11 := by decide +kernel
theorem rk219 : am_rk 219 = 0 := by decide +kernel
theorem rg219 : am_rcg 219 = 12 := by decide +kernel
theorem m11_378 : tb_m 11 378 = some (217, 4, 0, 0) := by decide +kernel
theorem m11_382 : tb_m 11 382 = some (218, 2, 1, 0) := by decide +kernel
theorem dp219_217 : am_md 217 + 1 ≤ am_md 219 ∧ 8 + (am_ml 217 + 11) + am_lr 217 ≤ am_lr 219 := by decide +kernel
theorem dp219_218 : am_md 218 + 1 ≤ am_md 219 ∧ 8 + (am_ml 218 + 11) + am_lr 218 ≤ am_lr 219 := by decide +kernel
def L219_2 (l0 : Nat) : Nat → Int → am_M → Option ((Int × am_M) ⊕ (Int × am_M))
  | 0, _, _ => none
  | n + 1, l1, μ => (if w32 ((μ l0 6) - 9) < l1 then (some (.inr (l1, μ))) else (am_op (fn217 l0 (w32 ((μ l0 45) - 1)) l1 1 μ) (fun z1 => (L219_2 l0 n (w32 (l1 + 1)) z1.2))))
theorem w219_2 {X : am_K} {C : am_C} {Q : State → Prop} (hG : am_G X C 219 0 0 (0, fun _ => 0)) (hr : match X with | (_, _, _, _, _, _, _, _, meth, _) => meth.sig.returnType = am_mr 219 ∧ meth.locks = false) (l0 : Nat) : ∀ (n : Nat) (l1 : Int) (μ : am_M) (r : (Int × am_M) ⊕ (Int × am_M)), L219_2 l0 n l1 μ = some r → (∀ q, r = .inl q → Q = am_E X C 219 q.1 q.2) → (∀ t, r = .inr t → am_W X C 219 Q 0 0 31 [(0, .inr (.inr (11, l0)))] [] t.2) → am_W X C 219 Q 0 0 2 [(0, .inr (.inr (11, l0))), (1, .inl l1)] [] μ := by
  intro n
  induction n with
  | zero => intro l1 μ r h; cases h
  | succ n ih =>
    intro l1 μ r h hI hX
    unfold L219_2 at h
    exact (am_c_iload_n hG (pc := 2) d219_2 rfl (am_c_aload_n hG (pc := 3) d219_3 rfl (x_get_n (v := .inl (μ l0 6)) hG (pc := 4) d219_4 mo219 f11_20 rfl (am_c_bipush hG (pc := 7) d219_7 (by decide) (am_c_isub hG (pc := 9) d219_9 (x_icmp_gt (tgt := 31) hG (pc := 10) d219_10 rfl h (fun h => (am_lvw (lv2 := [(0, .inr (.inr (11, l0)))]) [0] rfl (hX (l1, μ) (Option.some.inj h).symm))) (fun h => (am_c_aload_n hG (pc := 13) d219_13 rfl (am_c_aload_n hG (pc := 14) d219_14 rfl (x_get_n (v := .inl (μ l0 45)) hG (pc := 15) d219_15 mo219 f11_348 rfl (am_c_iconst hG (pc := 18) d219_18 (by decide) (am_c_isub hG (pc := 19) d219_19 (am_c_iload_n hG (pc := 20) d219_20 rfl (am_c_iconst hG (pc := 21) d219_21 (by decide) (x_virtual_v (t := 11) (o := l0) (as2 := [.inl (w32 ((μ l0 45) - 1)), .inl l1, .inl 1]) (rest := []) hG (pc := 22) d219_22 mo219 m11_378 (by decide) dp219_217 rfl rfl (Nat.le_of_ble_eq_true rfl) (Nat.le_of_ble_eq_true rfl) rg217 sd217 (e217 _ _ _ _ _) h (fun z1 h => (x_iinc (lv' := [(1, .inl (w32 (l1 + 1))), (0, .inr (.inr (11, l0)))]) hG (pc := 25) d219_25 rfl (ml219 _ (by decide)) rfl (x_goto (tgt := 2) hG (pc := 28) d219_28 rfl (am_lvw (lv2 := [(0, .inr (.inr (11, l0))), (1, .inl (w32 (l1 + 1)))]) [1, 0] rfl (ih _ _ _ h hI hX))))))))))))))))))))
def L219_38 (l0 : Nat) : Nat → Int → am_M → Option ((Int × am_M) ⊕ (Int × am_M))
  | 0, _, _ => none
  | n + 1, l1, μ => (if w32 ((μ l0 5) - 2) < l1 then (some (.inr (l1, μ))) else (am_op (fn217 l0 l1 (w32 ((μ l0 6) - 8)) 1 μ) (fun z2 => (L219_38 l0 n (w32 (l1 + 1)) z2.2))))
theorem w219_38 {X : am_K} {C : am_C} {Q : State → Prop} (hG : am_G X C 219 0 0 (0, fun _ => 0)) (hr : match X with | (_, _, _, _, _, _, _, _, meth, _) => meth.sig.returnType = am_mr 219 ∧ meth.locks = false) (l0 : Nat) : ∀ (n : Nat) (l1 : Int) (μ : am_M) (r : (Int × am_M) ⊕ (Int × am_M)), L219_38 l0 n l1 μ = some r → (∀ q, r = .inl q → Q = am_E X C 219 q.1 q.2) → (∀ t, r = .inr t → am_W X C 219 Q 0 0 67 [(0, .inr (.inr (11, l0)))] [] t.2) → am_W X C 219 Q 0 0 38 [(0, .inr (.inr (11, l0))), (1, .inl l1)] [] μ := by
  intro n
  induction n with
  | zero => intro l1 μ r h; cases h
  | succ n ih =>
    intro l1 μ r h hI hX
    unfold L219_38 at h
    exact (am_c_iload_n hG (pc := 38) d219_38 rfl (am_c_aload_n hG (pc := 39) d219_39 rfl (x_get_n (v := .inl (μ l0 5)) hG (pc := 40) d219_40 mo219 f11_16 rfl (am_c_iconst hG (pc := 43) d219_43 (by decide) (am_c_isub hG (pc := 44) d219_44 (x_icmp_gt (tgt := 67) hG (pc := 45) d219_45 rfl h (fun h => (am_lvw (lv2 := [(0, .inr (.inr (11, l0)))]) [0] rfl (hX (l1, μ) (Option.some.inj h).symm))) (fun h => (am_c_aload_n hG (pc := 48) d219_48 rfl (am_c_iload_n hG (pc := 49) d219_49 rfl (am_c_aload_n hG (pc := 50) d219_50 rfl (x_get_n (v := .inl (μ l0 6)) hG (pc := 51) d219_51 mo219 f11_20 rfl (am_c_bipush hG (pc := 54) d219_54 (by decide) (am_c_isub hG (pc := 56) d219_56 (am_c_iconst hG (pc := 57) d219_57 (by decide) (x_virtual_v (t := 11) (o := l0) (as2 := [.inl l1, .inl (w32 ((μ l0 6) - 8)), .inl 1]) (rest := []) hG (pc := 58) d219_58 mo219 m11_378 (by decide) dp219_217 rfl rfl (Nat.le_of_ble_eq_true rfl) (Nat.le_of_ble_eq_true rfl) rg217 sd217 (e217 _ _ _ _ _) h (fun z2 h => (x_iinc (lv' := [(1, .inl (w32 (l1 + 1))), (0, .inr (.inr (11, l0)))]) hG (pc := 61) d219_61 rfl (ml219 _ (by decide)) rfl (x_goto (tgt := 38) hG (pc := 64) d219_64 rfl (am_lvw (lv2 := [(0, .inr (.inr (11, l0))), (1, .inl (w32 (l1 + 1)))]) [1, 0] rfl (ih _ _ _ h hI hX))))))))))))))))))))
def L219_69 (l0 : Nat) : Nat → Int → am_M → Option ((Int × am_M) ⊕ (Int × am_M))
  | 0, _, _ => none
  | n + 1, l1, μ => (if l1 < μ l0 44 then (am_op (fn218 l0 (w64 ((w64 ((μ l0 42) + (w64 (l1 * (μ l0 41))))) * 27720)) μ) (fun z3 => (am_op (fn217 l0 (w32 ((μ l0 45) - 2)) z3.1 1 z3.2) (fun z4 => (L219_69 l0 n (w32 (l1 + 1)) z4.2))))) else (some (.inr (l1, μ))))
theorem w219_69 {X : am_K} {C : am_C} {Q : State → Prop} (hG : am_G X C 219 0 0 (0, fun _ => 0)) (hr : match X with | (_, _, _, _, _, _, _, _, meth, _) => meth.sig.returnType = am_mr 219 ∧ meth.locks = false) (l0 : Nat) : ∀ (n : Nat) (l1 : Int) (μ : am_M) (r : (Int × am_M) ⊕ (Int × am_M)), L219_69 l0 n l1 μ = some r → (∀ q, r = .inl q → Q = am_E X C 219 q.1 q.2) → (∀ t, r = .inr t → am_W X C 219 Q 0 0 114 [] [] t.2) → am_W X C 219 Q 0 0 69 [(0, .inr (.inr (11, l0))), (1, .inl l1)] [] μ := by
  intro n
  induction n with
  | zero => intro l1 μ r h; cases h
  | succ n ih =>
    intro l1 μ r h hI hX
    unfold L219_69 at h
    exact (am_c_iload_n hG (pc := 69) d219_69 rfl (am_c_aload_n hG (pc := 70) d219_70 rfl (x_get_n (v := .inl (μ l0 44)) hG (pc := 71) d219_71 mo219 f11_343 rfl (x_icmp_ge (tgt := 114) hG (pc := 74) d219_74 rfl h (fun h => (am_lvw (lv2 := []) [] rfl (hX (l1, μ) (Option.some.inj h).symm))) (fun h => (am_c_aload_n hG (pc := 77) d219_77 rfl (am_c_aload_n hG (pc := 78) d219_78 rfl (x_get_n (v := .inl (μ l0 45)) hG (pc := 79) d219_79 mo219 f11_348 rfl (am_c_iconst hG (pc := 82) d219_82 (by decide) (am_c_isub hG (pc := 83) d219_83 (am_c_aload_n hG (pc := 84) d219_84 rfl (am_c_aload_n hG (pc := 85) d219_85 rfl (x_get_n (v := .inr (.inl (μ l0 42))) hG (pc := 86) d219_86 mo219 f11_337 rfl (am_c_iload_n hG (pc := 89) d219_89 rfl (am_c_i2l hG (pc := 90) d219_90 (am_c_aload_n hG (pc := 91) d219_91 rfl (x_get_n (v := .inr (.inl (μ l0 41))) hG (pc := 92) d219_92 mo219 f11_330 rfl (am_c_lmul hG (pc := 95) d219_95 (am_c_ladd hG (pc := 96) d219_96 (am_c_ldc2 hG (pc := 97) d219_97 (v := 27720) (by decide +kernel) (am_c_lmul hG (pc := 100) d219_100 (x_virtual_i (t := 11) (o := l0) (as2 := [.inr (.inl (w64 ((w64 ((μ l0 42) + (w64 (l1 * (μ l0 41))))) * 27720)))]) (rest := [.inl (w32 ((μ l0 45) - 2)), .inr (.inr (11, l0))]) hG (pc := 101) d219_101 mo219 m11_382 (by decide) dp219_218 rfl rfl (Nat.le_of_ble_eq_true rfl) (Nat.le_of_ble_eq_true rfl) rg218 sd218 (e218 _ _ _) h (fun z3 h => (am_c_iconst hG (pc := 104) d219_104 (by decide) (x_virtual_v (t := 11) (o := l0) (as2 := [.inl (w32 ((μ l0 45) - 2)), .inl z3.1, .inl 1]) (rest := []) hG (pc := 105) d219_105 mo219 m11_378 (by decide) dp219_217 rfl rfl (Nat.le_of_ble_eq_true rfl) (Nat.le_of_ble_eq_true rfl) rg217 sd217 (e217 _ _ _ _ _) h (fun z4 h => (x_iinc (lv' := [(1, .inl (w32 (l1 + 1))), (0, .inr (.inr (11, l0)))]) hG (pc := 108) d219_108 rfl (ml219 _ (by decide)) rfl (x_goto (tgt := 69) hG (pc := 111) d219_111 rfl (am_lvw (lv2 := [(0, .inr (.inr (11, l0))), (1, .inl (w32 (l1 + 1)))]) [1, 0] rfl (ih _ _ _ h hI hX))))))))))))))))))))))))))))))
def fn219 (o : Nat) (μ : am_M) : Option (Int × am_M) := (am_op (L219_2 o am_fuel 1 μ) (fun s => am_lp s (fun q1 => some q1) (fun t1 => (am_op (L219_38 o am_fuel (w32 ((t1.2 o 45) - 1)) t1.2) (fun s => am_lp s (fun q2 => some q2) (fun t2 => (am_op (L219_69 o am_fuel 0 t2.2) (fun s => am_lp s (fun q3 => some q3) (fun t3 => some (0, t3.2))))))))))
def sp219 : am_F := fun vs μ => am_aR 11 vs fun o vs => am_a0 vs (fn219 o μ)
theorem e219 (o : Nat) (μ : am_M) : sp219 [.inr (.inr (11, o))] μ = fn219 o μ := am_aR_c.trans am_a0_c
theorem sd219 : am_Sd 219 sp219 := by
  refine am_Sd_of (by decide) (fun vs μ μ' x h hv hM => ?_)
  obtain ⟨o, vs0, rfl, h0⟩ := am_aR_s h
  obtain ⟨rfl, hz⟩ := am_a0_s h0
  refine ⟨Nat.le_of_ble_eq_true rfl, fun X C hG hr => ?_⟩
  have h := hz
  unfold fn219 at h
  exact (show am_W X C 219 _ 0 0 0 [(0, .inr (.inr (11, o)))] [] μ from (am_c_iconst hG (pc := 0) d219_0 (by decide) (x_istore_n (lv' := [(1, .inl 1), (0, .inr (.inr (11, o)))]) hG (pc := 1) d219_1 (ml219 _ (by decide)) rfl (x_lp h (fun r h1 h2 => (am_lvw (lv2 := [(0, .inr (.inr (11, o))), (1, .inl 1)]) [1, 0] rfl (w219_2 hG hr _ _ _ _ _ h1 (fun q1 e => am_q1 e h2 (fun h => am_q0 h)) (fun t1 e => am_q2 e h2 (fun h => (am_c_aload_n hG (pc := 31) d219_31 rfl (x_get_n (v := .inl (t1.2 o 45)) hG (pc := 32) d219_32 mo219 f11_348 rfl (am_c_iconst hG (pc := 35) d219_35 (by decide) (am_c_isub hG (pc := 36) d219_36 (x_istore_n (lv' := [(1, .inl (w32 ((t1.2 o 45) - 1))), (0, .inr (.inr (11, o)))]) hG (pc := 37) d219_37 (ml219 _ (by decide)) rfl (x_lp h (fun r h1 h2 => (am_lvw (lv2 := [(0, .inr (.inr (11, o))), (1, .inl (w32 ((t1.2 o 45) - 1)))]) [1, 0] rfl (w219_38 hG hr _ _ _ _ _ h1 (fun q2 e => am_q1 e h2 (fun h => am_q0 h)) (fun t2 e => am_q2 e h2 (fun h => (am_c_iconst hG (pc := 67) d219_67 (by decide) (x_istore_n (lv' := [(1, .inl 0), (0, .inr (.inr (11, o)))]) hG (pc := 68) d219_68 (ml219 _ (by decide)) rfl (x_lp h (fun r h1 h2 => (am_lvw (lv2 := [(0, .inr (.inr (11, o))), (1, .inl 0)]) [1, 0] rfl (w219_69 hG hr _ _ _ _ _ h1 (fun q3 e => am_q1 e h2 (fun h => am_q0 h)) (fun t3 e => am_q2 e h2 (fun h => (xq_vret hG (by decide) hr (pc := 114) d219_114 rk219 (am_q0 h))))))))))))))))))))))))))))))
/-! ChartPressModel.glyph(III)V -/
theorem D220 (k : Nat) {pc : Nat} {i : Instr} (h : tbi220[k]? = some (pc, i)) (hs : am_isw i = false) {n : Nat} (hn : am_il i = n) : decode (am_mc 220) pc = .ok (i, n) := am_d2 (by decide) (by decide) rfl h hs hn
theorem d220_0 : decode (am_mc 220) 0 = .ok (.iload_n 3, 1) := D220 0 rfl rfl rfl
theorem d220_1 : decode (am_mc 220) 1 = .ok (.sipush 7919, 3) := D220 1 rfl rfl rfl
theorem d220_4 : decode (am_mc 220) 4 = .ok (.imul, 1) := D220 2 rfl rfl rfl
theorem d220_5 : decode (am_mc 220) 5 = .ok (.iconst 3, 1) := D220 3 rfl rfl rfl
theorem d220_6 : decode (am_mc 220) 6 = .ok (.ishr, 1) := D220 4 rfl rfl rfl
theorem d220_7 : decode (am_mc 220) 7 = .ok (.istore 4, 2) := D220 5 rfl rfl rfl
theorem d220_9 : decode (am_mc 220) 9 = .ok (.iconst 0, 1) := D220 6 rfl rfl rfl
theorem d220_10 : decode (am_mc 220) 10 = .ok (.istore 5, 2) := D220 7 rfl rfl rfl
theorem d220_12 : decode (am_mc 220) 12 = .ok (.iload 5, 2) := D220 8 rfl rfl rfl
theorem d220_14 : decode (am_mc 220) 14 = .ok (.bipush 15, 2) := D220 9 rfl rfl rfl
theorem d220_16 : decode (am_mc 220) 16 = .ok (.if_icmp .ge 37, 3) := D220 10 rfl rfl rfl
theorem d220_19 : decode (am_mc 220) 19 = .ok (.iload 4, 2) := D220 11 rfl rfl rfl
theorem d220_21 : decode (am_mc 220) 21 = .ok (.iload 5, 2) := D220 12 rfl rfl rfl
theorem d220_23 : decode (am_mc 220) 23 = .ok (.ishr, 1) := D220 13 rfl rfl rfl
theorem d220_24 : decode (am_mc 220) 24 = .ok (.iconst 1, 1) := D220 14 rfl rfl rfl
theorem d220_25 : decode (am_mc 220) 25 = .ok (.iand, 1) := D220 15 rfl rfl rfl
theorem d220_26 : decode (am_mc 220) 26 = .ok (.iconst 1, 1) := D220 16 rfl rfl rfl
theorem d220_27 : decode (am_mc 220) 27 = .ok (.if_icmp .ne 20, 3) := D220 17 rfl rfl rfl
theorem d220_30 : decode (am_mc 220) 30 = .ok (.aload_n 0, 1) := D220 18 rfl rfl rfl
theorem d220_31 : decode (am_mc 220) 31 = .ok (.iload_n 1, 1) := D220 19 rfl rfl rfl
theorem d220_32 : decode (am_mc 220) 32 = .ok (.iload 5, 2) := D220 20 rfl rfl rfl
theorem d220_34 : decode (am_mc 220) 34 = .ok (.iconst 3, 1) := D220 21 rfl rfl rfl
theorem d220_35 : decode (am_mc 220) 35 = .ok (.irem, 1) := D220 22 rfl rfl rfl
theorem d220_36 : decode (am_mc 220) 36 = .ok (.iadd, 1) := D220 23 rfl rfl rfl
theorem d220_37 : decode (am_mc 220) 37 = .ok (.iload_n 2, 1) := D220 24 rfl rfl rfl
theorem d220_38 : decode (am_mc 220) 38 = .ok (.iload 5, 2) := D220 25 rfl rfl rfl
theorem d220_40 : decode (am_mc 220) 40 = .ok (.iconst 3, 1) := D220 26 rfl rfl rfl
theorem d220_41 : decode (am_mc 220) 41 = .ok (.idiv, 1) := D220 27 rfl rfl rfl
theorem d220_42 : decode (am_mc 220) 42 = .ok (.iadd, 1) := D220 28 rfl rfl rfl
theorem d220_43 : decode (am_mc 220) 43 = .ok (.iconst 2, 1) := D220 29 rfl rfl rfl
theorem d220_44 : decode (am_mc 220) 44 = .ok (.invokevirtual 378, 3) := D220 30 rfl rfl rfl
theorem d220_47 : decode (am_mc 220) 47 = .ok (.iinc 5 1, 3) := D220 31 rfl rfl rfl
theorem d220_50 : decode (am_mc 220) 50 = .ok (.goto (-38), 3) := D220 32 rfl rfl rfl
theorem d220_53 : decode (am_mc 220) 53 = .ok (.return_, 1) := D220 33 rfl rfl rfl
theorem ml220 : ∀ n, n < 6 → n < am_ml 220 := fun _ h => h
theorem mo220 : am_mo 220 = 11 := by decide +kernel
theorem rk220 : am_rk 220 = 0 := by decide +kernel
theorem rg220 : am_rcg 220 = 12 := by decide +kernel
theorem dp220_217 : am_md 217 + 1 ≤ am_md 220 ∧ 8 + (am_ml 217 + 11) + am_lr 217 ≤ am_lr 220 := by decide +kernel
def L220_12 (l0 : Nat) (l1 : Int) (l2 : Int) (l4 : Int) : Nat → Int → am_M → Option ((Int × am_M) ⊕ (Int × am_M))
  | 0, _, _ => none
  | n + 1, l5, μ => (if l5 < 15 then (if o_and (o_shr l4 l5) 1 = 1 then (am_op (fn217 l0 (w32 (l1 + (o_rem l5 3))) (w32 (l2 + (o_div l5 3))) 2 μ) (fun z1 => (L220_12 l0 l1 l2 l4 n (w32 (l5 + 1)) z1.2))) else (L220_12 l0 l1 l2 l4 n (w32 (l5 + 1)) μ)) else (some (.inr (l5, μ))))
theorem w220_12 {X : am_K} {C : am_C} {Q : State → Prop} (hG : am_G X C 220 0 0 (0, fun _ => 0)) (hr : match X with | (_, _, _, _, _, _, _, _, meth, _) => meth.sig.returnType = am_mr 220 ∧ meth.locks = false) (l0 : Nat) (l1 : Int) (l2 : Int) (l4 : Int) : ∀ (n : Nat) (l5 : Int) (μ : am_M) (r : (Int × am_M) ⊕ (Int × am_M)), L220_12 l0 l1 l2 l4 n l5 μ = some r → (∀ q, r = .inl q → Q = am_E X C 220 q.1 q.2) → (∀ t, r = .inr t → am_W X C 220 Q 0 0 53 [] [] t.2) → am_W X C 220 Q 0 0 12 [(0, .inr (.inr (11, l0))), (1, .inl l1), (2, .inl l2), (4, .inl l4), (5, .inl l5)] [] μ := by
  intro n
  induction n with
  | zero => intro l5 μ r h; cases h
  | succ n ih =>
    intro l5 μ r h hI hX
    unfold L220_12 at h
    exact (am_c_iload hG (pc := 12) d220_12 rfl (am_c_bipush hG (pc := 14) d220_14 (by decide) (x_icmp_ge (tgt := 53) hG (pc := 16) d220_16 rfl h (fun h => (am_lvw (lv2 := []) [] rfl (hX (l5, μ) (Option.some.inj h).symm))) (fun h => (am_c_iload hG (pc := 19) d220_19 rfl (am_c_iload hG (pc := 21) d220_21 rfl (am_c_ishr hG (pc := 23) d220_23 (am_c_iconst hG (pc := 24) d220_24 (by decide) (am_c_iand hG (pc := 25) d220_25 (am_c_iconst hG (pc := 26) d220_26 (by decide) (x_icmp_ne (tgt := 47) hG (pc := 27) d220_27 rfl h (fun h => (x_iinc (lv' := [(5, .inl (w32 (l5 + 1))), (0, .inr (.inr (11, l0))), (1, .inl l1), (2, .inl l2), (4, .inl l4)]) hG (pc := 47) d220_47 rfl (ml220 _ (by decide)) rfl (x_goto (tgt := 12) hG (pc := 50) d220_50 rfl (am_lvw (lv2 := [(0, .inr (.inr (11, l0))), (1, .inl l1), (2, .inl l2), (4, .inl l4), (5, .inl (w32 (l5 + 1)))]) [1, 2, 3, 4, 0] rfl (ih _ _ _ h hI hX))))) (fun h => (am_c_aload_n hG (pc := 30) d220_30 rfl (am_c_iload_n hG (pc := 31) d220_31 rfl (am_c_iload hG (pc := 32) d220_32 rfl (am_c_iconst hG (pc := 34) d220_34 (by decide) (am_c_irem hG (pc := 35) d220_35 (by decide) (am_c_iadd hG (pc := 36) d220_36 (am_c_iload_n hG (pc := 37) d220_37 rfl (am_c_iload hG (pc := 38) d220_38 rfl (am_c_iconst hG (pc := 40) d220_40 (by decide) (am_c_idiv hG (pc := 41) d220_41 (by decide) (am_c_iadd hG (pc := 42) d220_42 (am_c_iconst hG (pc := 43) d220_43 (by decide) (x_virtual_v (t := 11) (o := l0) (as2 := [.inl (w32 (l1 + (o_rem l5 3))), .inl (w32 (l2 + (o_div l5 3))), .inl 2]) (rest := []) hG (pc := 44) d220_44 mo220 m11_378 (by decide) dp220_217 rfl rfl (Nat.le_of_ble_eq_true rfl) (Nat.le_of_ble_eq_true rfl) rg217 sd217 (e217 _ _ _ _ _) h (fun z1 h => (x_iinc (lv' := [(5, .inl (w32 (l5 + 1))), (0, .inr (.inr (11, l0))), (1, .inl l1), (2, .inl l2), (4, .inl l4)]) hG (pc := 47) d220_47 rfl (ml220 _ (by decide)) rfl (x_goto (tgt := 12) hG (pc := 50) d220_50 rfl (am_lvw (lv2 := [(0, .inr (.inr (11, l0))), (1, .inl l1), (2, .inl l2), (4, .inl l4), (5, .inl (w32 (l5 + 1)))]) [1, 2, 3, 4, 0] rfl (ih _ _ _ h hI hX))))))))))))))))))))))))))))))
def fn220 (o : Nat) (a : Int) (b : Int) (c : Int) (μ : am_M) : Option (Int × am_M) := (am_op (L220_12 o a b (o_shr (w32 (c * 7919)) 3) am_fuel 0 μ) (fun s => am_lp s (fun q1 => some q1) (fun t1 => some (0, t1.2))))
def sp220 : am_F := fun vs μ => am_aR 11 vs fun o vs => am_aI vs fun a vs => am_aI vs fun b vs => am_aI vs fun c vs => am_a0 vs (fn220 o a b c μ)
theorem e220 (o : Nat) (a : Int) (b : Int) (c : Int) (μ : am_M) : sp220 [.inr (.inr (11, o)), .inl a, .inl b, .inl c] μ = fn220 o a b c μ := am_aR_c.trans (am_aI_c.trans (am_aI_c.trans (am_aI_c.trans am_a0_c)))
theorem sd220 : am_Sd 220 sp220 := by
  refine am_Sd_of (by decide) (fun vs μ μ' x h hv hM => ?_)
  obtain ⟨o, vs0, rfl, h0⟩ := am_aR_s h
  obtain ⟨a, vs1, rfl, h1⟩ := am_aI_s h0
  obtain ⟨b, vs2, rfl, h2⟩ := am_aI_s h1
  obtain ⟨c, vs3, rfl, h3⟩ := am_aI_s h2
  obtain ⟨rfl, hz⟩ := am_a0_s h3
  refine ⟨Nat.le_of_ble_eq_true rfl, fun X C hG hr => ?_⟩
  have h := hz
  unfold fn220 at h
  exact (show am_W X C 220 _ 0 0 0 [(0, .inr (.inr (11, o))), (1, .inl a), (2, .inl b), (3, .inl c)] [] μ from (am_c_iload_n hG (pc := 0) d220_0 rfl (am_c_sipush hG (pc := 1) d220_1 (by decide) (am_c_imul hG (pc := 4) d220_4 (am_c_iconst hG (pc := 5) d220_5 (by decide) (am_c_ishr hG (pc := 6) d220_6 (x_istore (lv' := [(4, .inl (o_shr (w32 (c * 7919)) 3)), (0, .inr (.inr (11, o))), (1, .inl a), (2, .inl b), (3, .inl c)]) hG (pc := 7) d220_7 (ml220 _ (by decide)) rfl (am_c_iconst hG (pc := 9) d220_9 (by decide) (x_istore (lv' := [(5, .inl 0), (4, .inl (o_shr (w32 (c * 7919)) 3)), (0, .inr (.inr (11, o))), (1, .inl a), (2, .inl b), (3, .inl c)]) hG (pc := 10) d220_10 (ml220 _ (by decide)) rfl (x_lp h (fun r h1 h2 => (am_lvw (lv2 := [(0, .inr (.inr (11, o))), (1, .inl a), (2, .inl b), (4, .inl (o_shr (w32 (c * 7919)) 3)), (5, .inl 0)]) [2, 3, 4, 1, 0] rfl (w220_12 hG hr _ _ _ _ _ _ _ _ h1 (fun q1 e => am_q1 e h2 (fun h => am_q0 h)) (fun t1 e => am_q2 e h2 (fun h => (xq_vret hG (by decide) hr (pc := 53) d220_53 rk220 (am_q0 h)))))))))))))))))
/-! ChartPressModel.drawLabels()V -/
theorem D221 (k : Nat) {pc : Nat} {i : Instr} (h : tbi221[k]? = some (pc, i)) (hs : am_isw i = false) {n : Nat} (hn : am_il i = n) : decode (am_mc 221) pc = .ok (i, n) := am_d2 (by decide) (by decide) rfl h hs hn
theorem d221_0 : decode (am_mc 221) 0 = .ok (.aload_n 0, 1) := D221 0 rfl rfl rfl
theorem d221_1 : decode (am_mc 221) 1 = .ok (.getfield 20, 3) := D221 1 rfl rfl rfl
theorem d221_4 : decode (am_mc 221) 4 = .ok (.bipush 9, 2) := D221 2 rfl rfl rfl
theorem d221_6 : decode (am_mc 221) 6 = .ok (.iadd, 1) := D221 3 rfl rfl rfl
theorem d221_7 : decode (am_mc 221) 7 = .ok (.istore_n 1, 1) := D221 4 rfl rfl rfl
theorem d221_8 : decode (am_mc 221) 8 = .ok (.iconst 0, 1) := D221 5 rfl rfl rfl
theorem d221_9 : decode (am_mc 221) 9 = .ok (.istore_n 2, 1) := D221 6 rfl rfl rfl
theorem d221_10 : decode (am_mc 221) 10 = .ok (.iload_n 2, 1) := D221 7 rfl rfl rfl
theorem d221_11 : decode (am_mc 221) 11 = .ok (.aload_n 0, 1) := D221 8 rfl rfl rfl
theorem d221_12 : decode (am_mc 221) 12 = .ok (.getfield 343, 3) := D221 9 rfl rfl rfl
theorem d221_15 : decode (am_mc 221) 15 = .ok (.if_icmp .ge 116, 3) := D221 10 rfl rfl rfl
theorem d221_18 : decode (am_mc 221) 18 = .ok (.aload_n 0, 1) := D221 11 rfl rfl rfl
theorem d221_19 : decode (am_mc 221) 19 = .ok (.aload_n 0, 1) := D221 12 rfl rfl rfl
theorem d221_20 : decode (am_mc 221) 20 = .ok (.getfield 337, 3) := D221 13 rfl rfl rfl
theorem d221_23 : decode (am_mc 221) 23 = .ok (.iload_n 2, 1) := D221 14 rfl rfl rfl
theorem d221_24 : decode (am_mc 221) 24 = .ok (.i2l, 1) := D221 15 rfl rfl rfl
theorem d221_25 : decode (am_mc 221) 25 = .ok (.aload_n 0, 1) := D221 16 rfl rfl rfl
theorem d221_26 : decode (am_mc 221) 26 = .ok (.getfield 330, 3) := D221 17 rfl rfl rfl
theorem d221_29 : decode (am_mc 221) 29 = .ok (.lmul, 1) := D221 18 rfl rfl rfl
theorem d221_30 : decode (am_mc 221) 30 = .ok (.ladd, 1) := D221 19 rfl rfl rfl
theorem d221_31 : decode (am_mc 221) 31 = .ok (.ldc2_w 280, 3) := D221 20 rfl rfl rfl
theorem d221_34 : decode (am_mc 221) 34 = .ok (.lmul, 1) := D221 21 rfl rfl rfl
theorem d221_35 : decode (am_mc 221) 35 = .ok (.invokevirtual 382, 3) := D221 22 rfl rfl rfl
theorem d221_38 : decode (am_mc 221) 38 = .ok (.istore_n 3, 1) := D221 23 rfl rfl rfl
theorem d221_39 : decode (am_mc 221) 39 = .ok (.aload_n 0, 1) := D221 24 rfl rfl rfl
theorem d221_40 : decode (am_mc 221) 40 = .ok (.iload_n 2, 1) := D221 25 rfl rfl rfl
theorem d221_41 : decode (am_mc 221) 41 = .ok (.invokevirtual 369, 3) := D221 26 rfl rfl rfl
theorem d221_44 : decode (am_mc 221) 44 = .ok (.istore 4, 2) := D221 27 rfl rfl rfl
theorem d221_46 : decode (am_mc 221) 46 = .ok (.iload_n 3, 1) := D221 28 rfl rfl rfl
theorem d221_47 : decode (am_mc 221) 47 = .ok (.iconst 2, 1) := D221 29 rfl rfl rfl
theorem d221_48 : decode (am_mc 221) 48 = .ok (.isub, 1) := D221 30 rfl rfl rfl
theorem d221_49 : decode (am_mc 221) 49 = .ok (.ifCond .lt 76, 3) := D221 31 rfl rfl rfl
theorem d221_52 : decode (am_mc 221) 52 = .ok (.iload_n 3, 1) := D221 32 rfl rfl rfl
theorem d221_53 : decode (am_mc 221) 53 = .ok (.iconst 2, 1) := D221 33 rfl rfl rfl
theorem d221_54 : decode (am_mc 221) 54 = .ok (.iadd, 1) := D221 34 rfl rfl rfl
theorem d221_55 : decode (am_mc 221) 55 = .ok (.aload_n 0, 1) := D221 35 rfl rfl rfl
theorem d221_56 : decode (am_mc 221) 56 = .ok (.getfield 20, 3) := D221 36 rfl rfl rfl
theorem d221_59 : decode (am_mc 221) 59 = .ok (.if_icmp .ge 66, 3) := D221 37 rfl rfl rfl
theorem d221_62 : decode (am_mc 221) 62 = .ok (.iload_n 1, 1) := D221 38 rfl rfl rfl
theorem d221_63 : decode (am_mc 221) 63 = .ok (.iconst 2, 1) := D221 39 rfl rfl rfl
theorem d221_64 : decode (am_mc 221) 64 = .ok (.isub, 1) := D221 40 rfl rfl rfl
theorem d221_65 : decode (am_mc 221) 65 = .ok (.iload_n 3, 1) := D221 41 rfl rfl rfl
theorem d221_66 : decode (am_mc 221) 66 = .ok (.iconst 2, 1) := D221 42 rfl rfl rfl
theorem d221_67 : decode (am_mc 221) 67 = .ok (.iadd, 1) := D221 43 rfl rfl rfl
theorem d221_68 : decode (am_mc 221) 68 = .ok (.isub, 1) := D221 44 rfl rfl rfl
theorem d221_69 : decode (am_mc 221) 69 = .ok (.iconst 2, 1) := D221 45 rfl rfl rfl
theorem d221_70 : decode (am_mc 221) 70 = .ok (.if_icmp .lt 55, 3) := D221 46 rfl rfl rfl
theorem d221_73 : decode (am_mc 221) 73 = .ok (.iconst 0, 1) := D221 47 rfl rfl rfl
theorem d221_74 : decode (am_mc 221) 74 = .ok (.istore 5, 2) := D221 48 rfl rfl rfl
theorem d221_76 : decode (am_mc 221) 76 = .ok (.iload 5, 2) := D221 49 rfl rfl rfl
theorem d221_78 : decode (am_mc 221) 78 = .ok (.iload 4, 2) := D221 50 rfl rfl rfl
theorem d221_80 : decode (am_mc 221) 80 = .ok (.if_icmp .ge 43, 3) := D221 51 rfl rfl rfl
theorem d221_83 : decode (am_mc 221) 83 = .ok (.aload_n 0, 1) := D221 52 rfl rfl rfl
theorem d221_84 : decode (am_mc 221) 84 = .ok (.aload_n 0, 1) := D221 53 rfl rfl rfl
theorem d221_85 : decode (am_mc 221) 85 = .ok (.getfield 348, 3) := D221 54 rfl rfl rfl
theorem d221_88 : decode (am_mc 221) 88 = .ok (.iconst 3, 1) := D221 55 rfl rfl rfl
theorem d221_89 : decode (am_mc 221) 89 = .ok (.isub, 1) := D221 56 rfl rfl rfl
theorem d221_90 : decode (am_mc 221) 90 = .ok (.iconst 4, 1) := D221 57 rfl rfl rfl
theorem d221_91 : decode (am_mc 221) 91 = .ok (.iload 4, 2) := D221 58 rfl rfl rfl
theorem d221_93 : decode (am_mc 221) 93 = .ok (.imul, 1) := D221 59 rfl rfl rfl
theorem d221_94 : decode (am_mc 221) 94 = .ok (.iconst 1, 1) := D221 60 rfl rfl rfl
theorem d221_95 : decode (am_mc 221) 95 = .ok (.isub, 1) := D221 61 rfl rfl rfl
theorem d221_96 : decode (am_mc 221) 96 = .ok (.isub, 1) := D221 62 rfl rfl rfl
theorem d221_97 : decode (am_mc 221) 97 = .ok (.iconst 1, 1) := D221 63 rfl rfl rfl
theorem d221_98 : decode (am_mc 221) 98 = .ok (.iadd, 1) := D221 64 rfl rfl rfl
theorem d221_99 : decode (am_mc 221) 99 = .ok (.iconst 4, 1) := D221 65 rfl rfl rfl
theorem d221_100 : decode (am_mc 221) 100 = .ok (.iload 5, 2) := D221 66 rfl rfl rfl
theorem d221_102 : decode (am_mc 221) 102 = .ok (.imul, 1) := D221 67 rfl rfl rfl
theorem d221_103 : decode (am_mc 221) 103 = .ok (.iadd, 1) := D221 68 rfl rfl rfl
theorem d221_104 : decode (am_mc 221) 104 = .ok (.iload_n 3, 1) := D221 69 rfl rfl rfl
theorem d221_105 : decode (am_mc 221) 105 = .ok (.iconst 2, 1) := D221 70 rfl rfl rfl
theorem d221_106 : decode (am_mc 221) 106 = .ok (.isub, 1) := D221 71 rfl rfl rfl
theorem d221_107 : decode (am_mc 221) 107 = .ok (.aload_n 0, 1) := D221 72 rfl rfl rfl
theorem d221_108 : decode (am_mc 221) 108 = .ok (.getfield 71, 3) := D221 73 rfl rfl rfl
theorem d221_111 : decode (am_mc 221) 111 = .ok (.iload 5, 2) := D221 74 rfl rfl rfl
theorem d221_113 : decode (am_mc 221) 113 = .ok (.iaload, 1) := D221 75 rfl rfl rfl
theorem d221_114 : decode (am_mc 221) 114 = .ok (.invokevirtual 386, 3) := D221 76 rfl rfl rfl
theorem d221_117 : decode (am_mc 221) 117 = .ok (.iinc 5 1, 3) := D221 77 rfl rfl rfl
theorem d221_120 : decode (am_mc 221) 120 = .ok (.goto (-44), 3) := D221 78 rfl rfl rfl
theorem d221_123 : decode (am_mc 221) 123 = .ok (.iload_n 3, 1) := D221 79 rfl rfl rfl
theorem d221_124 : decode (am_mc 221) 124 = .ok (.istore_n 1, 1) := D221 80 rfl rfl rfl
theorem d221_125 : decode (am_mc 221) 125 = .ok (.iinc 2 1, 3) := D221 81 rfl rfl rfl
theorem d221_128 : decode (am_mc 221) 128 = .ok (.goto (-118), 3) := D221 82 rfl rfl rfl
theorem d221_131 : decode (am_mc 221) 131 = .ok (.iconst 0, 1) := D221 83 rfl rfl rfl
theorem d221_132 : decode (am_mc 221) 132 = .ok (.istore_n 2, 1) := D221 84 rfl rfl rfl
theorem d221_133 : decode (am_mc 221) 133 = .ok (.iload_n 2, 1) := D221 85 rfl rfl rfl
theorem d221_134 : decode (am_mc 221) 134 = .ok (.aload_n 0, 1) := D221 86 rfl rfl rfl
theorem d221_135 : decode (am_mc 221) 135 = .ok (.getfield 310, 3) := D221 87 rfl rfl rfl
theorem d221_138 : decode (am_mc 221) 138 = .ok (.if_icmp .ge 88, 3) := D221 88 rfl rfl rfl
theorem d221_141 : decode (am_mc 221) 141 = .ok (.aload_n 0, 1) := D221 89 rfl rfl rfl
theorem d221_142 : decode (am_mc 221) 142 = .ok (.aload_n 0, 1) := D221 90 rfl rfl rfl
theorem d221_143 : decode (am_mc 221) 143 = .ok (.getfield 57, 3) := D221 91 rfl rfl rfl
theorem d221_146 : decode (am_mc 221) 146 = .ok (.aload_n 0, 1) := D221 92 rfl rfl rfl
theorem d221_147 : decode (am_mc 221) 147 = .ok (.getfield 64, 3) := D221 93 rfl rfl rfl
theorem d221_150 : decode (am_mc 221) 150 = .ok (.iload_n 2, 1) := D221 94 rfl rfl rfl
theorem d221_151 : decode (am_mc 221) 151 = .ok (.iaload, 1) := D221 95 rfl rfl rfl
theorem d221_152 : decode (am_mc 221) 152 = .ok (.iaload, 1) := D221 96 rfl rfl rfl
theorem d221_153 : decode (am_mc 221) 153 = .ok (.aload_n 0, 1) := D221 97 rfl rfl rfl
theorem d221_154 : decode (am_mc 221) 154 = .ok (.getfield 263, 3) := D221 98 rfl rfl rfl
theorem d221_157 : decode (am_mc 221) 157 = .ok (.invokevirtual 133, 3) := D221 99 rfl rfl rfl
theorem d221_160 : decode (am_mc 221) 160 = .ok (.istore_n 3, 1) := D221 100 rfl rfl rfl
theorem d221_161 : decode (am_mc 221) 161 = .ok (.iconst 0, 1) := D221 101 rfl rfl rfl
theorem d221_162 : decode (am_mc 221) 162 = .ok (.istore 4, 2) := D221 102 rfl rfl rfl
theorem d221_164 : decode (am_mc 221) 164 = .ok (.iload 4, 2) := D221 103 rfl rfl rfl
theorem d221_166 : decode (am_mc 221) 166 = .ok (.aload_n 0, 1) := D221 104 rfl rfl rfl
theorem d221_167 : decode (am_mc 221) 167 = .ok (.getfield 27, 3) := D221 105 rfl rfl rfl
theorem d221_170 : decode (am_mc 221) 170 = .ok (.iload_n 3, 1) := D221 106 rfl rfl rfl
theorem d221_171 : decode (am_mc 221) 171 = .ok (.iaload, 1) := D221 107 rfl rfl rfl
theorem d221_172 : decode (am_mc 221) 172 = .ok (.if_icmp .ge 44, 3) := D221 108 rfl rfl rfl
theorem d221_175 : decode (am_mc 221) 175 = .ok (.aload_n 0, 1) := D221 109 rfl rfl rfl
theorem d221_176 : decode (am_mc 221) 176 = .ok (.aload_n 0, 1) := D221 110 rfl rfl rfl
theorem d221_177 : decode (am_mc 221) 177 = .ok (.iload_n 2, 1) := D221 111 rfl rfl rfl
theorem d221_178 : decode (am_mc 221) 178 = .ok (.invokevirtual 366, 3) := D221 112 rfl rfl rfl
theorem d221_181 : decode (am_mc 221) 181 = .ok (.iconst 4, 1) := D221 113 rfl rfl rfl
theorem d221_182 : decode (am_mc 221) 182 = .ok (.iload 4, 2) := D221 114 rfl rfl rfl
theorem d221_184 : decode (am_mc 221) 184 = .ok (.imul, 1) := D221 115 rfl rfl rfl
theorem d221_185 : decode (am_mc 221) 185 = .ok (.iadd, 1) := D221 116 rfl rfl rfl
theorem d221_186 : decode (am_mc 221) 186 = .ok (.aload_n 0, 1) := D221 117 rfl rfl rfl
theorem d221_187 : decode (am_mc 221) 187 = .ok (.getfield 20, 3) := D221 118 rfl rfl rfl
theorem d221_190 : decode (am_mc 221) 190 = .ok (.bipush 6, 2) := D221 119 rfl rfl rfl
theorem d221_192 : decode (am_mc 221) 192 = .ok (.isub, 1) := D221 120 rfl rfl rfl
theorem d221_193 : decode (am_mc 221) 193 = .ok (.aload_n 0, 1) := D221 121 rfl rfl rfl
theorem d221_194 : decode (am_mc 221) 194 = .ok (.getfield 30, 3) := D221 122 rfl rfl rfl
theorem d221_197 : decode (am_mc 221) 197 = .ok (.aload_n 0, 1) := D221 123 rfl rfl rfl
theorem d221_198 : decode (am_mc 221) 198 = .ok (.getfield 23, 3) := D221 124 rfl rfl rfl
theorem d221_201 : decode (am_mc 221) 201 = .ok (.iload_n 3, 1) := D221 125 rfl rfl rfl
theorem d221_202 : decode (am_mc 221) 202 = .ok (.iaload, 1) := D221 126 rfl rfl rfl
theorem d221_203 : decode (am_mc 221) 203 = .ok (.iload 4, 2) := D221 127 rfl rfl rfl
theorem d221_205 : decode (am_mc 221) 205 = .ok (.iadd, 1) := D221 128 rfl rfl rfl
theorem d221_206 : decode (am_mc 221) 206 = .ok (.caload, 1) := D221 129 rfl rfl rfl
theorem d221_207 : decode (am_mc 221) 207 = .ok (.invokevirtual 386, 3) := D221 130 rfl rfl rfl
theorem d221_210 : decode (am_mc 221) 210 = .ok (.iinc 4 1, 3) := D221 131 rfl rfl rfl
theorem d221_213 : decode (am_mc 221) 213 = .ok (.goto (-49), 3) := D221 132 rfl rfl rfl
theorem d221_216 : decode (am_mc 221) 216 = .ok (.iload_n 2, 1) := D221 133 rfl rfl rfl
theorem d221_217 : decode (am_mc 221) 217 = .ok (.aload_n 0, 1) := D221 134 rfl rfl rfl
theorem d221_218 : decode (am_mc 221) 218 = .ok (.getfield 372, 3) := D221 135 rfl rfl rfl
theorem d221_221 : decode (am_mc 221) 221 = .ok (.iadd, 1) := D221 136 rfl rfl rfl
theorem d221_222 : decode (am_mc 221) 222 = .ok (.istore_n 2, 1) := D221 137 rfl rfl rfl
theorem d221_223 : decode (am_mc 221) 223 = .ok (.goto (-90), 3) := D221 138 rfl rfl rfl
theorem d221_226 : decode (am_mc 221) 226 = .ok (.return_, 1) := D221 139 rfl rfl rfl
theorem ml221 : ∀ n, n < 6 → n < am_ml 221 := fun _ h => h
theorem mo221 : am_mo 221 = 11 := by decide +kernel
theorem rk221 : am_rk 221 = 0 := by decide +kernel
theorem rg221 : am_rcg 221 = 12 := by decide +kernel
theorem m11_386 : tb_m 11 386 = some (220, 4, 0, 0) := by decide +kernel
theorem dp221_173 : am_md 173 + 1 ≤ am_md 221 ∧ 8 + (am_ml 173 + 11) + am_lr 173 ≤ am_lr 221 := by decide +kernel
theorem dp221_208 : am_md 208 + 1 ≤ am_md 221 ∧ 8 + (am_ml 208 + 11) + am_lr 208 ≤ am_lr 221 := by decide +kernel
theorem dp221_214 : am_md 214 + 1 ≤ am_md 221 ∧ 8 + (am_ml 214 + 11) + am_lr 214 ≤ am_lr 221 := by decide +kernel
theorem dp221_218 : am_md 218 + 1 ≤ am_md 221 ∧ 8 + (am_ml 218 + 11) + am_lr 218 ≤ am_lr 221 := by decide +kernel
theorem dp221_220 : am_md 220 + 1 ≤ am_md 221 ∧ 8 + (am_ml 220 + 11) + am_lr 220 ≤ am_lr 221 := by decide +kernel
def L221_76 (l0 : Nat) (l2 : Int) (l3 : Int) (l4 : Int) : Nat → Int → am_M → Option ((Int × am_M) ⊕ (Int × am_M))
  | 0, _, _ => none
  | n + 1, l5, μ => (if l5 < l4 then (if (0 : Int) ≤ l5 ∧ l5 < ((am_len (am_ref l0 48) : Nat) : Int) then (am_op (fn220 l0 (w32 ((w32 ((w32 ((w32 ((μ l0 45) - 3)) - (w32 ((w32 (4 * l4)) - 1)))) + 1)) + (w32 (4 * l5)))) (w32 (l3 - 2)) (μ (am_ref l0 48) (l5 : Int).toNat) μ) (fun z3 => (L221_76 l0 l2 l3 l4 n (w32 (l5 + 1)) z3.2))) else none) else (some (.inr (l5, μ))))
theorem w221_76 {X : am_K} {C : am_C} {Q : State → Prop} (hG : am_G X C 221 0 0 (0, fun _ => 0)) (hr : match X with | (_, _, _, _, _, _, _, _, meth, _) => meth.sig.returnType = am_mr 221 ∧ meth.locks = false) (l0 : Nat) (l2 : Int) (l3 : Int) (l4 : Int) : ∀ (n : Nat) (l5 : Int) (μ : am_M) (r : (Int × am_M) ⊕ (Int × am_M)), L221_76 l0 l2 l3 l4 n l5 μ = some r → (∀ q, r = .inl q → Q = am_E X C 221 q.1 q.2) → (∀ t, r = .inr t → am_W X C 221 Q 0 0 123 [(0, .inr (.inr (11, l0))), (2, .inl l2), (3, .inl l3)] [] t.2) → am_W X C 221 Q 0 0 76 [(0, .inr (.inr (11, l0))), (2, .inl l2), (3, .inl l3), (4, .inl l4), (5, .inl l5)] [] μ := by
  intro n
  induction n with
  | zero => intro l5 μ r h; cases h
  | succ n ih =>
    intro l5 μ r h hI hX
    unfold L221_76 at h
    exact (am_c_iload hG (pc := 76) d221_76 rfl (am_c_iload hG (pc := 78) d221_78 rfl (x_icmp_ge (tgt := 123) hG (pc := 80) d221_80 rfl h (fun h => (am_lvw (lv2 := [(0, .inr (.inr (11, l0))), (2, .inl l2), (3, .inl l3)]) [0, 1, 2] rfl (hX (l5, μ) (Option.some.inj h).symm))) (fun h => (am_c_aload_n hG (pc := 83) d221_83 rfl (am_c_aload_n hG (pc := 84) d221_84 rfl (x_get_n (v := .inl (μ l0 45)) hG (pc := 85) d221_85 mo221 f11_348 rfl (am_c_iconst hG (pc := 88) d221_88 (by decide) (am_c_isub hG (pc := 89) d221_89 (am_c_iconst hG (pc := 90) d221_90 (by decide) (am_c_iload hG (pc := 91) d221_91 rfl (am_c_imul hG (pc := 93) d221_93 (am_c_iconst hG (pc := 94) d221_94 (by decide) (am_c_isub hG (pc := 95) d221_95 (am_c_isub hG (pc := 96) d221_96 (am_c_iconst hG (pc := 97) d221_97 (by decide) (am_c_iadd hG (pc := 98) d221_98 (am_c_iconst hG (pc := 99) d221_99 (by decide) (am_c_iload hG (pc := 100) d221_100 rfl (am_c_imul hG (pc := 102) d221_102 (am_c_iadd hG (pc := 103) d221_103 (am_c_iload_n hG (pc := 104) d221_104 rfl (am_c_iconst hG (pc := 105) d221_105 (by decide) (am_c_isub hG (pc := 106) d221_106 (am_c_aload_n hG (pc := 107) d221_107 rfl (x_get_n (v := .inr (.inr (16, am_ref l0 48))) hG (pc := 108) d221_108 mo221 f11_71 rfl (am_c_iload hG (pc := 111) d221_111 rfl (x_iaload hG (pc := 113) d221_113 h (fun h => (x_virtual_v (t := 11) (o := l0) (as2 := [.inl (w32 ((w32 ((w32 ((w32 ((μ l0 45) - 3)) - (w32 ((w32 (4 * l4)) - 1)))) + 1)) + (w32 (4 * l5)))), .inl (w32 (l3 - 2)), .inl (μ (am_ref l0 48) (l5 : Int).toNat)]) (rest := []) hG (pc := 114) d221_114 mo221 m11_386 (by decide) dp221_220 rfl rfl (Nat.le_of_ble_eq_true rfl) (Nat.le_of_ble_eq_true rfl) rg220 sd220 (e220 _ _ _ _ _) h (fun z3 h => (x_iinc (lv' := [(5, .inl (w32 (l5 + 1))), (0, .inr (.inr (11, l0))), (2, .inl l2), (3, .inl l3), (4, .inl l4)]) hG (pc := 117) d221_117 rfl (ml221 _ (by decide)) rfl (x_goto (tgt := 76) hG (pc := 120) d221_120 rfl (am_lvw (lv2 := [(0, .inr (.inr (11, l0))), (2, .inl l2), (3, .inl l3), (4, .inl l4), (5, .inl (w32 (l5 + 1)))]) [1, 2, 3, 4, 0] rfl (ih _ _ _ h hI hX)))))))))))))))))))))))))))))))))))
def L221_10 (l0 : Nat) : Nat → Int → Int → am_M → Option ((Int × am_M) ⊕ (Int × Int × am_M))
  | 0, _, _, _ => none
  | n + 1, l1, l2, μ => (if l2 < μ l0 44 then (am_op (fn218 l0 (w64 ((w64 ((μ l0 42) + (w64 (l2 * (μ l0 41))))) * 27720)) μ) (fun z1 => (am_op (fn208 l0 l2 z1.2) (fun z2 => (if w32 (z1.1 - 2) < 0 then (L221_10 l0 n l1 (w32 (l2 + 1)) z2.2) else (if w32 (z1.1 + 2) < z2.2 l0 6 then (if w32 ((w32 (l1 - 2)) - (w32 (z1.1 + 2))) < 2 then (L221_10 l0 n l1 (w32 (l2 + 1)) z2.2) else (am_op (L221_76 l0 l2 z1.1 z2.1 am_fuel 0 z2.2) (fun s => am_lp s (fun q1 => some (.inl q1)) (fun t1 => (L221_10 l0 n z1.1 (w32 (l2 + 1)) t1.2))))) else (L221_10 l0 n l1 (w32 (l2 + 1)) z2.2))))))) else (some (.inr (l1, l2, μ))))
theorem w221_10 {X : am_K} {C : am_C} {Q : State → Prop} (hG : am_G X C 221 0 0 (0, fun _ => 0)) (hr : match X with | (_, _, _, _, _, _, _, _, meth, _) => meth.sig.returnType = am_mr 221 ∧ meth.locks = false) (l0 : Nat) : ∀ (n : Nat) (l1 : Int) (l2 : Int) (μ : am_M) (r : (Int × am_M) ⊕ (Int × Int × am_M)), L221_10 l0 n l1 l2 μ = some r → (∀ q, r = .inl q → Q = am_E X C 221 q.1 q.2) → (∀ t, r = .inr t → am_W X C 221 Q 0 0 131 [(0, .inr (.inr (11, l0)))] [] t.2.2) → am_W X C 221 Q 0 0 10 [(0, .inr (.inr (11, l0))), (1, .inl l1), (2, .inl l2)] [] μ := by
  intro n
  induction n with
  | zero => intro l1 l2 μ r h; cases h
  | succ n ih =>
    intro l1 l2 μ r h hI hX
    unfold L221_10 at h
    exact (am_c_iload_n hG (pc := 10) d221_10 rfl (am_c_aload_n hG (pc := 11) d221_11 rfl (x_get_n (v := .inl (μ l0 44)) hG (pc := 12) d221_12 mo221 f11_343 rfl (x_icmp_ge (tgt := 131) hG (pc := 15) d221_15 rfl h (fun h => (am_lvw (lv2 := [(0, .inr (.inr (11, l0)))]) [0] rfl (hX (l1, l2, μ) (Option.some.inj h).symm))) (fun h => (am_c_aload_n hG (pc := 18) d221_18 rfl (am_c_aload_n hG (pc := 19) d221_19 rfl (x_get_n (v := .inr (.inl (μ l0 42))) hG (pc := 20) d221_20 mo221 f11_337 rfl (am_c_iload_n hG (pc := 23) d221_23 rfl (am_c_i2l hG (pc := 24) d221_24 (am_c_aload_n hG (pc := 25) d221_25 rfl (x_get_n (v := .inr (.inl (μ l0 41))) hG (pc := 26) d221_26 mo221 f11_330 rfl (am_c_lmul hG (pc := 29) d221_29 (am_c_ladd hG (pc := 30) d221_30 (am_c_ldc2 hG (pc := 31) d221_31 (v := 27720) (by decide +kernel) (am_c_lmul hG (pc := 34) d221_34 (x_virtual_i (t := 11) (o := l0) (as2 := [.inr (.inl (w64 ((w64 ((μ l0 42) + (w64 (l2 * (μ l0 41))))) * 27720)))]) (rest := []) hG (pc := 35) d221_35 mo221 m11_382 (by decide) dp221_218 rfl rfl (Nat.le_of_ble_eq_true rfl) (Nat.le_of_ble_eq_true rfl) rg218 sd218 (e218 _ _ _) h (fun z1 h => (x_istore_n (lv' := [(3, .inl z1.1), (0, .inr (.inr (11, l0))), (1, .inl l1), (2, .inl l2)]) hG (pc := 38) d221_38 (ml221 _ (by decide)) rfl (am_c_aload_n hG (pc := 39) d221_39 rfl (am_c_iload_n hG (pc := 40) d221_40 rfl (x_virtual_i (t := 11) (o := l0) (as2 := [.inl l2]) (rest := []) hG (pc := 41) d221_41 mo221 m11_369 (by decide) dp221_208 rfl rfl (Nat.le_of_ble_eq_true rfl) (Nat.le_of_ble_eq_true rfl) rg208 sd208 (e208 _ _ _) h (fun z2 h => (x_istore (lv' := [(4, .inl z2.1), (3, .inl z1.1), (0, .inr (.inr (11, l0))), (1, .inl l1), (2, .inl l2)]) hG (pc := 44) d221_44 (ml221 _ (by decide)) rfl (am_c_iload_n hG (pc := 46) d221_46 rfl (am_c_iconst hG (pc := 47) d221_47 (by decide) (am_c_isub hG (pc := 48) d221_48 (x_if_lt (tgt := 125) hG (pc := 49) d221_49 rfl h (fun h => (x_iinc (lv' := [(2, .inl (w32 (l2 + 1))), (4, .inl z2.1), (3, .inl z1.1), (0, .inr (.inr (11, l0))), (1, .inl l1)]) hG (pc := 125) d221_125 rfl (ml221 _ (by decide)) rfl (x_goto (tgt := 10) hG (pc := 128) d221_128 rfl (am_lvw (lv2 := [(0, .inr (.inr (11, l0))), (1, .inl l1), (2, .inl (w32 (l2 + 1)))]) [3, 4, 0] rfl (ih _ _ _ _ h hI hX))))) (fun h => (am_c_iload_n hG (pc := 52) d221_52 rfl (am_c_iconst hG (pc := 53) d221_53 (by decide) (am_c_iadd hG (pc := 54) d221_54 (am_c_aload_n hG (pc := 55) d221_55 rfl (x_get_n (v := .inl (z2.2 l0 6)) hG (pc := 56) d221_56 mo221 f11_20 rfl (x_icmp_ge (tgt := 125) hG (pc := 59) d221_59 rfl h (fun h => (x_iinc (lv' := [(2, .inl (w32 (l2 + 1))), (4, .inl z2.1), (3, .inl z1.1), (0, .inr (.inr (11, l0))), (1, .inl l1)]) hG (pc := 125) d221_125 rfl (ml221 _ (by decide)) rfl (x_goto (tgt := 10) hG (pc := 128) d221_128 rfl (am_lvw (lv2 := [(0, .inr (.inr (11, l0))), (1, .inl l1), (2, .inl (w32 (l2 + 1)))]) [3, 4, 0] rfl (ih _ _ _ _ h hI hX))))) (fun h => (am_c_iload_n hG (pc := 62) d221_62 rfl (am_c_iconst hG (pc := 63) d221_63 (by decide) (am_c_isub hG (pc := 64) d221_64 (am_c_iload_n hG (pc := 65) d221_65 rfl (am_c_iconst hG (pc := 66) d221_66 (by decide) (am_c_iadd hG (pc := 67) d221_67 (am_c_isub hG (pc := 68) d221_68 (am_c_iconst hG (pc := 69) d221_69 (by decide) (x_icmp_lt (tgt := 125) hG (pc := 70) d221_70 rfl h (fun h => (x_iinc (lv' := [(2, .inl (w32 (l2 + 1))), (4, .inl z2.1), (3, .inl z1.1), (0, .inr (.inr (11, l0))), (1, .inl l1)]) hG (pc := 125) d221_125 rfl (ml221 _ (by decide)) rfl (x_goto (tgt := 10) hG (pc := 128) d221_128 rfl (am_lvw (lv2 := [(0, .inr (.inr (11, l0))), (1, .inl l1), (2, .inl (w32 (l2 + 1)))]) [3, 4, 0] rfl (ih _ _ _ _ h hI hX))))) (fun h => (am_c_iconst hG (pc := 73) d221_73 (by decide) (x_istore (lv' := [(5, .inl 0), (4, .inl z2.1), (3, .inl z1.1), (0, .inr (.inr (11, l0))), (1, .inl l1), (2, .inl l2)]) hG (pc := 74) d221_74 (ml221 _ (by decide)) rfl (x_lp h (fun r h1 h2 => (am_lvw (lv2 := [(0, .inr (.inr (11, l0))), (2, .inl l2), (3, .inl z1.1), (4, .inl z2.1), (5, .inl 0)]) [3, 5, 2, 1, 0] rfl (w221_76 hG hr _ _ _ _ _ _ _ _ h1 (fun q1 e => am_q1 e h2 (fun h => hI _ (Option.some.inj h).symm)) (fun t1 e => am_q2 e h2 (fun h => (am_c_iload_n hG (pc := 123) d221_123 rfl (x_istore_n (lv' := [(1, .inl z1.1), (0, .inr (.inr (11, l0))), (2, .inl l2), (3, .inl z1.1)]) hG (pc := 124) d221_124 (ml221 _ (by decide)) rfl (x_iinc (lv' := [(2, .inl (w32 (l2 + 1))), (1, .inl z1.1), (0, .inr (.inr (11, l0))), (3, .inl z1.1)]) hG (pc := 125) d221_125 rfl (ml221 _ (by decide)) rfl (x_goto (tgt := 10) hG (pc := 128) d221_128 rfl (am_lvw (lv2 := [(0, .inr (.inr (11, l0))), (1, .inl z1.1), (2, .inl (w32 (l2 + 1)))]) [2, 1, 0] rfl (ih _ _ _ _ h hI hX))))))))))))))))))))))))))))))))))))))))))))))))))))))))))))
def L221_164 (l0 : Nat) (l2 : Int) (l3 : Int) : Nat → Int → am_M → Option ((Int × am_M) ⊕ (Int × am_M))
  | 0, _, _ => none
  | n + 1, l4, μ => (if (0 : Int) ≤ l3 ∧ l3 < ((am_len (am_ref l0 11) : Nat) : Int) then (if l4 < μ (am_ref l0 11) (l3 : Int).toNat then (am_op (fn214 l0 l2 μ) (fun z5 => (if (0 : Int) ≤ l3 ∧ l3 < ((am_len (am_ref l0 10) : Nat) : Int) then (if (0 : Int) ≤ w32 ((z5.2 (am_ref l0 10) (l3 : Int).toNat) + l4) ∧ w32 ((z5.2 (am_ref l0 10) (l3 : Int).toNat) + l4) < ((am_len (am_ref l0 13) : Nat) : Int) then (am_op (fn220 l0 (w32 (z5.1 + (w32 (4 * l4)))) (w32 ((z5.2 l0 6) - 6)) (z5.2 (am_ref l0 13) (w32 ((z5.2 (am_ref l0 10) (l3 : Int).toNat) + l4) : Int).toNat) z5.2) (fun z6 => (L221_164 l0 l2 l3 n (w32 (l4 + 1)) z6.2))) else none) else none))) else (some (.inr (l4, μ)))) else none)
theorem w221_164 {X : am_K} {C : am_C} {Q : State → Prop} (hG : am_G X C 221 0 0 (0, fun _ => 0)) (hr : match X with | (_, _, _, _, _, _, _, _, meth, _) => meth.sig.returnType = am_mr 221 ∧ meth.locks = false) (l0 : Nat) (l2 : Int) (l3 : Int) : ∀ (n : Nat) (l4 : Int) (μ : am_M) (r : (Int × am_M) ⊕ (Int × am_M)), L221_164 l0 l2 l3 n l4 μ = some r → (∀ q, r = .inl q → Q = am_E X C 221 q.1 q.2) → (∀ t, r = .inr t → am_W X C 221 Q 0 0 216 [(0, .inr (.inr (11, l0))), (2, .inl l2)] [] t.2) → am_W X C 221 Q 0 0 164 [(0, .inr (.inr (11, l0))), (2, .inl l2), (3, .inl l3), (4, .inl l4)] [] μ := by
  intro n
  induction n with
  | zero => intro l4 μ r h; cases h
  | succ n ih =>
    intro l4 μ r h hI hX
    unfold L221_164 at h
    exact (am_c_iload hG (pc := 164) d221_164 rfl (am_c_aload_n hG (pc := 166) d221_166 rfl (x_get_n (v := .inr (.inr (16, am_ref l0 11))) hG (pc := 167) d221_167 mo221 f11_27 rfl (am_c_iload_n hG (pc := 170) d221_170 rfl (x_iaload hG (pc := 171) d221_171 h (fun h => (x_icmp_ge (tgt := 216) hG (pc := 172) d221_172 rfl h (fun h => (am_lvw (lv2 := [(0, .inr (.inr (11, l0))), (2, .inl l2)]) [0, 1] rfl (hX (l4, μ) (Option.some.inj h).symm))) (fun h => (am_c_aload_n hG (pc := 175) d221_175 rfl (am_c_aload_n hG (pc := 176) d221_176 rfl (am_c_iload_n hG (pc := 177) d221_177 rfl (x_virtual_i (t := 11) (o := l0) (as2 := [.inl l2]) (rest := [.inr (.inr (11, l0))]) hG (pc := 178) d221_178 mo221 m11_366 (by decide) dp221_214 rfl rfl (Nat.le_of_ble_eq_true rfl) (Nat.le_of_ble_eq_true rfl) rg214 sd214 (e214 _ _ _) h (fun z5 h => (am_c_iconst hG (pc := 181) d221_181 (by decide) (am_c_iload hG (pc := 182) d221_182 rfl (am_c_imul hG (pc := 184) d221_184 (am_c_iadd hG (pc := 185) d221_185 (am_c_aload_n hG (pc := 186) d221_186 rfl (x_get_n (v := .inl (z5.2 l0 6)) hG (pc := 187) d221_187 mo221 f11_20 rfl (am_c_bipush hG (pc := 190) d221_190 (by decide) (am_c_isub hG (pc := 192) d221_192 (am_c_aload_n hG (pc := 193) d221_193 rfl (x_get_n (v := .inr (.inr (18, am_ref l0 13))) hG (pc := 194) d221_194 mo221 f11_30 rfl (am_c_aload_n hG (pc := 197) d221_197 rfl (x_get_n (v := .inr (.inr (16, am_ref l0 10))) hG (pc := 198) d221_198 mo221 f11_23 rfl (am_c_iload_n hG (pc := 201) d221_201 rfl (x_iaload hG (pc := 202) d221_202 h (fun h => (am_c_iload hG (pc := 203) d221_203 rfl (am_c_iadd hG (pc := 205) d221_205 (x_caload hG (pc := 206) d221_206 h (fun h => (x_virtual_v (t := 11) (o := l0) (as2 := [.inl (w32 (z5.1 + (w32 (4 * l4)))), .inl (w32 ((z5.2 l0 6) - 6)), .inl (z5.2 (am_ref l0 13) (w32 ((z5.2 (am_ref l0 10) (l3 : Int).toNat) + l4) : Int).toNat)]) (rest := []) hG (pc := 207) d221_207 mo221 m11_386 (by decide) dp221_220 rfl rfl (Nat.le_of_ble_eq_true rfl) (Nat.le_of_ble_eq_true rfl) rg220 sd220 (e220 _ _ _ _ _) h (fun z6 h => (x_iinc (lv' := [(4, .inl (w32 (l4 + 1))), (0, .inr (.inr (11, l0))), (2, .inl l2), (3, .inl l3)]) hG (pc := 210) d221_210 rfl (ml221 _ (by decide)) rfl (x_goto (tgt := 164) hG (pc := 213) d221_213 rfl (am_lvw (lv2 := [(0, .inr (.inr (11, l0))), (2, .inl l2), (3, .inl l3), (4, .inl (w32 (l4 + 1)))]) [1, 2, 3, 0] rfl (ih _ _ _ h hI hX))))))))))))))))))))))))))))))))))))))
def L221_133 (l0 : Nat) : Nat → Int → am_M → Option ((Int × am_M) ⊕ (Int × am_M))
  | 0, _, _ => none
  | n + 1, l2, μ => (if l2 < μ l0 47 then (if (0 : Int) ≤ l2 ∧ l2 < ((am_len (am_ref l0 36) : Nat) : Int) then (if (0 : Int) ≤ μ (am_ref l0 36) (l2 : Int).toNat ∧ μ (am_ref l0 36) (l2 : Int).toNat < ((am_len (am_ref l0 34) : Nat) : Int) then (am_op (fn173 l0 (μ (am_ref l0 34) (μ (am_ref l0 36) (l2 : Int).toNat : Int).toNat) (μ l0 21) μ) (fun z4 => (am_op (L221_164 l0 l2 z4.1 am_fuel 0 z4.2) (fun s => am_lp s (fun q3 => some (.inl q3)) (fun t3 => (L221_133 l0 n (w32 (l2 + (t3.2 l0 46))) t3.2)))))) else none) else none) else (some (.inr (l2, μ))))
theorem w221_133 {X : am_K} {C : am_C} {Q : State → Prop} (hG : am_G X C 221 0 0 (0, fun _ => 0)) (hr : match X with | (_, _, _, _, _, _, _, _, meth, _) => meth.sig.returnType = am_mr 221 ∧ meth.locks = false) (l0 : Nat) : ∀ (n : Nat) (l2 : Int) (μ : am_M) (r : (Int × am_M) ⊕ (Int × am_M)), L221_133 l0 n l2 μ = some r → (∀ q, r = .inl q → Q = am_E X C 221 q.1 q.2) → (∀ t, r = .inr t → am_W X C 221 Q 0 0 226 [] [] t.2) → am_W X C 221 Q 0 0 133 [(0, .inr (.inr (11, l0))), (2, .inl l2)] [] μ := by
  intro n
  induction n with
  | zero => intro l2 μ r h; cases h
  | succ n ih =>
    intro l2 μ r h hI hX
    unfold L221_133 at h
    exact (am_c_iload_n hG (pc := 133) d221_133 rfl (am_c_aload_n hG (pc := 134) d221_134 rfl (x_get_n (v := .inl (μ l0 47)) hG (pc := 135) d221_135 mo221 f11_310 rfl (x_icmp_ge (tgt := 226) hG (pc := 138) d221_138 rfl h (fun h => (am_lvw (lv2 := []) [] rfl (hX (l2, μ) (Option.some.inj h).symm))) (fun h => (am_c_aload_n hG (pc := 141) d221_141 rfl (am_c_aload_n hG (pc := 142) d221_142 rfl (x_get_n (v := .inr (.inr (16, am_ref l0 34))) hG (pc := 143) d221_143 mo221 f11_57 rfl (am_c_aload_n hG (pc := 146) d221_146 rfl (x_get_n (v := .inr (.inr (16, am_ref l0 36))) hG (pc := 147) d221_147 mo221 f11_64 rfl (am_c_iload_n hG (pc := 150) d221_150 rfl (x_iaload hG (pc := 151) d221_151 h (fun h => (x_iaload hG (pc := 152) d221_152 h (fun h => (am_c_aload_n hG (pc := 153) d221_153 rfl (x_get_n (v := .inl (μ l0 21)) hG (pc := 154) d221_154 mo221 f11_263 rfl (x_virtual_i (t := 11) (o := l0) (as2 := [.inl (μ (am_ref l0 34) (μ (am_ref l0 36) (l2 : Int).toNat : Int).toNat), .inl (μ l0 21)]) (rest := []) hG (pc := 157) d221_157 mo221 m11_133 (by decide) dp221_173 rfl rfl (Nat.le_of_ble_eq_true rfl) (Nat.le_of_ble_eq_true rfl) rg173 sd173 (e173 _ _ _ _) h (fun z4 h => (x_istore_n (lv' := [(3, .inl z4.1), (0, .inr (.inr (11, l0))), (2, .inl l2)]) hG (pc := 160) d221_160 (ml221 _ (by decide)) rfl (am_c_iconst hG (pc := 161) d221_161 (by decide) (x_istore (lv' := [(4, .inl 0), (3, .inl z4.1), (0, .inr (.inr (11, l0))), (2, .inl l2)]) hG (pc := 162) d221_162 (ml221 _ (by decide)) rfl (x_lp h (fun r h1 h2 => (am_lvw (lv2 := [(0, .inr (.inr (11, l0))), (2, .inl l2), (3, .inl z4.1), (4, .inl 0)]) [2, 3, 1, 0] rfl (w221_164 hG hr _ _ _ _ _ _ _ h1 (fun q3 e => am_q1 e h2 (fun h => hI _ (Option.some.inj h).symm)) (fun t3 e => am_q2 e h2 (fun h => (am_c_iload_n hG (pc := 216) d221_216 rfl (am_c_aload_n hG (pc := 217) d221_217 rfl (x_get_n (v := .inl (t3.2 l0 46)) hG (pc := 218) d221_218 mo221 f11_372 rfl (am_c_iadd hG (pc := 221) d221_221 (x_istore_n (lv' := [(2, .inl (w32 (l2 + (t3.2 l0 46)))), (0, .inr (.inr (11, l0)))]) hG (pc := 222) d221_222 (ml221 _ (by decide)) rfl (x_goto (tgt := 133) hG (pc := 223) d221_223 rfl (am_lvw (lv2 := [(0, .inr (.inr (11, l0))), (2, .inl (w32 (l2 + (t3.2 l0 46))))]) [1, 0] rfl (ih _ _ _ h hI hX))))))))))))))))))))))))))))))))))))
def fn221 (o : Nat) (μ : am_M) : Option (Int × am_M) := (am_op (L221_10 o am_fuel (w32 ((μ o 6) + 9)) 0 μ) (fun s => am_lp s (fun q2 => some q2) (fun t2 => (am_op (L221_133 o am_fuel 0 t2.2.2) (fun s => am_lp s (fun q4 => some q4) (fun t4 => some (0, t4.2)))))))
def sp221 : am_F := fun vs μ => am_aR 11 vs fun o vs => am_a0 vs (fn221 o μ)
theorem e221 (o : Nat) (μ : am_M) : sp221 [.inr (.inr (11, o))] μ = fn221 o μ := am_aR_c.trans am_a0_c
theorem sd221 : am_Sd 221 sp221 := by
  refine am_Sd_of (by decide) (fun vs μ μ' x h hv hM => ?_)
  obtain ⟨o, vs0, rfl, h0⟩ := am_aR_s h
  obtain ⟨rfl, hz⟩ := am_a0_s h0
  refine ⟨Nat.le_of_ble_eq_true rfl, fun X C hG hr => ?_⟩
  have h := hz
  unfold fn221 at h
  exact (show am_W X C 221 _ 0 0 0 [(0, .inr (.inr (11, o)))] [] μ from (am_c_aload_n hG (pc := 0) d221_0 rfl (x_get_n (v := .inl (μ o 6)) hG (pc := 1) d221_1 mo221 f11_20 rfl (am_c_bipush hG (pc := 4) d221_4 (by decide) (am_c_iadd hG (pc := 6) d221_6 (x_istore_n (lv' := [(1, .inl (w32 ((μ o 6) + 9))), (0, .inr (.inr (11, o)))]) hG (pc := 7) d221_7 (ml221 _ (by decide)) rfl (am_c_iconst hG (pc := 8) d221_8 (by decide) (x_istore_n (lv' := [(2, .inl 0), (1, .inl (w32 ((μ o 6) + 9))), (0, .inr (.inr (11, o)))]) hG (pc := 9) d221_9 (ml221 _ (by decide)) rfl (x_lp h (fun r h1 h2 => (am_lvw (lv2 := [(0, .inr (.inr (11, o))), (1, .inl (w32 ((μ o 6) + 9))), (2, .inl 0)]) [2, 1, 0] rfl (w221_10 hG hr _ _ _ _ _ _ h1 (fun q2 e => am_q1 e h2 (fun h => am_q0 h)) (fun t2 e => am_q2 e h2 (fun h => (am_c_iconst hG (pc := 131) d221_131 (by decide) (x_istore_n (lv' := [(2, .inl 0), (0, .inr (.inr (11, o)))]) hG (pc := 132) d221_132 (ml221 _ (by decide)) rfl (x_lp h (fun r h1 h2 => (am_lvw (lv2 := [(0, .inr (.inr (11, o))), (2, .inl 0)]) [1, 0] rfl (w221_133 hG hr _ _ _ _ _ h1 (fun q4 e => am_q1 e h2 (fun h => am_q0 h)) (fun t4 e => am_q2 e h2 (fun h => (xq_vret hG (by decide) hr (pc := 226) d221_226 rk221 (am_q0 h))))))))))))))))))))))))
/-! ChartPressModel.inArea(II)V -/
theorem D222 (k : Nat) {pc : Nat} {i : Instr} (h : tbi222[k]? = some (pc, i)) (hs : am_isw i = false) {n : Nat} (hn : am_il i = n) : decode (am_mc 222) pc = .ok (i, n) := am_d2 (by decide) (by decide) rfl h hs hn
theorem d222_0 : decode (am_mc 222) 0 = .ok (.iload_n 1, 1) := D222 0 rfl rfl rfl
theorem d222_1 : decode (am_mc 222) 1 = .ok (.aload_n 0, 1) := D222 1 rfl rfl rfl
theorem d222_2 : decode (am_mc 222) 2 = .ok (.getfield 348, 3) := D222 2 rfl rfl rfl
theorem d222_5 : decode (am_mc 222) 5 = .ok (.if_icmp .lt 36, 3) := D222 3 rfl rfl rfl
theorem d222_8 : decode (am_mc 222) 8 = .ok (.iload_n 1, 1) := D222 4 rfl rfl rfl
theorem d222_9 : decode (am_mc 222) 9 = .ok (.aload_n 0, 1) := D222 5 rfl rfl rfl
theorem d222_10 : decode (am_mc 222) 10 = .ok (.getfield 16, 3) := D222 6 rfl rfl rfl
theorem d222_13 : decode (am_mc 222) 13 = .ok (.iconst 2, 1) := D222 7 rfl rfl rfl
theorem d222_14 : decode (am_mc 222) 14 = .ok (.isub, 1) := D222 8 rfl rfl rfl
theorem d222_15 : decode (am_mc 222) 15 = .ok (.if_icmp .gt 26, 3) := D222 9 rfl rfl rfl
theorem d222_18 : decode (am_mc 222) 18 = .ok (.iload_n 2, 1) := D222 10 rfl rfl rfl
theorem d222_19 : decode (am_mc 222) 19 = .ok (.iconst 1, 1) := D222 11 rfl rfl rfl
theorem d222_20 : decode (am_mc 222) 20 = .ok (.if_icmp .lt 21, 3) := D222 12 rfl rfl rfl
theorem d222_23 : decode (am_mc 222) 23 = .ok (.iload_n 2, 1) := D222 13 rfl rfl rfl
theorem d222_24 : decode (am_mc 222) 24 = .ok (.aload_n 0, 1) := D222 14 rfl rfl rfl
theorem d222_25 : decode (am_mc 222) 25 = .ok (.getfield 20, 3) := D222 15 rfl rfl rfl
theorem d222_28 : decode (am_mc 222) 28 = .ok (.bipush 9, 2) := D222 16 rfl rfl rfl
theorem d222_30 : decode (am_mc 222) 30 = .ok (.isub, 1) := D222 17 rfl rfl rfl
theorem d222_31 : decode (am_mc 222) 31 = .ok (.if_icmp .gt 10, 3) := D222 18 rfl rfl rfl
theorem d222_34 : decode (am_mc 222) 34 = .ok (.aload_n 0, 1) := D222 19 rfl rfl rfl
theorem d222_35 : decode (am_mc 222) 35 = .ok (.iload_n 1, 1) := D222 20 rfl rfl rfl
theorem d222_36 : decode (am_mc 222) 36 = .ok (.iload_n 2, 1) := D222 21 rfl rfl rfl
theorem d222_37 : decode (am_mc 222) 37 = .ok (.iconst 3, 1) := D222 22 rfl rfl rfl
theorem d222_38 : decode (am_mc 222) 38 = .ok (.invokevirtual 378, 3) := D222 23 rfl rfl rfl
theorem d222_41 : decode (am_mc 222) 41 = .ok (.return_, 1) := D222 24 rfl rfl rfl
theorem ml222 : ∀ n, n < 3 → n < am_ml 222 := fun _ h => h
theorem mo222 : am_mo 222 = 11 := by decide +kernel
theorem rk222 : am_rk 222 = 0 := by decide +kernel
theorem rg222 : am_rcg 222 = 12 := by decide +kernel
theorem dp222_217 : am_md 217 + 1 ≤ am_md 222 ∧ 8 + (am_ml 217 + 11) + am_lr 217 ≤ am_lr 222 := by decide +kernel
def fn222 (o : Nat) (a : Int) (b : Int) (μ : am_M) : Option (Int × am_M) := (if a < μ o 45 then some (0, μ) else (if w32 ((μ o 5) - 2) < a then some (0, μ) else (if b < 1 then some (0, μ) else (if w32 ((μ o 6) - 9) < b then some (0, μ) else (am_op (fn217 o a b 3 μ) (fun z1 => some (0, z1.2)))))))
def sp222 : am_F := fun vs μ => am_aR 11 vs fun o vs => am_aI vs fun a vs => am_aI vs fun b vs => am_a0 vs (fn222 o a b μ)
theorem e222 (o : Nat) (a : Int) (b : Int) (μ : am_M) : sp222 [.inr (.inr (11, o)), .inl a, .inl b] μ = fn222 o a b μ := am_aR_c.trans (am_aI_c.trans (am_aI_c.trans am_a0_c))
theorem sd222 : am_Sd 222 sp222 := by
  refine am_Sd_of (by decide) (fun vs μ μ' x h hv hM => ?_)
  obtain ⟨o, vs0, rfl, h0⟩ := am_aR_s h
  obtain ⟨a, vs1, rfl, h1⟩ := am_aI_s h0
  obtain ⟨b, vs2, rfl, h2⟩ := am_aI_s h1
  obtain ⟨rfl, hz⟩ := am_a0_s h2
  refine ⟨Nat.le_of_ble_eq_true rfl, fun X C hG hr => ?_⟩
  have h := hz
  unfold fn222 at h
  exact (show am_W X C 222 _ 0 0 0 [(0, .inr (.inr (11, o))), (1, .inl a), (2, .inl b)] [] μ from (am_c_iload_n hG (pc := 0) d222_0 rfl (am_c_aload_n hG (pc := 1) d222_1 rfl (x_get_n (v := .inl (μ o 45)) hG (pc := 2) d222_2 mo222 f11_348 rfl (x_icmp_lt (tgt := 41) hG (pc := 5) d222_5 rfl h (fun h => (xq_vret hG (by decide) hr (pc := 41) d222_41 rk222 (am_q0 h))) (fun h => (am_c_iload_n hG (pc := 8) d222_8 rfl (am_c_aload_n hG (pc := 9) d222_9 rfl (x_get_n (v := .inl (μ o 5)) hG (pc := 10) d222_10 mo222 f11_16 rfl (am_c_iconst hG (pc := 13) d222_13 (by decide) (am_c_isub hG (pc := 14) d222_14 (x_icmp_gt (tgt := 41) hG (pc := 15) d222_15 rfl h (fun h => (xq_vret hG (by decide) hr (pc := 41) d222_41 rk222 (am_q0 h))) (fun h => (am_c_iload_n hG (pc := 18) d222_18 rfl (am_c_iconst hG (pc := 19) d222_19 (by decide) (x_icmp_lt (tgt := 41) hG (pc := 20) d222_20 rfl h (fun h => (xq_vret hG (by decide) hr (pc := 41) d222_41 rk222 (am_q0 h))) (fun h => (am_c_iload_n hG (pc := 23) d222_23 rfl (am_c_aload_n hG (pc := 24) d222_24 rfl (x_get_n (v := .inl (μ o 6)) hG (pc := 25) d222_25 mo222 f11_20 rfl (am_c_bipush hG (pc := 28) d222_28 (by decide) (am_c_isub hG (pc := 30) d222_30 (x_icmp_gt (tgt := 41) hG (pc := 31) d222_31 rfl h (fun h => (xq_vret hG (by decide) hr (pc := 41) d222_41 rk222 (am_q0 h))) (fun h => (am_c_aload_n hG (pc := 34) d222_34 rfl (am_c_iload_n hG (pc := 35) d222_35 rfl (am_c_iload_n hG (pc := 36) d222_36 rfl (am_c_iconst hG (pc := 37) d222_37 (by decide) (x_virtual_v (t := 11) (o := o) (as2 := [.inl a, .inl b, .inl 3]) (rest := []) hG (pc := 38) d222_38 mo222 m11_378 (by decide) dp222_217 rfl rfl (Nat.le_of_ble_eq_true rfl) (Nat.le_of_ble_eq_true rfl) rg217 sd217 (e217 _ _ _ _ _) h (fun z1 h => (xq_vret hG (by decide) hr (pc := 41) d222_41 rk222 (am_q0 h))))))))))))))))))))))))))))))))
/-! ChartPressModel.drawLine(IIII)V -/
theorem D223 (k : Nat) {pc : Nat} {i : Instr} (h : tbi223[k]? = some (pc, i)) (hs : am_isw i = false) {n : Nat} (hn : am_il i = n) : decode (am_mc 223) pc = .ok (i, n) := am_d2 (by decide) (by decide) rfl h hs hn
theorem d223_0 : decode (am_mc 223) 0 = .ok (.iload_n 3, 1) := D223 0 rfl rfl rfl
theorem d223_1 : decode (am_mc 223) 1 = .ok (.iload_n 1, 1) := D223 1 rfl rfl rfl
theorem d223_2 : decode (am_mc 223) 2 = .ok (.isub, 1) := D223 2 rfl rfl rfl
theorem d223_3 : decode (am_mc 223) 3 = .ok (.istore 5, 2) := D223 3 rfl rfl rfl
theorem d223_5 : decode (am_mc 223) 5 = .ok (.iload 4, 2) := D223 4 rfl rfl rfl
theorem d223_7 : decode (am_mc 223) 7 = .ok (.iload_n 2, 1) := D223 5 rfl rfl rfl
theorem d223_8 : decode (am_mc 223) 8 = .ok (.if_icmp .le 10, 3) := D223 6 rfl rfl rfl
theorem d223_11 : decode (am_mc 223) 11 = .ok (.iload_n 2, 1) := D223 7 rfl rfl rfl
theorem d223_12 : decode (am_mc 223) 12 = .ok (.iload 4, 2) := D223 8 rfl rfl rfl
theorem d223_14 : decode (am_mc 223) 14 = .ok (.isub, 1) := D223 9 rfl rfl rfl
theorem d223_15 : decode (am_mc 223) 15 = .ok (.goto 7, 3) := D223 10 rfl rfl rfl
theorem d223_18 : decode (am_mc 223) 18 = .ok (.iload 4, 2) := D223 11 rfl rfl rfl
theorem d223_20 : decode (am_mc 223) 20 = .ok (.iload_n 2, 1) := D223 12 rfl rfl rfl
theorem d223_21 : decode (am_mc 223) 21 = .ok (.isub, 1) := D223 13 rfl rfl rfl
theorem d223_22 : decode (am_mc 223) 22 = .ok (.istore 6, 2) := D223 14 rfl rfl rfl
theorem d223_24 : decode (am_mc 223) 24 = .ok (.iload 5, 2) := D223 15 rfl rfl rfl
theorem d223_26 : decode (am_mc 223) 26 = .ok (.iload 6, 2) := D223 16 rfl rfl rfl
theorem d223_28 : decode (am_mc 223) 28 = .ok (.iadd, 1) := D223 17 rfl rfl rfl
theorem d223_29 : decode (am_mc 223) 29 = .ok (.istore 7, 2) := D223 18 rfl rfl rfl
theorem d223_31 : decode (am_mc 223) 31 = .ok (.iload_n 1, 1) := D223 19 rfl rfl rfl
theorem d223_32 : decode (am_mc 223) 32 = .ok (.istore 8, 2) := D223 20 rfl rfl rfl
theorem d223_34 : decode (am_mc 223) 34 = .ok (.iload_n 2, 1) := D223 21 rfl rfl rfl
theorem d223_35 : decode (am_mc 223) 35 = .ok (.istore 9, 2) := D223 22 rfl rfl rfl
theorem d223_37 : decode (am_mc 223) 37 = .ok (.iload 8, 2) := D223 23 rfl rfl rfl
theorem d223_39 : decode (am_mc 223) 39 = .ok (.iload_n 3, 1) := D223 24 rfl rfl rfl
theorem d223_40 : decode (am_mc 223) 40 = .ok (.if_icmp .ne 10, 3) := D223 25 rfl rfl rfl
theorem d223_43 : decode (am_mc 223) 43 = .ok (.iload 9, 2) := D223 26 rfl rfl rfl
theorem d223_45 : decode (am_mc 223) 45 = .ok (.iload 4, 2) := D223 27 rfl rfl rfl
theorem d223_47 : decode (am_mc 223) 47 = .ok (.if_icmp .eq 71, 3) := D223 28 rfl rfl rfl
theorem d223_50 : decode (am_mc 223) 50 = .ok (.iconst 2, 1) := D223 29 rfl rfl rfl
theorem d223_51 : decode (am_mc 223) 51 = .ok (.iload 7, 2) := D223 30 rfl rfl rfl
theorem d223_53 : decode (am_mc 223) 53 = .ok (.imul, 1) := D223 31 rfl rfl rfl
theorem d223_54 : decode (am_mc 223) 54 = .ok (.istore 10, 2) := D223 32 rfl rfl rfl
theorem d223_56 : decode (am_mc 223) 56 = .ok (.iload 10, 2) := D223 33 rfl rfl rfl
theorem d223_58 : decode (am_mc 223) 58 = .ok (.iload 6, 2) := D223 34 rfl rfl rfl
theorem d223_60 : decode (am_mc 223) 60 = .ok (.if_icmp .lt 13, 3) := D223 35 rfl rfl rfl
theorem d223_63 : decode (am_mc 223) 63 = .ok (.iload 7, 2) := D223 36 rfl rfl rfl
theorem d223_65 : decode (am_mc 223) 65 = .ok (.iload 6, 2) := D223 37 rfl rfl rfl
theorem d223_67 : decode (am_mc 223) 67 = .ok (.iadd, 1) := D223 38 rfl rfl rfl
theorem d223_68 : decode (am_mc 223) 68 = .ok (.istore 7, 2) := D223 39 rfl rfl rfl
theorem d223_70 : decode (am_mc 223) 70 = .ok (.iinc 8 1, 3) := D223 40 rfl rfl rfl
theorem d223_73 : decode (am_mc 223) 73 = .ok (.iload 10, 2) := D223 41 rfl rfl rfl
theorem d223_75 : decode (am_mc 223) 75 = .ok (.iload 5, 2) := D223 42 rfl rfl rfl
theorem d223_77 : decode (am_mc 223) 77 = .ok (.if_icmp .gt 29, 3) := D223 43 rfl rfl rfl
theorem d223_80 : decode (am_mc 223) 80 = .ok (.iload 7, 2) := D223 44 rfl rfl rfl
theorem d223_82 : decode (am_mc 223) 82 = .ok (.iload 5, 2) := D223 45 rfl rfl rfl
theorem d223_84 : decode (am_mc 223) 84 = .ok (.iadd, 1) := D223 46 rfl rfl rfl
theorem d223_85 : decode (am_mc 223) 85 = .ok (.istore 7, 2) := D223 47 rfl rfl rfl
theorem d223_87 : decode (am_mc 223) 87 = .ok (.iload 4, 2) := D223 48 rfl rfl rfl
theorem d223_89 : decode (am_mc 223) 89 = .ok (.iload_n 2, 1) := D223 49 rfl rfl rfl
theorem d223_90 : decode (am_mc 223) 90 = .ok (.if_icmp .le 10, 3) := D223 50 rfl rfl rfl
theorem d223_93 : decode (am_mc 223) 93 = .ok (.iload 9, 2) := D223 51 rfl rfl rfl
theorem d223_95 : decode (am_mc 223) 95 = .ok (.iconst 1, 1) := D223 52 rfl rfl rfl
theorem d223_96 : decode (am_mc 223) 96 = .ok (.iadd, 1) := D223 53 rfl rfl rfl
theorem d223_97 : decode (am_mc 223) 97 = .ok (.goto 7, 3) := D223 54 rfl rfl rfl
theorem d223_100 : decode (am_mc 223) 100 = .ok (.iload 9, 2) := D223 55 rfl rfl rfl
theorem d223_102 : decode (am_mc 223) 102 = .ok (.iconst 1, 1) := D223 56 rfl rfl rfl
theorem d223_103 : decode (am_mc 223) 103 = .ok (.isub, 1) := D223 57 rfl rfl rfl
theorem d223_104 : decode (am_mc 223) 104 = .ok (.istore 9, 2) := D223 58 rfl rfl rfl
theorem d223_106 : decode (am_mc 223) 106 = .ok (.aload_n 0, 1) := D223 59 rfl rfl rfl
theorem d223_107 : decode (am_mc 223) 107 = .ok (.iload 8, 2) := D223 60 rfl rfl rfl
theorem d223_109 : decode (am_mc 223) 109 = .ok (.iload 9, 2) := D223 61 rfl rfl rfl
theorem d223_111 : decode (am_mc 223) 111 = .ok (.iconst 3, 1) := D223 62 rfl rfl rfl
theorem d223_112 : decode (am_mc 223) 112 = .ok (.invokevirtual 378, 3) := D223 63 rfl rfl rfl
theorem d223_115 : decode (am_mc 223) 115 = .ok (.goto (-78), 3) := D223 64 rfl rfl rfl
theorem d223_118 : decode (am_mc 223) 118 = .ok (.return_, 1) := D223 65 rfl rfl rfl
theorem ml223 : ∀ n, n < 11 → n < am_ml 223 := fun _ h => h
theorem mo223 : am_mo 223 = 11 := by decide +kernel
theorem rk223 : am_rk 223 = 0 := by decide +kernel
theorem rg223 : am_rcg 223 = 12 := by decide +kernel
theorem dp223_217 : am_md 217 + 1 ≤ am_md 223 ∧ 8 + (am_ml 217 + 11) + am_lr 217 ≤ am_lr 223 := by decide +kernel
def L223_37 (l0 : Nat) (l2 : Int) (l3 : Int) (l4 : Int) (l5 : Int) (l6 : Int) : Nat → Int → Int → Int → am_M → Option ((Int × am_M) ⊕ (Int × Int × Int × am_M))
  | 0, _, _, _, _ => none
  | n + 1, l7, l8, l9, μ => (if l8 = l3 then (if l9 = l4 then (some (.inr (l7, l8, l9, μ))) else (if w32 (2 * l7) < l6 then (if l5 < w32 (2 * l7) then (am_op (fn217 l0 l8 l9 3 μ) (fun z7 => (L223_37 l0 l2 l3 l4 l5 l6 n l7 l8 l9 z7.2))) else (if l2 < l4 then (am_op (fn217 l0 l8 (w32 (l9 + 1)) 3 μ) (fun z9 => (L223_37 l0 l2 l3 l4 l5 l6 n (w32 (l7 + l5)) l8 (w32 (l9 + 1)) z9.2))) else (am_op (fn217 l0 l8 (w32 (l9 - 1)) 3 μ) (fun z8 => (L223_37 l0 l2 l3 l4 l5 l6 n (w32 (l7 + l5)) l8 (w32 (l9 - 1)) z8.2))))) else (if l5 < w32 (2 * l7) then (am_op (fn217 l0 (w32 (l8 + 1)) l9 3 μ) (fun z10 => (L223_37 l0 l2 l3 l4 l5 l6 n (w32 (l7 + l6)) (w32 (l8 + 1)) l9 z10.2))) else (if l2 < l4 then (am_op (fn217 l0 (w32 (l8 + 1)) (w32 (l9 + 1)) 3 μ) (fun z12 => (L223_37 l0 l2 l3 l4 l5 l6 n (w32 ((w32 (l7 + l6)) + l5)) (w32 (l8 + 1)) (w32 (l9 + 1)) z12.2))) else (am_op (fn217 l0 (w32 (l8 + 1)) (w32 (l9 - 1)) 3 μ) (fun z11 => (L223_37 l0 l2 l3 l4 l5 l6 n (w32 ((w32 (l7 + l6)) + l5)) (w32 (l8 + 1)) (w32 (l9 - 1)) z11.2))))))) else (if w32 (2 * l7) < l6 then (if l5 < w32 (2 * l7) then (am_op (fn217 l0 l8 l9 3 μ) (fun z1 => (L223_37 l0 l2 l3 l4 l5 l6 n l7 l8 l9 z1.2))) else (if l2 < l4 then (am_op (fn217 l0 l8 (w32 (l9 + 1)) 3 μ) (fun z3 => (L223_37 l0 l2 l3 l4 l5 l6 n (w32 (l7 + l5)) l8 (w32 (l9 + 1)) z3.2))) else (am_op (fn217 l0 l8 (w32 (l9 - 1)) 3 μ) (fun z2 => (L223_37 l0 l2 l3 l4 l5 l6 n (w32 (l7 + l5)) l8 (w32 (l9 - 1)) z2.2))))) else (if l5 < w32 (2 * l7) then (am_op (fn217 l0 (w32 (l8 + 1)) l9 3 μ) (fun z4 => (L223_37 l0 l2 l3 l4 l5 l6 n (w32 (l7 + l6)) (w32 (l8 + 1)) l9 z4.2))) else (if l2 < l4 then (am_op (fn217 l0 (w32 (l8 + 1)) (w32 (l9 + 1)) 3 μ) (fun z6 => (L223_37 l0 l2 l3 l4 l5 l6 n (w32 ((w32 (l7 + l6)) + l5)) (w32 (l8 + 1)) (w32 (l9 + 1)) z6.2))) else (am_op (fn217 l0 (w32 (l8 + 1)) (w32 (l9 - 1)) 3 μ) (fun z5 => (L223_37 l0 l2 l3 l4 l5 l6 n (w32 ((w32 (l7 + l6)) + l5)) (w32 (l8 + 1)) (w32 (l9 - 1)) z5.2)))))))
theorem w223_37 {X : am_K} {C : am_C} {Q : State → Prop} (hG : am_G X C 223 0 0 (0, fun _ => 0)) (hr : match X with | (_, _, _, _, _, _, _, _, meth, _) => meth.sig.returnType = am_mr 223 ∧ meth.locks = false) (l0 : Nat) (l2 : Int) (l3 : Int) (l4 : Int) (l5 : Int) (l6 : Int) : ∀ (n : Nat) (l7 : Int) (l8 : Int) (l9 : Int) (μ : am_M) (r : (Int × am_M) ⊕ (Int × Int × Int × am_M)), L223_37 l0 l2 l3 l4 l5 l6 n l7 l8 l9 μ = some r → (∀ q, r = .inl q → Q = am_E X C 223 q.1 q.2) → (∀ t, r = .inr t → am_W X C 223 Q 0 0 118 [] [] t.2.2.2) → am_W X C 223 Q 0 0 37 [(0, .inr (.inr (11, l0))), (2, .inl l2), (3, .inl l3), (4, .inl l4), (5, .inl l5), (6, .inl l6), (7, .inl l7), (8, .inl l8), (9, .inl l9)] [] μ := by
  intro n
  induction n with
  | zero => intro l7 l8 l9 μ r h; cases h
  | succ n ih =>
    intro l7 l8 l9 μ r h hI hX
    unfold L223_37 at h
    exact (am_c_iload hG (pc := 37) d223_37 rfl (am_c_iload_n hG (pc := 39) d223_39 rfl (x_icmp_ne (tgt := 50) hG (pc := 40) d223_40 rfl h (fun h => (am_c_iconst hG (pc := 50) d223_50 (by decide) (am_c_iload hG (pc := 51) d223_51 rfl (am_c_imul hG (pc := 53) d223_53 (x_istore (lv' := [(10, .inl (w32 (2 * l7))), (0, .inr (.inr (11, l0))), (2, .inl l2), (3, .inl l3), (4, .inl l4), (5, .inl l5), (6, .inl l6), (7, .inl l7), (8, .inl l8), (9, .inl l9)]) hG (pc := 54) d223_54 (ml223 _ (by decide)) rfl (am_c_iload hG (pc := 56) d223_56 rfl (am_c_iload hG (pc := 58) d223_58 rfl (x_icmp_lt (tgt := 73) hG (pc := 60) d223_60 rfl h (fun h => (am_c_iload hG (pc := 73) d223_73 rfl (am_c_iload hG (pc := 75) d223_75 rfl (x_icmp_gt (tgt := 106) hG (pc := 77) d223_77 rfl h (fun h => (am_c_aload_n hG (pc := 106) d223_106 rfl (am_c_iload hG (pc := 107) d223_107 rfl (am_c_iload hG (pc := 109) d223_109 rfl (am_c_iconst hG (pc := 111) d223_111 (by decide) (x_virtual_v (t := 11) (o := l0) (as2 := [.inl l8, .inl l9, .inl 3]) (rest := []) hG (pc := 112) d223_112 mo223 m11_378 (by decide) dp223_217 rfl rfl (Nat.le_of_ble_eq_true rfl) (Nat.le_of_ble_eq_true rfl) rg217 sd217 (e217 _ _ _ _ _) h (fun z1 h => (x_goto (tgt := 37) hG (pc := 115) d223_115 rfl (am_lvw (lv2 := [(0, .inr (.inr (11, l0))), (2, .inl l2), (3, .inl l3), (4, .inl l4), (5, .inl l5), (6, .inl l6), (7, .inl l7), (8, .inl l8), (9, .inl l9)]) [1, 2, 3, 4, 5, 6, 7, 8, 9] rfl (ih _ _ _ _ _ h hI hX)))))))))) (fun h => (am_c_iload hG (pc := 80) d223_80 rfl (am_c_iload hG (pc := 82) d223_82 rfl (am_c_iadd hG (pc := 84) d223_84 (x_istore (lv' := [(7, .inl (w32 (l7 + l5))), (10, .inl (w32 (2 * l7))), (0, .inr (.inr (11, l0))), (2, .inl l2), (3, .inl l3), (4, .inl l4), (5, .inl l5), (6, .inl l6), (8, .inl l8), (9, .inl l9)]) hG (pc := 85) d223_85 (ml223 _ (by decide)) rfl (am_c_iload hG (pc := 87) d223_87 rfl (am_c_iload_n hG (pc := 89) d223_89 rfl (x_icmp_le (tgt := 100) hG (pc := 90) d223_90 rfl h (fun h => (am_c_iload hG (pc := 100) d223_100 rfl (am_c_iconst hG (pc := 102) d223_102 (by decide) (am_c_isub hG (pc := 103) d223_103 (x_istore (lv' := [(9, .inl (w32 (l9 - 1))), (7, .inl (w32 (l7 + l5))), (10, .inl (w32 (2 * l7))), (0, .inr (.inr (11, l0))), (2, .inl l2), (3, .inl l3), (4, .inl l4), (5, .inl l5), (6, .inl l6), (8, .inl l8)]) hG (pc := 104) d223_104 (ml223 _ (by decide)) rfl (am_c_aload_n hG (pc := 106) d223_106 rfl (am_c_iload hG (pc := 107) d223_107 rfl (am_c_iload hG (pc := 109) d223_109 rfl (am_c_iconst hG (pc := 111) d223_111 (by decide) (x_virtual_v (t := 11) (o := l0) (as2 := [.inl l8, .inl (w32 (l9 - 1)), .inl 3]) (rest := []) hG (pc := 112) d223_112 mo223 m11_378 (by decide) dp223_217 rfl rfl (Nat.le_of_ble_eq_true rfl) (Nat.le_of_ble_eq_true rfl) rg217 sd217 (e217 _ _ _ _ _) h (fun z2 h => (x_goto (tgt := 37) hG (pc := 115) d223_115 rfl (am_lvw (lv2 := [(0, .inr (.inr (11, l0))), (2, .inl l2), (3, .inl l3), (4, .inl l4), (5, .inl l5), (6, .inl l6), (7, .inl (w32 (l7 + l5))), (8, .inl l8), (9, .inl (w32 (l9 - 1)))]) [3, 4, 5, 6, 7, 8, 1, 9, 0] rfl (ih _ _ _ _ _ h hI hX)))))))))))))) (fun h => (am_c_iload hG (pc := 93) d223_93 rfl (am_c_iconst hG (pc := 95) d223_95 (by decide) (am_c_iadd hG (pc := 96) d223_96 (x_goto (tgt := 104) hG (pc := 97) d223_97 rfl (x_istore (lv' := [(9, .inl (w32 (l9 + 1))), (7, .inl (w32 (l7 + l5))), (10, .inl (w32 (2 * l7))), (0, .inr (.inr (11, l0))), (2, .inl l2), (3, .inl l3), (4, .inl l4), (5, .inl l5), (6, .inl l6), (8, .inl l8)]) hG (pc := 104) d223_104 (ml223 _ (by decide)) rfl (am_c_aload_n hG (pc := 106) d223_106 rfl (am_c_iload hG (pc := 107) d223_107 rfl (am_c_iload hG (pc := 109) d223_109 rfl (am_c_iconst hG (pc := 111) d223_111 (by decide) (x_virtual_v (t := 11) (o := l0) (as2 := [.inl l8, .inl (w32 (l9 + 1)), .inl 3]) (rest := []) hG (pc := 112) d223_112 mo223 m11_378 (by decide) dp223_217 rfl rfl (Nat.le_of_ble_eq_true rfl) (Nat.le_of_ble_eq_true rfl) rg217 sd217 (e217 _ _ _ _ _) h (fun z3 h => (x_goto (tgt := 37) hG (pc := 115) d223_115 rfl (am_lvw (lv2 := [(0, .inr (.inr (11, l0))), (2, .inl l2), (3, .inl l3), (4, .inl l4), (5, .inl l5), (6, .inl l6), (7, .inl (w32 (l7 + l5))), (8, .inl l8), (9, .inl (w32 (l9 + 1)))]) [3, 4, 5, 6, 7, 8, 1, 9, 0] rfl (ih _ _ _ _ _ h hI hX))))))))))))))))))))))))))) (fun h => (am_c_iload hG (pc := 63) d223_63 rfl (am_c_iload hG (pc := 65) d223_65 rfl (am_c_iadd hG (pc := 67) d223_67 (x_istore (lv' := [(7, .inl (w32 (l7 + l6))), (10, .inl (w32 (2 * l7))), (0, .inr (.inr (11, l0))), (2, .inl l2), (3, .inl l3), (4, .inl l4), (5, .inl l5), (6, .inl l6), (8, .inl l8), (9, .inl l9)]) hG (pc := 68) d223_68 (ml223 _ (by decide)) rfl (x_iinc (lv' := [(8, .inl (w32 (l8 + 1))), (7, .inl (w32 (l7 + l6))), (10, .inl (w32 (2 * l7))), (0, .inr (.inr (11, l0))), (2, .inl l2), (3, .inl l3), (4, .inl l4), (5, .inl l5), (6, .inl l6), (9, .inl l9)]) hG (pc := 70) d223_70 rfl (ml223 _ (by decide)) rfl (am_c_iload hG (pc := 73) d223_73 rfl (am_c_iload hG (pc := 75) d223_75 rfl (x_icmp_gt (tgt := 106) hG (pc := 77) d223_77 rfl h (fun h => (am_c_aload_n hG (pc := 106) d223_106 rfl (am_c_iload hG (pc := 107) d223_107 rfl (am_c_iload hG (pc := 109) d223_109 rfl (am_c_iconst hG (pc := 111) d223_111 (by decide) (x_virtual_v (t := 11) (o := l0) (as2 := [.inl (w32 (l8 + 1)), .inl l9, .inl 3]) (rest := []) hG (pc := 112) d223_112 mo223 m11_378 (by decide) dp223_217 rfl rfl (Nat.le_of_ble_eq_true rfl) (Nat.le_of_ble_eq_true rfl) rg217 sd217 (e217 _ _ _ _ _) h (fun z4 h => (x_goto (tgt := 37) hG (pc := 115) d223_115 rfl (am_lvw (lv2 := [(0, .inr (.inr (11, l0))), (2, .inl l2), (3, .inl l3), (4, .inl l4), (5, .inl l5), (6, .inl l6), (7, .inl (w32 (l7 + l6))), (8, .inl (w32 (l8 + 1))), (9, .inl l9)]) [3, 4, 5, 6, 7, 8, 1, 0, 9] rfl (ih _ _ _ _ _ h hI hX)))))))))) (fun h => (am_c_iload hG (pc := 80) d223_80 rfl (am_c_iload hG (pc := 82) d223_82 rfl (am_c_iadd hG (pc := 84) d223_84 (x_istore (lv' := [(7, .inl (w32 ((w32 (l7 + l6)) + l5))), (8, .inl (w32 (l8 + 1))), (10, .inl (w32 (2 * l7))), (0, .inr (.inr (11, l0))), (2, .inl l2), (3, .inl l3), (4, .inl l4), (5, .inl l5), (6, .inl l6), (9, .inl l9)]) hG (pc := 85) d223_85 (ml223 _ (by decide)) rfl (am_c_iload hG (pc := 87) d223_87 rfl (am_c_iload_n hG (pc := 89) d223_89 rfl (x_icmp_le (tgt := 100) hG (pc := 90) d223_90 rfl h (fun h => (am_c_iload hG (pc := 100) d223_100 rfl (am_c_iconst hG (pc := 102) d223_102 (by decide) (am_c_isub hG (pc := 103) d223_103 (x_istore (lv' := [(9, .inl (w32 (l9 - 1))), (7, .inl (w32 ((w32 (l7 + l6)) + l5))), (8, .inl (w32 (l8 + 1))), (10, .inl (w32 (2 * l7))), (0, .inr (.inr (11, l0))), (2, .inl l2), (3, .inl l3), (4, .inl l4), (5, .inl l5), (6, .inl l6)]) hG (pc := 104) d223_104 (ml223 _ (by decide)) rfl (am_c_aload_n hG (pc := 106) d223_106 rfl (am_c_iload hG (pc := 107) d223_107 rfl (am_c_iload hG (pc := 109) d223_109 rfl (am_c_iconst hG (pc := 111) d223_111 (by decide) (x_virtual_v (t := 11) (o := l0) (as2 := [.inl (w32 (l8 + 1)), .inl (w32 (l9 - 1)), .inl 3]) (rest := []) hG (pc := 112) d223_112 mo223 m11_378 (by decide) dp223_217 rfl rfl (Nat.le_of_ble_eq_true rfl) (Nat.le_of_ble_eq_true rfl) rg217 sd217 (e217 _ _ _ _ _) h (fun z5 h => (x_goto (tgt := 37) hG (pc := 115) d223_115 rfl (am_lvw (lv2 := [(0, .inr (.inr (11, l0))), (2, .inl l2), (3, .inl l3), (4, .inl l4), (5, .inl l5), (6, .inl l6), (7, .inl (w32 ((w32 (l7 + l6)) + l5))), (8, .inl (w32 (l8 + 1))), (9, .inl (w32 (l9 - 1)))]) [4, 5, 6, 7, 8, 9, 1, 2, 0] rfl (ih _ _ _ _ _ h hI hX)))))))))))))) (fun h => (am_c_iload hG (pc := 93) d223_93 rfl (am_c_iconst hG (pc := 95) d223_95 (by decide) (am_c_iadd hG (pc := 96) d223_96 (x_goto (tgt := 104) hG (pc := 97) d223_97 rfl (x_istore (lv' := [(9, .inl (w32 (l9 + 1))), (7, .inl (w32 ((w32 (l7 + l6)) + l5))), (8, .inl (w32 (l8 + 1))), (10, .inl (w32 (2 * l7))), (0, .inr (.inr (11, l0))), (2, .inl l2), (3, .inl l3), (4, .inl l4), (5, .inl l5), (6, .inl l6)]) hG (pc := 104) d223_104 (ml223 _ (by decide)) rfl (am_c_aload_n hG (pc := 106) d223_106 rfl (am_c_iload hG (pc := 107) d223_107 rfl (am_c_iload hG (pc := 109) d223_109 rfl (am_c_iconst hG (pc := 111) d223_111 (by decide) (x_virtual_v (t := 11) (o := l0) (as2 := [.inl (w32 (l8 + 1)), .inl (w32 (l9 + 1)), .inl 3]) (rest := []) hG (pc := 112) d223_112 mo223 m11_378 (by decide) dp223_217 rfl rfl (Nat.le_of_ble_eq_true rfl) (Nat.le_of_ble_eq_true rfl) rg217 sd217 (e217 _ _ _ _ _) h (fun z6 h => (x_goto (tgt := 37) hG (pc := 115) d223_115 rfl (am_lvw (lv2 := [(0, .inr (.inr (11, l0))), (2, .inl l2), (3, .inl l3), (4, .inl l4), (5, .inl l5), (6, .inl l6), (7, .inl (w32 ((w32 (l7 + l6)) + l5))), (8, .inl (w32 (l8 + 1))), (9, .inl (w32 (l9 + 1)))]) [4, 5, 6, 7, 8, 9, 1, 2, 0] rfl (ih _ _ _ _ _ h hI hX)))))))))))))))))))))))))))))))))))))))) (fun h => (am_c_iload hG (pc := 43) d223_43 rfl (am_c_iload hG (pc := 45) d223_45 rfl (x_icmp_eq (tgt := 118) hG (pc := 47) d223_47 rfl h (fun h => (am_lvw (lv2 := []) [] rfl (hX (l7, l8, l9, μ) (Option.some.inj h).symm))) (fun h => (am_c_iconst hG (pc := 50) d223_50 (by decide) (am_c_iload hG (pc := 51) d223_51 rfl (am_c_imul hG (pc := 53) d223_53 (x_istore (lv' := [(10, .inl (w32 (2 * l7))), (0, .inr (.inr (11, l0))), (2, .inl l2), (3, .inl l3), (4, .inl l4), (5, .inl l5), (6, .inl l6), (7, .inl l7), (8, .inl l8), (9, .inl l9)]) hG (pc := 54) d223_54 (ml223 _ (by decide)) rfl (am_c_iload hG (pc := 56) d223_56 rfl (am_c_iload hG (pc := 58) d223_58 rfl (x_icmp_lt (tgt := 73) hG (pc := 60) d223_60 rfl h (fun h => (am_c_iload hG (pc := 73) d223_73 rfl (am_c_iload hG (pc := 75) d223_75 rfl (x_icmp_gt (tgt := 106) hG (pc := 77) d223_77 rfl h (fun h => (am_c_aload_n hG (pc := 106) d223_106 rfl (am_c_iload hG (pc := 107) d223_107 rfl (am_c_iload hG (pc := 109) d223_109 rfl (am_c_iconst hG (pc := 111) d223_111 (by decide) (x_virtual_v (t := 11) (o := l0) (as2 := [.inl l8, .inl l9, .inl 3]) (rest := []) hG (pc := 112) d223_112 mo223 m11_378 (by decide) dp223_217 rfl rfl (Nat.le_of_ble_eq_true rfl) (Nat.le_of_ble_eq_true rfl) rg217 sd217 (e217 _ _ _ _ _) h (fun z7 h => (x_goto (tgt := 37) hG (pc := 115) d223_115 rfl (am_lvw (lv2 := [(0, .inr (.inr (11, l0))), (2, .inl l2), (3, .inl l3), (4, .inl l4), (5, .inl l5), (6, .inl l6), (7, .inl l7), (8, .inl l8), (9, .inl l9)]) [1, 2, 3, 4, 5, 6, 7, 8, 9] rfl (ih _ _ _ _ _ h hI hX)))))))))) (fun h => (am_c_iload hG (pc := 80) d223_80 rfl (am_c_iload hG (pc := 82) d223_82 rfl (am_c_iadd hG (pc := 84) d223_84 (x_istore (lv' := [(7, .inl (w32 (l7 + l5))), (10, .inl (w32 (2 * l7))), (0, .inr (.inr (11, l0))), (2, .inl l2), (3, .inl l3), (4, .inl l4), (5, .inl l5), (6, .inl l6), (8, .inl l8), (9, .inl l9)]) hG (pc := 85) d223_85 (ml223 _ (by decide)) rfl (am_c_iload hG (pc := 87) d223_87 rfl (am_c_iload_n hG (pc := 89) d223_89 rfl (x_icmp_le (tgt := 100) hG (pc := 90) d223_90 rfl h (fun h => (am_c_iload hG (pc := 100) d223_100 rfl (am_c_iconst hG (pc := 102) d223_102 (by decide) (am_c_isub hG (pc := 103) d223_103 (x_istore (lv' := [(9, .inl (w32 (l9 - 1))), (7, .inl (w32 (l7 + l5))), (10, .inl (w32 (2 * l7))), (0, .inr (.inr (11, l0))), (2, .inl l2), (3, .inl l3), (4, .inl l4), (5, .inl l5), (6, .inl l6), (8, .inl l8)]) hG (pc := 104) d223_104 (ml223 _ (by decide)) rfl (am_c_aload_n hG (pc := 106) d223_106 rfl (am_c_iload hG (pc := 107) d223_107 rfl (am_c_iload hG (pc := 109) d223_109 rfl (am_c_iconst hG (pc := 111) d223_111 (by decide) (x_virtual_v (t := 11) (o := l0) (as2 := [.inl l8, .inl (w32 (l9 - 1)), .inl 3]) (rest := []) hG (pc := 112) d223_112 mo223 m11_378 (by decide) dp223_217 rfl rfl (Nat.le_of_ble_eq_true rfl) (Nat.le_of_ble_eq_true rfl) rg217 sd217 (e217 _ _ _ _ _) h (fun z8 h => (x_goto (tgt := 37) hG (pc := 115) d223_115 rfl (am_lvw (lv2 := [(0, .inr (.inr (11, l0))), (2, .inl l2), (3, .inl l3), (4, .inl l4), (5, .inl l5), (6, .inl l6), (7, .inl (w32 (l7 + l5))), (8, .inl l8), (9, .inl (w32 (l9 - 1)))]) [3, 4, 5, 6, 7, 8, 1, 9, 0] rfl (ih _ _ _ _ _ h hI hX)))))))))))))) (fun h => (am_c_iload hG (pc := 93) d223_93 rfl (am_c_iconst hG (pc := 95) d223_95 (by decide) (am_c_iadd hG (pc := 96) d223_96 (x_goto (tgt := 104) hG (pc := 97) d223_97 rfl (x_istore (lv' := [(9, .inl (w32 (l9 + 1))), (7, .inl (w32 (l7 + l5))), (10, .inl (w32 (2 * l7))), (0, .inr (.inr (11, l0))), (2, .inl l2), (3, .inl l3), (4, .inl l4), (5, .inl l5), (6, .inl l6), (8, .inl l8)]) hG (pc := 104) d223_104 (ml223 _ (by decide)) rfl (am_c_aload_n hG (pc := 106) d223_106 rfl (am_c_iload hG (pc := 107) d223_107 rfl (am_c_iload hG (pc := 109) d223_109 rfl (am_c_iconst hG (pc := 111) d223_111 (by decide) (x_virtual_v (t := 11) (o := l0) (as2 := [.inl l8, .inl (w32 (l9 + 1)), .inl 3]) (rest := []) hG (pc := 112) d223_112 mo223 m11_378 (by decide) dp223_217 rfl rfl (Nat.le_of_ble_eq_true rfl) (Nat.le_of_ble_eq_true rfl) rg217 sd217 (e217 _ _ _ _ _) h (fun z9 h => (x_goto (tgt := 37) hG (pc := 115) d223_115 rfl (am_lvw (lv2 := [(0, .inr (.inr (11, l0))), (2, .inl l2), (3, .inl l3), (4, .inl l4), (5, .inl l5), (6, .inl l6), (7, .inl (w32 (l7 + l5))), (8, .inl l8), (9, .inl (w32 (l9 + 1)))]) [3, 4, 5, 6, 7, 8, 1, 9, 0] rfl (ih _ _ _ _ _ h hI hX))))))))))))))))))))))))))) (fun h => (am_c_iload hG (pc := 63) d223_63 rfl (am_c_iload hG (pc := 65) d223_65 rfl (am_c_iadd hG (pc := 67) d223_67 (x_istore (lv' := [(7, .inl (w32 (l7 + l6))), (10, .inl (w32 (2 * l7))), (0, .inr (.inr (11, l0))), (2, .inl l2), (3, .inl l3), (4, .inl l4), (5, .inl l5), (6, .inl l6), (8, .inl l8), (9, .inl l9)]) hG (pc := 68) d223_68 (ml223 _ (by decide)) rfl (x_iinc (lv' := [(8, .inl (w32 (l8 + 1))), (7, .inl (w32 (l7 + l6))), (10, .inl (w32 (2 * l7))), (0, .inr (.inr (11, l0))), (2, .inl l2), (3, .inl l3), (4, .inl l4), (5, .inl l5), (6, .inl l6), (9, .inl l9)]) hG (pc := 70) d223_70 rfl (ml223 _ (by decide)) rfl (am_c_iload hG (pc := 73) d223_73 rfl (am_c_iload hG (pc := 75) d223_75 rfl (x_icmp_gt (tgt := 106) hG (pc := 77) d223_77 rfl h (fun h => (am_c_aload_n hG (pc := 106) d223_106 rfl (am_c_iload hG (pc := 107) d223_107 rfl (am_c_iload hG (pc := 109) d223_109 rfl (am_c_iconst hG (pc := 111) d223_111 (by decide) (x_virtual_v (t := 11) (o := l0) (as2 := [.inl (w32 (l8 + 1)), .inl l9, .inl 3]) (rest := []) hG (pc := 112) d223_112 mo223 m11_378 (by decide) dp223_217 rfl rfl (Nat.le_of_ble_eq_true rfl) (Nat.le_of_ble_eq_true rfl) rg217 sd217 (e217 _ _ _ _ _) h (fun z10 h => (x_goto (tgt := 37) hG (pc := 115) d223_115 rfl (am_lvw (lv2 := [(0, .inr (.inr (11, l0))), (2, .inl l2), (3, .inl l3), (4, .inl l4), (5, .inl l5), (6, .inl l6), (7, .inl (w32 (l7 + l6))), (8, .inl (w32 (l8 + 1))), (9, .inl l9)]) [3, 4, 5, 6, 7, 8, 1, 0, 9] rfl (ih _ _ _ _ _ h hI hX)))))))))) (fun h => (am_c_iload hG (pc := 80) d223_80 rfl (am_c_iload hG (pc := 82) d223_82 rfl (am_c_iadd hG (pc := 84) d223_84 (x_istore (lv' := [(7, .inl (w32 ((w32 (l7 + l6)) + l5))), (8, .inl (w32 (l8 + 1))), (10, .inl (w32 (2 * l7))), (0, .inr (.inr (11, l0))), (2, .inl l2), (3, .inl l3), (4, .inl l4), (5, .inl l5), (6, .inl l6), (9, .inl l9)]) hG (pc := 85) d223_85 (ml223 _ (by decide)) rfl (am_c_iload hG (pc := 87) d223_87 rfl (am_c_iload_n hG (pc := 89) d223_89 rfl (x_icmp_le (tgt := 100) hG (pc := 90) d223_90 rfl h (fun h => (am_c_iload hG (pc := 100) d223_100 rfl (am_c_iconst hG (pc := 102) d223_102 (by decide) (am_c_isub hG (pc := 103) d223_103 (x_istore (lv' := [(9, .inl (w32 (l9 - 1))), (7, .inl (w32 ((w32 (l7 + l6)) + l5))), (8, .inl (w32 (l8 + 1))), (10, .inl (w32 (2 * l7))), (0, .inr (.inr (11, l0))), (2, .inl l2), (3, .inl l3), (4, .inl l4), (5, .inl l5), (6, .inl l6)]) hG (pc := 104) d223_104 (ml223 _ (by decide)) rfl (am_c_aload_n hG (pc := 106) d223_106 rfl (am_c_iload hG (pc := 107) d223_107 rfl (am_c_iload hG (pc := 109) d223_109 rfl (am_c_iconst hG (pc := 111) d223_111 (by decide) (x_virtual_v (t := 11) (o := l0) (as2 := [.inl (w32 (l8 + 1)), .inl (w32 (l9 - 1)), .inl 3]) (rest := []) hG (pc := 112) d223_112 mo223 m11_378 (by decide) dp223_217 rfl rfl (Nat.le_of_ble_eq_true rfl) (Nat.le_of_ble_eq_true rfl) rg217 sd217 (e217 _ _ _ _ _) h (fun z11 h => (x_goto (tgt := 37) hG (pc := 115) d223_115 rfl (am_lvw (lv2 := [(0, .inr (.inr (11, l0))), (2, .inl l2), (3, .inl l3), (4, .inl l4), (5, .inl l5), (6, .inl l6), (7, .inl (w32 ((w32 (l7 + l6)) + l5))), (8, .inl (w32 (l8 + 1))), (9, .inl (w32 (l9 - 1)))]) [4, 5, 6, 7, 8, 9, 1, 2, 0] rfl (ih _ _ _ _ _ h hI hX)))))))))))))) (fun h => (am_c_iload hG (pc := 93) d223_93 rfl (am_c_iconst hG (pc := 95) d223_95 (by decide) (am_c_iadd hG (pc := 96) d223_96 (x_goto (tgt := 104) hG (pc := 97) d223_97 rfl (x_istore (lv' := [(9, .inl (w32 (l9 + 1))), (7, .inl (w32 ((w32 (l7 + l6)) + l5))), (8, .inl (w32 (l8 + 1))), (10, .inl (w32 (2 * l7))), (0, .inr (.inr (11, l0))), (2, .inl l2), (3, .inl l3), (4, .inl l4), (5, .inl l5), (6, .inl l6)]) hG (pc := 104) d223_104 (ml223 _ (by decide)) rfl (am_c_aload_n hG (pc := 106) d223_106 rfl (am_c_iload hG (pc := 107) d223_107 rfl (am_c_iload hG (pc := 109) d223_109 rfl (am_c_iconst hG (pc := 111) d223_111 (by decide) (x_virtual_v (t := 11) (o := l0) (as2 := [.inl (w32 (l8 + 1)), .inl (w32 (l9 + 1)), .inl 3]) (rest := []) hG (pc := 112) d223_112 mo223 m11_378 (by decide) dp223_217 rfl rfl (Nat.le_of_ble_eq_true rfl) (Nat.le_of_ble_eq_true rfl) rg217 sd217 (e217 _ _ _ _ _) h (fun z12 h => (x_goto (tgt := 37) hG (pc := 115) d223_115 rfl (am_lvw (lv2 := [(0, .inr (.inr (11, l0))), (2, .inl l2), (3, .inl l3), (4, .inl l4), (5, .inl l5), (6, .inl l6), (7, .inl (w32 ((w32 (l7 + l6)) + l5))), (8, .inl (w32 (l8 + 1))), (9, .inl (w32 (l9 + 1)))]) [4, 5, 6, 7, 8, 9, 1, 2, 0] rfl (ih _ _ _ _ _ h hI hX)))))))))))))))))))))))))))))))))))))))))))))))
def fn223 (o : Nat) (a : Int) (b : Int) (c : Int) (d : Int) (μ : am_M) : Option (Int × am_M) := (if b < d then (am_op (L223_37 o b c d (w32 (c - a)) (w32 (b - d)) am_fuel (w32 ((w32 (c - a)) + (w32 (b - d)))) a b μ) (fun s => am_lp s (fun q2 => some q2) (fun t2 => some (0, t2.2.2.2)))) else (am_op (L223_37 o b c d (w32 (c - a)) (w32 (d - b)) am_fuel (w32 ((w32 (c - a)) + (w32 (d - b)))) a b μ) (fun s => am_lp s (fun q1 => some q1) (fun t1 => some (0, t1.2.2.2)))))
def sp223 : am_F := fun vs μ => am_aR 11 vs fun o vs => am_aI vs fun a vs => am_aI vs fun b vs => am_aI vs fun c vs => am_aI vs fun d vs => am_a0 vs (fn223 o a b c d μ)
theorem e223 (o : Nat) (a : Int) (b : Int) (c : Int) (d : Int) (μ : am_M) : sp223 [.inr (.inr (11, o)), .inl a, .inl b, .inl c, .inl d] μ = fn223 o a b c d μ := am_aR_c.trans (am_aI_c.trans (am_aI_c.trans (am_aI_c.trans (am_aI_c.trans am_a0_c))))
theorem sd223 : am_Sd 223 sp223 := by
  refine am_Sd_of (by decide) (fun vs μ μ' x h hv hM => ?_)
  obtain ⟨o, vs0, rfl, h0⟩ := am_aR_s h
  obtain ⟨a, vs1, rfl, h1⟩ := am_aI_s h0
  obtain ⟨b, vs2, rfl, h2⟩ := am_aI_s h1
  obtain ⟨c, vs3, rfl, h3⟩ := am_aI_s h2
  obtain ⟨d, vs4, rfl, h4⟩ := am_aI_s h3
  obtain ⟨rfl, hz⟩ := am_a0_s h4
  refine ⟨Nat.le_of_ble_eq_true rfl, fun X C hG hr => ?_⟩
  have h := hz
  unfold fn223 at h
  exact (show am_W X C 223 _ 0 0 0 [(0, .inr (.inr (11, o))), (1, .inl a), (2, .inl b), (3, .inl c), (4, .inl d)] [] μ from (am_c_iload_n hG (pc := 0) d223_0 rfl (am_c_iload_n hG (pc := 1) d223_1 rfl (am_c_isub hG (pc := 2) d223_2 (x_istore (lv' := [(5, .inl (w32 (c - a))), (0, .inr (.inr (11, o))), (1, .inl a), (2, .inl b), (3, .inl c), (4, .inl d)]) hG (pc := 3) d223_3 (ml223 _ (by decide)) rfl (am_c_iload hG (pc := 5) d223_5 rfl (am_c_iload_n hG (pc := 7) d223_7 rfl (x_icmp_le (tgt := 18) hG (pc := 8) d223_8 rfl h (fun h => (am_c_iload hG (pc := 18) d223_18 rfl (am_c_iload_n hG (pc := 20) d223_20 rfl (am_c_isub hG (pc := 21) d223_21 (x_istore (lv' := [(6, .inl (w32 (d - b))), (5, .inl (w32 (c - a))), (0, .inr (.inr (11, o))), (1, .inl a), (2, .inl b), (3, .inl c), (4, .inl d)]) hG (pc := 22) d223_22 (ml223 _ (by decide)) rfl (am_c_iload hG (pc := 24) d223_24 rfl (am_c_iload hG (pc := 26) d223_26 rfl (am_c_iadd hG (pc := 28) d223_28 (x_istore (lv' := [(7, .inl (w32 ((w32 (c - a)) + (w32 (d - b))))), (6, .inl (w32 (d - b))), (5, .inl (w32 (c - a))), (0, .inr (.inr (11, o))), (1, .inl a), (2, .inl b), (3, .inl c), (4, .inl d)]) hG (pc := 29) d223_29 (ml223 _ (by decide)) rfl (am_c_iload_n hG (pc := 31) d223_31 rfl (x_istore (lv' := [(8, .inl a), (7, .inl (w32 ((w32 (c - a)) + (w32 (d - b))))), (6, .inl (w32 (d - b))), (5, .inl (w32 (c - a))), (0, .inr (.inr (11, o))), (1, .inl a), (2, .inl b), (3, .inl c), (4, .inl d)]) hG (pc := 32) d223_32 (ml223 _ (by decide)) rfl (am_c_iload_n hG (pc := 34) d223_34 rfl (x_istore (lv' := [(9, .inl b), (8, .inl a), (7, .inl (w32 ((w32 (c - a)) + (w32 (d - b))))), (6, .inl (w32 (d - b))), (5, .inl (w32 (c - a))), (0, .inr (.inr (11, o))), (1, .inl a), (2, .inl b), (3, .inl c), (4, .inl d)]) hG (pc := 35) d223_35 (ml223 _ (by decide)) rfl (x_lp h (fun r h1 h2 => (am_lvw (lv2 := [(0, .inr (.inr (11, o))), (2, .inl b), (3, .inl c), (4, .inl d), (5, .inl (w32 (c - a))), (6, .inl (w32 (d - b))), (7, .inl (w32 ((w32 (c - a)) + (w32 (d - b))))), (8, .inl a), (9, .inl b)]) [5, 7, 8, 9, 4, 3, 2, 1, 0] rfl (w223_37 hG hr _ _ _ _ _ _ _ _ _ _ _ _ h1 (fun q1 e => am_q1 e h2 (fun h => am_q0 h)) (fun t1 e => am_q2 e h2 (fun h => (xq_vret hG (by decide) hr (pc := 118) d223_118 rk223 (am_q0 h))))))))))))))))))))) (fun h => (am_c_iload_n hG (pc := 11) d223_11 rfl (am_c_iload hG (pc := 12) d223_12 rfl (am_c_isub hG (pc := 14) d223_14 (x_goto (tgt := 22) hG (pc := 15) d223_15 rfl (x_istore (lv' := [(6, .inl (w32 (b - d))), (5, .inl (w32 (c - a))), (0, .inr (.inr (11, o))), (1, .inl a), (2, .inl b), (3, .inl c), (4, .inl d)]) hG (pc := 22) d223_22 (ml223 _ (by decide)) rfl (am_c_iload hG (pc := 24) d223_24 rfl (am_c_iload hG (pc := 26) d223_26 rfl (am_c_iadd hG (pc := 28) d223_28 (x_istore (lv' := [(7, .inl (w32 ((w32 (c - a)) + (w32 (b - d))))), (6, .inl (w32 (b - d))), (5, .inl (w32 (c - a))), (0, .inr (.inr (11, o))), (1, .inl a), (2, .inl b), (3, .inl c), (4, .inl d)]) hG (pc := 29) d223_29 (ml223 _ (by decide)) rfl (am_c_iload_n hG (pc := 31) d223_31 rfl (x_istore (lv' := [(8, .inl a), (7, .inl (w32 ((w32 (c - a)) + (w32 (b - d))))), (6, .inl (w32 (b - d))), (5, .inl (w32 (c - a))), (0, .inr (.inr (11, o))), (1, .inl a), (2, .inl b), (3, .inl c), (4, .inl d)]) hG (pc := 32) d223_32 (ml223 _ (by decide)) rfl (am_c_iload_n hG (pc := 34) d223_34 rfl (x_istore (lv' := [(9, .inl b), (8, .inl a), (7, .inl (w32 ((w32 (c - a)) + (w32 (b - d))))), (6, .inl (w32 (b - d))), (5, .inl (w32 (c - a))), (0, .inr (.inr (11, o))), (1, .inl a), (2, .inl b), (3, .inl c), (4, .inl d)]) hG (pc := 35) d223_35 (ml223 _ (by decide)) rfl (x_lp h (fun r h1 h2 => (am_lvw (lv2 := [(0, .inr (.inr (11, o))), (2, .inl b), (3, .inl c), (4, .inl d), (5, .inl (w32 (c - a))), (6, .inl (w32 (b - d))), (7, .inl (w32 ((w32 (c - a)) + (w32 (b - d))))), (8, .inl a), (9, .inl b)]) [5, 7, 8, 9, 4, 3, 2, 1, 0] rfl (w223_37 hG hr _ _ _ _ _ _ _ _ _ _ _ _ h1 (fun q2 e => am_q1 e h2 (fun h => am_q0 h)) (fun t2 e => am_q2 e h2 (fun h => (xq_vret hG (by decide) hr (pc := 118) d223_118 rk223 (am_q0 h))))))))))))))))))))))))))))))
/-! ChartPressModel.drawMark(I)V -/
theorem D224 (k : Nat) {pc : Nat} {i : Instr} (h : tbi224[k]? = some (pc, i)) (hs : am_isw i = false) {n : Nat} (hn : am_il i = n) : decode (am_mc 224) pc = .ok (i, n) := am_d2 (by decide) (by decide) rfl h hs hn
theorem d224_0 : decode (am_mc 224) 0 = .ok (.aload_n 0, 1) := D224 0 rfl rfl rfl
theorem d224_1 : decode (am_mc 224) 1 = .ok (.iload_n 1, 1) := D224 1 rfl rfl rfl
theorem d224_2 : decode (am_mc 224) 2 = .ok (.invokevirtual 363, 3) := D224 2 rfl rfl rfl
theorem d224_5 : decode (am_mc 224) 5 = .ok (.istore_n 2, 1) := D224 3 rfl rfl rfl
theorem d224_6 : decode (am_mc 224) 6 = .ok (.aload_n 0, 1) := D224 4 rfl rfl rfl
theorem d224_7 : decode (am_mc 224) 7 = .ok (.aload_n 0, 1) := D224 5 rfl rfl rfl
theorem d224_8 : decode (am_mc 224) 8 = .ok (.getfield 60, 3) := D224 6 rfl rfl rfl
theorem d224_11 : decode (am_mc 224) 11 = .ok (.aload_n 0, 1) := D224 7 rfl rfl rfl
theorem d224_12 : decode (am_mc 224) 12 = .ok (.getfield 64, 3) := D224 8 rfl rfl rfl
theorem d224_15 : decode (am_mc 224) 15 = .ok (.iload_n 1, 1) := D224 9 rfl rfl rfl
theorem d224_16 : decode (am_mc 224) 16 = .ok (.iaload, 1) := D224 10 rfl rfl rfl
theorem d224_17 : decode (am_mc 224) 17 = .ok (.laload, 1) := D224 11 rfl rfl rfl
theorem d224_18 : decode (am_mc 224) 18 = .ok (.invokevirtual 382, 3) := D224 12 rfl rfl rfl
theorem d224_21 : decode (am_mc 224) 21 = .ok (.istore_n 3, 1) := D224 13 rfl rfl rfl
theorem d224_22 : decode (am_mc 224) 22 = .ok (.aload_n 0, 1) := D224 14 rfl rfl rfl
theorem d224_23 : decode (am_mc 224) 23 = .ok (.iload_n 2, 1) := D224 15 rfl rfl rfl
theorem d224_24 : decode (am_mc 224) 24 = .ok (.iload_n 3, 1) := D224 16 rfl rfl rfl
theorem d224_25 : decode (am_mc 224) 25 = .ok (.iconst 3, 1) := D224 17 rfl rfl rfl
theorem d224_26 : decode (am_mc 224) 26 = .ok (.invokevirtual 378, 3) := D224 18 rfl rfl rfl
theorem d224_29 : decode (am_mc 224) 29 = .ok (.aload_n 0, 1) := D224 19 rfl rfl rfl
theorem d224_30 : decode (am_mc 224) 30 = .ok (.getfield 244, 3) := D224 20 rfl rfl rfl
theorem d224_33 : decode (am_mc 224) 33 = .ok (.iconst 2, 1) := D224 21 rfl rfl rfl
theorem d224_34 : decode (am_mc 224) 34 = .ok (.if_icmp .ne 38, 3) := D224 22 rfl rfl rfl
theorem d224_37 : decode (am_mc 224) 37 = .ok (.aload_n 0, 1) := D224 23 rfl rfl rfl
theorem d224_38 : decode (am_mc 224) 38 = .ok (.iload_n 2, 1) := D224 24 rfl rfl rfl
theorem d224_39 : decode (am_mc 224) 39 = .ok (.iconst 1, 1) := D224 25 rfl rfl rfl
theorem d224_40 : decode (am_mc 224) 40 = .ok (.isub, 1) := D224 26 rfl rfl rfl
theorem d224_41 : decode (am_mc 224) 41 = .ok (.iload_n 3, 1) := D224 27 rfl rfl rfl
theorem d224_42 : decode (am_mc 224) 42 = .ok (.invokevirtual 389, 3) := D224 28 rfl rfl rfl
theorem d224_45 : decode (am_mc 224) 45 = .ok (.aload_n 0, 1) := D224 29 rfl rfl rfl
theorem d224_46 : decode (am_mc 224) 46 = .ok (.iload_n 2, 1) := D224 30 rfl rfl rfl
theorem d224_47 : decode (am_mc 224) 47 = .ok (.iconst 1, 1) := D224 31 rfl rfl rfl
theorem d224_48 : decode (am_mc 224) 48 = .ok (.iadd, 1) := D224 32 rfl rfl rfl
theorem d224_49 : decode (am_mc 224) 49 = .ok (.iload_n 3, 1) := D224 33 rfl rfl rfl
theorem d224_50 : decode (am_mc 224) 50 = .ok (.invokevirtual 389, 3) := D224 34 rfl rfl rfl
theorem d224_53 : decode (am_mc 224) 53 = .ok (.aload_n 0, 1) := D224 35 rfl rfl rfl
theorem d224_54 : decode (am_mc 224) 54 = .ok (.iload_n 2, 1) := D224 36 rfl rfl rfl
theorem d224_55 : decode (am_mc 224) 55 = .ok (.iload_n 3, 1) := D224 37 rfl rfl rfl
theorem d224_56 : decode (am_mc 224) 56 = .ok (.iconst 1, 1) := D224 38 rfl rfl rfl
theorem d224_57 : decode (am_mc 224) 57 = .ok (.isub, 1) := D224 39 rfl rfl rfl
theorem d224_58 : decode (am_mc 224) 58 = .ok (.invokevirtual 389, 3) := D224 40 rfl rfl rfl
theorem d224_61 : decode (am_mc 224) 61 = .ok (.aload_n 0, 1) := D224 41 rfl rfl rfl
theorem d224_62 : decode (am_mc 224) 62 = .ok (.iload_n 2, 1) := D224 42 rfl rfl rfl
theorem d224_63 : decode (am_mc 224) 63 = .ok (.iload_n 3, 1) := D224 43 rfl rfl rfl
theorem d224_64 : decode (am_mc 224) 64 = .ok (.iconst 1, 1) := D224 44 rfl rfl rfl
theorem d224_65 : decode (am_mc 224) 65 = .ok (.iadd, 1) := D224 45 rfl rfl rfl
theorem d224_66 : decode (am_mc 224) 66 = .ok (.invokevirtual 389, 3) := D224 46 rfl rfl rfl
theorem d224_69 : decode (am_mc 224) 69 = .ok (.goto 37, 3) := D224 47 rfl rfl rfl
theorem d224_72 : decode (am_mc 224) 72 = .ok (.iload_n 1, 1) := D224 48 rfl rfl rfl
theorem d224_73 : decode (am_mc 224) 73 = .ok (.ifCond .le 33, 3) := D224 49 rfl rfl rfl
theorem d224_76 : decode (am_mc 224) 76 = .ok (.aload_n 0, 1) := D224 50 rfl rfl rfl
theorem d224_77 : decode (am_mc 224) 77 = .ok (.aload_n 0, 1) := D224 51 rfl rfl rfl
theorem d224_78 : decode (am_mc 224) 78 = .ok (.iload_n 1, 1) := D224 52 rfl rfl rfl
theorem d224_79 : decode (am_mc 224) 79 = .ok (.iconst 1, 1) := D224 53 rfl rfl rfl
theorem d224_80 : decode (am_mc 224) 80 = .ok (.isub, 1) := D224 54 rfl rfl rfl
theorem d224_81 : decode (am_mc 224) 81 = .ok (.invokevirtual 363, 3) := D224 55 rfl rfl rfl
theorem d224_84 : decode (am_mc 224) 84 = .ok (.aload_n 0, 1) := D224 56 rfl rfl rfl
theorem d224_85 : decode (am_mc 224) 85 = .ok (.aload_n 0, 1) := D224 57 rfl rfl rfl
theorem d224_86 : decode (am_mc 224) 86 = .ok (.getfield 60, 3) := D224 58 rfl rfl rfl
theorem d224_89 : decode (am_mc 224) 89 = .ok (.aload_n 0, 1) := D224 59 rfl rfl rfl
theorem d224_90 : decode (am_mc 224) 90 = .ok (.getfield 64, 3) := D224 60 rfl rfl rfl
theorem d224_93 : decode (am_mc 224) 93 = .ok (.iload_n 1, 1) := D224 61 rfl rfl rfl
theorem d224_94 : decode (am_mc 224) 94 = .ok (.iconst 1, 1) := D224 62 rfl rfl rfl
theorem d224_95 : decode (am_mc 224) 95 = .ok (.isub, 1) := D224 63 rfl rfl rfl
theorem d224_96 : decode (am_mc 224) 96 = .ok (.iaload, 1) := D224 64 rfl rfl rfl
theorem d224_97 : decode (am_mc 224) 97 = .ok (.laload, 1) := D224 65 rfl rfl rfl
theorem d224_98 : decode (am_mc 224) 98 = .ok (.invokevirtual 382, 3) := D224 66 rfl rfl rfl
theorem d224_101 : decode (am_mc 224) 101 = .ok (.iload_n 2, 1) := D224 67 rfl rfl rfl
theorem d224_102 : decode (am_mc 224) 102 = .ok (.iload_n 3, 1) := D224 68 rfl rfl rfl
theorem d224_103 : decode (am_mc 224) 103 = .ok (.invokevirtual 393, 3) := D224 69 rfl rfl rfl
theorem d224_106 : decode (am_mc 224) 106 = .ok (.return_, 1) := D224 70 rfl rfl rfl
theorem ml224 : ∀ n, n < 4 → n < am_ml 224 := fun _ h => h
theorem mo224 : am_mo 224 = 11 := by decide +kernel
theorem rk224 : am_rk 224 = 0 := by decide +kernel
theorem rg224 : am_rcg 224 = 12 := by decide +kernel
theorem m11_389 : tb_m 11 389 = some (222, 3, 0, 0) := by decide +kernel
theorem m11_393 : tb_m 11 393 = some (223, 5, 0, 0) := by decide +kernel
theorem dp224_213 : am_md 213 + 1 ≤ am_md 224 ∧ 8 + (am_ml 213 + 11) + am_lr 213 ≤ am_lr 224 := by decide +kernel
theorem dp224_217 : am_md 217 + 1 ≤ am_md 224 ∧ 8 + (am_ml 217 + 11) + am_lr 217 ≤ am_lr 224 := by decide +kernel
theorem dp224_218 : am_md 218 + 1 ≤ am_md 224 ∧ 8 + (am_ml 218 + 11) + am_lr 218 ≤ am_lr 224 := by decide +kernel
theorem dp224_222 : am_md 222 + 1 ≤ am_md 224 ∧ 8 + (am_ml 222 + 11) + am_lr 222 ≤ am_lr 224 := by decide +kernel
theorem dp224_223 : am_md 223 + 1 ≤ am_md 224 ∧ 8 + (am_ml 223 + 11) + am_lr 223 ≤ am_lr 224 := by decide +kernel
def fn224 (o : Nat) (a : Int) (μ : am_M) : Option (Int × am_M) := (am_op (fn213 o a μ) (fun z1 => (if (0 : Int) ≤ a ∧ a < ((am_len (am_ref o 36) : Nat) : Int) then (if (0 : Int) ≤ z1.2 (am_ref o 36) (a : Int).toNat ∧ z1.2 (am_ref o 36) (a : Int).toNat < ((am_len (am_ref o 35) : Nat) : Int) then (am_op (fn218 o (z1.2 (am_ref o 35) (z1.2 (am_ref o 36) (a : Int).toNat : Int).toNat) z1.2) (fun z2 => (am_op (fn217 o z1.1 z2.1 3 z2.2) (fun z3 => (if z3.2 o 20 = 2 then (am_op (fn222 o (w32 (z1.1 - 1)) z2.1 z3.2) (fun z7 => (am_op (fn222 o (w32 (z1.1 + 1)) z2.1 z7.2) (fun z8 => (am_op (fn222 o z1.1 (w32 (z2.1 - 1)) z8.2) (fun z9 => (am_op (fn222 o z1.1 (w32 (z2.1 + 1)) z9.2) (fun z10 => some (0, z10.2))))))))) else (if 0 < a then (am_op (fn213 o (w32 (a - 1)) z3.2) (fun z4 => (if (0 : Int) ≤ w32 (a - 1) ∧ w32 (a - 1) < ((am_len (am_ref o 36) : Nat) : Int) then (if (0 : Int) ≤ z4.2 (am_ref o 36) (w32 (a - 1) : Int).toNat ∧ z4.2 (am_ref o 36) (w32 (a - 1) : Int).toNat < ((am_len (am_ref o 35) : Nat) : Int) then (am_op (fn218 o (z4.2 (am_ref o 35) (z4.2 (am_ref o 36) (w32 (a - 1) : Int).toNat : Int).toNat) z4.2) (fun z5 => (am_op (fn223 o z4.1 z5.1 z1.1 z2.1 z5.2) (fun z6 => some (0, z6.2))))) else none) else none))) else some (0, z3.2))))))) else none) else none)))
def sp224 : am_F := fun vs μ => am_aR 11 vs fun o vs => am_aI vs fun a vs => am_a0 vs (fn224 o a μ)
theorem e224 (o : Nat) (a : Int) (μ : am_M) : sp224 [.inr (.inr (11, o)), .inl a] μ = fn224 o a μ := am_aR_c.trans (am_aI_c.trans am_a0_c)
theorem sd224 : am_Sd 224 sp224 := by
  refine am_Sd_of (by decide) (fun vs μ μ' x h hv hM => ?_)
  obtain ⟨o, vs0, rfl, h0⟩ := am_aR_s h
  obtain ⟨a, vs1, rfl, h1⟩ := am_aI_s h0
  obtain ⟨rfl, hz⟩ := am_a0_s h1
  refine ⟨Nat.le_of_ble_eq_true rfl, fun X C hG hr => ?_⟩
  have h := hz
  unfold fn224 at h
  exact (show am_W X C 224 _ 0 0 0 [(0, .inr (.inr (11, o))), (1, .inl a)] [] μ from (am_c_aload_n hG (pc := 0) d224_0 rfl (am_c_iload_n hG (pc := 1) d224_1 rfl (x_virtual_i (t := 11) (o := o) (as2 := [.inl a]) (rest := []) hG (pc := 2) d224_2 mo224 m11_363 (by decide) dp224_213 rfl rfl (Nat.le_of_ble_eq_true rfl) (Nat.le_of_ble_eq_true rfl) rg213 sd213 (e213 _ _ _) h (fun z1 h => (x_istore_n (lv' := [(2, .inl z1.1), (0, .inr (.inr (11, o))), (1, .inl a)]) hG (pc := 5) d224_5 (ml224 _ (by decide)) rfl (am_c_aload_n hG (pc := 6) d224_6 rfl (am_c_aload_n hG (pc := 7) d224_7 rfl (x_get_n (v := .inr (.inr (17, am_ref o 35))) hG (pc := 8) d224_8 mo224 f11_60 rfl (am_c_aload_n hG (pc := 11) d224_11 rfl (x_get_n (v := .inr (.inr (16, am_ref o 36))) hG (pc := 12) d224_12 mo224 f11_64 rfl (am_c_iload_n hG (pc := 15) d224_15 rfl (x_iaload hG (pc := 16) d224_16 h (fun h => (x_laload hG (pc := 17) d224_17 h (fun h => (x_virtual_i (t := 11) (o := o) (as2 := [.inr (.inl (z1.2 (am_ref o 35) (z1.2 (am_ref o 36) (a : Int).toNat : Int).toNat))]) (rest := []) hG (pc := 18) d224_18 mo224 m11_382 (by decide) dp224_218 rfl rfl (Nat.le_of_ble_eq_true rfl) (Nat.le_of_ble_eq_true rfl) rg218 sd218 (e218 _ _ _) h (fun z2 h => (x_istore_n (lv' := [(3, .inl z2.1), (2, .inl z1.1), (0, .inr (.inr (11, o))), (1, .inl a)]) hG (pc := 21) d224_21 (ml224 _ (by decide)) rfl (am_c_aload_n hG (pc := 22) d224_22 rfl (am_c_iload_n hG (pc := 23) d224_23 rfl (am_c_iload_n hG (pc := 24) d224_24 rfl (am_c_iconst hG (pc := 25) d224_25 (by decide) (x_virtual_v (t := 11) (o := o) (as2 := [.inl z1.1, .inl z2.1, .inl 3]) (rest := []) hG (pc := 26) d224_26 mo224 m11_378 (by decide) dp224_217 rfl rfl (Nat.le_of_ble_eq_true rfl) (Nat.le_of_ble_eq_true rfl) rg217 sd217 (e217 _ _ _ _ _) h (fun z3 h => (am_c_aload_n hG (pc := 29) d224_29 rfl (x_get_n (v := .inl (z3.2 o 20)) hG (pc := 30) d224_30 mo224 f11_244 rfl (am_c_iconst hG (pc := 33) d224_33 (by decide) (x_icmp_ne (tgt := 72) hG (pc := 34) d224_34 rfl h (fun h => (am_c_iload_n hG (pc := 72) d224_72 rfl (x_if_le (tgt := 106) hG (pc := 73) d224_73 rfl h (fun h => (xq_vret hG (by decide) hr (pc := 106) d224_106 rk224 (am_q0 h))) (fun h => (am_c_aload_n hG (pc := 76) d224_76 rfl (am_c_aload_n hG (pc := 77) d224_77 rfl (am_c_iload_n hG (pc := 78) d224_78 rfl (am_c_iconst hG (pc := 79) d224_79 (by decide) (am_c_isub hG (pc := 80) d224_80 (x_virtual_i (t := 11) (o := o) (as2 := [.inl (w32 (a - 1))]) (rest := [.inr (.inr (11, o))]) hG (pc := 81) d224_81 mo224 m11_363 (by decide) dp224_213 rfl rfl (Nat.le_of_ble_eq_true rfl) (Nat.le_of_ble_eq_true rfl) rg213 sd213 (e213 _ _ _) h (fun z4 h => (am_c_aload_n hG (pc := 84) d224_84 rfl (am_c_aload_n hG (pc := 85) d224_85 rfl (x_get_n (v := .inr (.inr (17, am_ref o 35))) hG (pc := 86) d224_86 mo224 f11_60 rfl (am_c_aload_n hG (pc := 89) d224_89 rfl (x_get_n (v := .inr (.inr (16, am_ref o 36))) hG (pc := 90) d224_90 mo224 f11_64 rfl (am_c_iload_n hG (pc := 93) d224_93 rfl (am_c_iconst hG (pc := 94) d224_94 (by decide) (am_c_isub hG (pc := 95) d224_95 (x_iaload hG (pc := 96) d224_96 h (fun h => (x_laload hG (pc := 97) d224_97 h (fun h => (x_virtual_i (t := 11) (o := o) (as2 := [.inr (.inl (z4.2 (am_ref o 35) (z4.2 (am_ref o 36) (w32 (a - 1) : Int).toNat : Int).toNat))]) (rest := [.inl z4.1, .inr (.inr (11, o))]) hG (pc := 98) d224_98 mo224 m11_382 (by decide) dp224_218 rfl rfl (Nat.le_of_ble_eq_true rfl) (Nat.le_of_ble_eq_true rfl) rg218 sd218 (e218 _ _ _) h (fun z5 h => (am_c_iload_n hG (pc := 101) d224_101 rfl (am_c_iload_n hG (pc := 102) d224_102 rfl (x_virtual_v (t := 11) (o := o) (as2 := [.inl z4.1, .inl z5.1, .inl z1.1, .inl z2.1]) (rest := []) hG (pc := 103) d224_103 mo224 m11_393 (by decide) dp224_223 rfl rfl (Nat.le_of_ble_eq_true rfl) (Nat.le_of_ble_eq_true rfl) rg223 sd223 (e223 _ _ _ _ _ _) h (fun z6 h => (xq_vret hG (by decide) hr (pc := 106) d224_106 rk224 (am_q0 h))))))))))))))))))))))))))))))) (fun h => (am_c_aload_n hG (pc := 37) d224_37 rfl (am_c_iload_n hG (pc := 38) d224_38 rfl (am_c_iconst hG (pc := 39) d224_39 (by decide) (am_c_isub hG (pc := 40) d224_40 (am_c_iload_n hG (pc := 41) d224_41 rfl (x_virtual_v (t := 11) (o := o) (as2 := [.inl (w32 (z1.1 - 1)), .inl z2.1]) (rest := []) hG (pc := 42) d224_42 mo224 m11_389 (by decide) dp224_222 rfl rfl (Nat.le_of_ble_eq_true rfl) (Nat.le_of_ble_eq_true rfl) rg222 sd222 (e222 _ _ _ _) h (fun z7 h => (am_c_aload_n hG (pc := 45) d224_45 rfl (am_c_iload_n hG (pc := 46) d224_46 rfl (am_c_iconst hG (pc := 47) d224_47 (by decide) (am_c_iadd hG (pc := 48) d224_48 (am_c_iload_n hG (pc := 49) d224_49 rfl (x_virtual_v (t := 11) (o := o) (as2 := [.inl (w32 (z1.1 + 1)), .inl z2.1]) (rest := []) hG (pc := 50) d224_50 mo224 m11_389 (by decide) dp224_222 rfl rfl (Nat.le_of_ble_eq_true rfl) (Nat.le_of_ble_eq_true rfl) rg222 sd222 (e222 _ _ _ _) h (fun z8 h => (am_c_aload_n hG (pc := 53) d224_53 rfl (am_c_iload_n hG (pc := 54) d224_54 rfl (am_c_iload_n hG (pc := 55) d224_55 rfl (am_c_iconst hG (pc := 56) d224_56 (by decide) (am_c_isub hG (pc := 57) d224_57 (x_virtual_v (t := 11) (o := o) (as2 := [.inl z1.1, .inl (w32 (z2.1 - 1))]) (rest := []) hG (pc := 58) d224_58 mo224 m11_389 (by decide) dp224_222 rfl rfl (Nat.le_of_ble_eq_true rfl) (Nat.le_of_ble_eq_true rfl) rg222 sd222 (e222 _ _ _ _) h (fun z9 h => (am_c_aload_n hG (pc := 61) d224_61 rfl (am_c_iload_n hG (pc := 62) d224_62 rfl (am_c_iload_n hG (pc := 63) d224_63 rfl (am_c_iconst hG (pc := 64) d224_64 (by decide) (am_c_iadd hG (pc := 65) d224_65 (x_virtual_v (t := 11) (o := o) (as2 := [.inl z1.1, .inl (w32 (z2.1 + 1))]) (rest := []) hG (pc := 66) d224_66 mo224 m11_389 (by decide) dp224_222 rfl rfl (Nat.le_of_ble_eq_true rfl) (Nat.le_of_ble_eq_true rfl) rg222 sd222 (e222 _ _ _ _) h (fun z10 h => (x_goto (tgt := 106) hG (pc := 69) d224_69 rfl (xq_vret hG (by decide) hr (pc := 106) d224_106 rk224 (am_q0 h)))))))))))))))))))))))))))))))))))))))))))))))))))))))))))))
/-! ChartPressModel.drawBar(II)V -/
theorem D225 (k : Nat) {pc : Nat} {i : Instr} (h : tbi225[k]? = some (pc, i)) (hs : am_isw i = false) {n : Nat} (hn : am_il i = n) : decode (am_mc 225) pc = .ok (i, n) := am_d2 (by decide) (by decide) rfl h hs hn
theorem d225_0 : decode (am_mc 225) 0 = .ok (.aload_n 0, 1) := D225 0 rfl rfl rfl
theorem d225_1 : decode (am_mc 225) 1 = .ok (.getfield 64, 3) := D225 1 rfl rfl rfl
theorem d225_4 : decode (am_mc 225) 4 = .ok (.iload_n 1, 1) := D225 2 rfl rfl rfl
theorem d225_5 : decode (am_mc 225) 5 = .ok (.iaload, 1) := D225 3 rfl rfl rfl
theorem d225_6 : decode (am_mc 225) 6 = .ok (.istore_n 3, 1) := D225 4 rfl rfl rfl
theorem d225_7 : decode (am_mc 225) 7 = .ok (.aload_n 0, 1) := D225 5 rfl rfl rfl
theorem d225_8 : decode (am_mc 225) 8 = .ok (.iload_n 3, 1) := D225 6 rfl rfl rfl
theorem d225_9 : decode (am_mc 225) 9 = .ok (.iload_n 2, 1) := D225 7 rfl rfl rfl
theorem d225_10 : decode (am_mc 225) 10 = .ok (.invokevirtual 323, 3) := D225 8 rfl rfl rfl
theorem d225_13 : decode (am_mc 225) 13 = .ok (.lstore 4, 2) := D225 9 rfl rfl rfl
theorem d225_15 : decode (am_mc 225) 15 = .ok (.lload 4, 2) := D225 10 rfl rfl rfl
theorem d225_17 : decode (am_mc 225) 17 = .ok (.lconst 0, 1) := D225 11 rfl rfl rfl
theorem d225_18 : decode (am_mc 225) 18 = .ok (.lcmp, 1) := D225 12 rfl rfl rfl
theorem d225_19 : decode (am_mc 225) 19 = .ok (.ifCond .ne 4, 3) := D225 13 rfl rfl rfl
theorem d225_22 : decode (am_mc 225) 22 = .ok (.return_, 1) := D225 14 rfl rfl rfl
theorem d225_23 : decode (am_mc 225) 23 = .ok (.aload_n 0, 1) := D225 15 rfl rfl rfl
theorem d225_24 : decode (am_mc 225) 24 = .ok (.iload_n 3, 1) := D225 16 rfl rfl rfl
theorem d225_25 : decode (am_mc 225) 25 = .ok (.iload_n 2, 1) := D225 17 rfl rfl rfl
theorem d225_26 : decode (am_mc 225) 26 = .ok (.lload 4, 2) := D225 18 rfl rfl rfl
theorem d225_28 : decode (am_mc 225) 28 = .ok (.lconst 0, 1) := D225 19 rfl rfl rfl
theorem d225_29 : decode (am_mc 225) 29 = .ok (.lcmp, 1) := D225 20 rfl rfl rfl
theorem d225_30 : decode (am_mc 225) 30 = .ok (.ifCond .le 7, 3) := D225 21 rfl rfl rfl
theorem d225_33 : decode (am_mc 225) 33 = .ok (.iconst 1, 1) := D225 22 rfl rfl rfl
theorem d225_34 : decode (am_mc 225) 34 = .ok (.goto 4, 3) := D225 23 rfl rfl rfl
theorem d225_37 : decode (am_mc 225) 37 = .ok (.iconst (-1), 1) := D225 24 rfl rfl rfl
theorem d225_38 : decode (am_mc 225) 38 = .ok (.invokevirtual 317, 3) := D225 25 rfl rfl rfl
theorem d225_41 : decode (am_mc 225) 41 = .ok (.lstore 6, 2) := D225 26 rfl rfl rfl
theorem d225_43 : decode (am_mc 225) 43 = .ok (.aload_n 0, 1) := D225 27 rfl rfl rfl
theorem d225_44 : decode (am_mc 225) 44 = .ok (.lload 6, 2) := D225 28 rfl rfl rfl
theorem d225_46 : decode (am_mc 225) 46 = .ok (.invokevirtual 382, 3) := D225 29 rfl rfl rfl
theorem d225_49 : decode (am_mc 225) 49 = .ok (.istore 8, 2) := D225 30 rfl rfl rfl
theorem d225_51 : decode (am_mc 225) 51 = .ok (.aload_n 0, 1) := D225 31 rfl rfl rfl
theorem d225_52 : decode (am_mc 225) 52 = .ok (.lload 6, 2) := D225 32 rfl rfl rfl
theorem d225_54 : decode (am_mc 225) 54 = .ok (.lload 4, 2) := D225 33 rfl rfl rfl
theorem d225_56 : decode (am_mc 225) 56 = .ok (.ladd, 1) := D225 34 rfl rfl rfl
theorem d225_57 : decode (am_mc 225) 57 = .ok (.invokevirtual 382, 3) := D225 35 rfl rfl rfl
theorem d225_60 : decode (am_mc 225) 60 = .ok (.istore 9, 2) := D225 36 rfl rfl rfl
theorem d225_62 : decode (am_mc 225) 62 = .ok (.iload 8, 2) := D225 37 rfl rfl rfl
theorem d225_64 : decode (am_mc 225) 64 = .ok (.iload 9, 2) := D225 38 rfl rfl rfl
theorem d225_66 : decode (am_mc 225) 66 = .ok (.if_icmp .ge 8, 3) := D225 39 rfl rfl rfl
theorem d225_69 : decode (am_mc 225) 69 = .ok (.iload 8, 2) := D225 40 rfl rfl rfl
theorem d225_71 : decode (am_mc 225) 71 = .ok (.goto 5, 3) := D225 41 rfl rfl rfl
theorem d225_74 : decode (am_mc 225) 74 = .ok (.iload 9, 2) := D225 42 rfl rfl rfl
theorem d225_76 : decode (am_mc 225) 76 = .ok (.istore 10, 2) := D225 43 rfl rfl rfl
theorem d225_78 : decode (am_mc 225) 78 = .ok (.iload 8, 2) := D225 44 rfl rfl rfl
theorem d225_80 : decode (am_mc 225) 80 = .ok (.iload 9, 2) := D225 45 rfl rfl rfl
theorem d225_82 : decode (am_mc 225) 82 = .ok (.if_icmp .ge 8, 3) := D225 46 rfl rfl rfl
theorem d225_85 : decode (am_mc 225) 85 = .ok (.iload 9, 2) := D225 47 rfl rfl rfl
theorem d225_87 : decode (am_mc 225) 87 = .ok (.goto 5, 3) := D225 48 rfl rfl rfl
theorem d225_90 : decode (am_mc 225) 90 = .ok (.iload 8, 2) := D225 49 rfl rfl rfl
theorem d225_92 : decode (am_mc 225) 92 = .ok (.istore 11, 2) := D225 50 rfl rfl rfl
theorem d225_94 : decode (am_mc 225) 94 = .ok (.aload_n 0, 1) := D225 51 rfl rfl rfl
theorem d225_95 : decode (am_mc 225) 95 = .ok (.iload_n 1, 1) := D225 52 rfl rfl rfl
theorem d225_96 : decode (am_mc 225) 96 = .ok (.invokevirtual 357, 3) := D225 53 rfl rfl rfl
theorem d225_99 : decode (am_mc 225) 99 = .ok (.aload_n 0, 1) := D225 54 rfl rfl rfl
theorem d225_100 : decode (am_mc 225) 100 = .ok (.iload_n 1, 1) := D225 55 rfl rfl rfl
theorem d225_101 : decode (am_mc 225) 101 = .ok (.invokevirtual 354, 3) := D225 56 rfl rfl rfl
theorem d225_104 : decode (am_mc 225) 104 = .ok (.if_icmp .le 13, 3) := D225 57 rfl rfl rfl
theorem d225_107 : decode (am_mc 225) 107 = .ok (.aload_n 0, 1) := D225 58 rfl rfl rfl
theorem d225_108 : decode (am_mc 225) 108 = .ok (.iload_n 1, 1) := D225 59 rfl rfl rfl
theorem d225_109 : decode (am_mc 225) 109 = .ok (.invokevirtual 357, 3) := D225 60 rfl rfl rfl
theorem d225_112 : decode (am_mc 225) 112 = .ok (.iconst 1, 1) := D225 61 rfl rfl rfl
theorem d225_113 : decode (am_mc 225) 113 = .ok (.isub, 1) := D225 62 rfl rfl rfl
theorem d225_114 : decode (am_mc 225) 114 = .ok (.goto 8, 3) := D225 63 rfl rfl rfl
theorem d225_117 : decode (am_mc 225) 117 = .ok (.aload_n 0, 1) := D225 64 rfl rfl rfl
theorem d225_118 : decode (am_mc 225) 118 = .ok (.iload_n 1, 1) := D225 65 rfl rfl rfl
theorem d225_119 : decode (am_mc 225) 119 = .ok (.invokevirtual 357, 3) := D225 66 rfl rfl rfl
theorem d225_122 : decode (am_mc 225) 122 = .ok (.istore 12, 2) := D225 67 rfl rfl rfl
theorem d225_124 : decode (am_mc 225) 124 = .ok (.iload 10, 2) := D225 68 rfl rfl rfl
theorem d225_126 : decode (am_mc 225) 126 = .ok (.istore 13, 2) := D225 69 rfl rfl rfl
theorem d225_128 : decode (am_mc 225) 128 = .ok (.iload 13, 2) := D225 70 rfl rfl rfl
theorem d225_130 : decode (am_mc 225) 130 = .ok (.iload 11, 2) := D225 71 rfl rfl rfl
theorem d225_132 : decode (am_mc 225) 132 = .ok (.if_icmp .gt 75, 3) := D225 72 rfl rfl rfl
theorem d225_135 : decode (am_mc 225) 135 = .ok (.iload 13, 2) := D225 73 rfl rfl rfl
theorem d225_137 : decode (am_mc 225) 137 = .ok (.iload 8, 2) := D225 74 rfl rfl rfl
theorem d225_139 : decode (am_mc 225) 139 = .ok (.if_icmp .ne 21, 3) := D225 75 rfl rfl rfl
theorem d225_142 : decode (am_mc 225) 142 = .ok (.lload 6, 2) := D225 76 rfl rfl rfl
theorem d225_144 : decode (am_mc 225) 144 = .ok (.lconst 0, 1) := D225 77 rfl rfl rfl
theorem d225_145 : decode (am_mc 225) 145 = .ok (.lcmp, 1) := D225 78 rfl rfl rfl
theorem d225_146 : decode (am_mc 225) 146 = .ok (.ifCond .eq 14, 3) := D225 79 rfl rfl rfl
theorem d225_149 : decode (am_mc 225) 149 = .ok (.iload 8, 2) := D225 80 rfl rfl rfl
theorem d225_151 : decode (am_mc 225) 151 = .ok (.iload 9, 2) := D225 81 rfl rfl rfl
theorem d225_153 : decode (am_mc 225) 153 = .ok (.if_icmp .eq 7, 3) := D225 82 rfl rfl rfl
theorem d225_156 : decode (am_mc 225) 156 = .ok (.iconst 1, 1) := D225 83 rfl rfl rfl
theorem d225_157 : decode (am_mc 225) 157 = .ok (.goto 4, 3) := D225 84 rfl rfl rfl
theorem d225_160 : decode (am_mc 225) 160 = .ok (.iconst 0, 1) := D225 85 rfl rfl rfl
theorem d225_161 : decode (am_mc 225) 161 = .ok (.istore 14, 2) := D225 86 rfl rfl rfl
theorem d225_163 : decode (am_mc 225) 163 = .ok (.aload_n 0, 1) := D225 87 rfl rfl rfl
theorem d225_164 : decode (am_mc 225) 164 = .ok (.iload_n 1, 1) := D225 88 rfl rfl rfl
theorem d225_165 : decode (am_mc 225) 165 = .ok (.invokevirtual 354, 3) := D225 89 rfl rfl rfl
theorem d225_168 : decode (am_mc 225) 168 = .ok (.istore 15, 2) := D225 90 rfl rfl rfl
theorem d225_170 : decode (am_mc 225) 170 = .ok (.iload 15, 2) := D225 91 rfl rfl rfl
theorem d225_172 : decode (am_mc 225) 172 = .ok (.iload 12, 2) := D225 92 rfl rfl rfl
theorem d225_174 : decode (am_mc 225) 174 = .ok (.if_icmp .gt 27, 3) := D225 93 rfl rfl rfl
theorem d225_177 : decode (am_mc 225) 177 = .ok (.iload 14, 2) := D225 94 rfl rfl rfl
theorem d225_179 : decode (am_mc 225) 179 = .ok (.ifCond .ne 22, 3) := D225 95 rfl rfl rfl
theorem d225_182 : decode (am_mc 225) 182 = .ok (.aload_n 0, 1) := D225 96 rfl rfl rfl
theorem d225_183 : decode (am_mc 225) 183 = .ok (.iload 15, 2) := D225 97 rfl rfl rfl
theorem d225_185 : decode (am_mc 225) 185 = .ok (.iload 13, 2) := D225 98 rfl rfl rfl
theorem d225_187 : decode (am_mc 225) 187 = .ok (.iconst 3, 1) := D225 99 rfl rfl rfl
theorem d225_188 : decode (am_mc 225) 188 = .ok (.iload_n 2, 1) := D225 100 rfl rfl rfl
theorem d225_189 : decode (am_mc 225) 189 = .ok (.iconst 4, 1) := D225 101 rfl rfl rfl
theorem d225_190 : decode (am_mc 225) 190 = .ok (.irem, 1) := D225 102 rfl rfl rfl
theorem d225_191 : decode (am_mc 225) 191 = .ok (.iadd, 1) := D225 103 rfl rfl rfl
theorem d225_192 : decode (am_mc 225) 192 = .ok (.invokevirtual 378, 3) := D225 104 rfl rfl rfl
theorem d225_195 : decode (am_mc 225) 195 = .ok (.iinc 15 1, 3) := D225 105 rfl rfl rfl
theorem d225_198 : decode (am_mc 225) 198 = .ok (.goto (-28), 3) := D225 106 rfl rfl rfl
theorem d225_201 : decode (am_mc 225) 201 = .ok (.iinc 13 1, 3) := D225 107 rfl rfl rfl
theorem d225_204 : decode (am_mc 225) 204 = .ok (.goto (-76), 3) := D225 108 rfl rfl rfl
theorem d225_207 : decode (am_mc 225) 207 = .ok (.return_, 1) := D225 109 rfl rfl rfl
theorem ml225 : ∀ n, n < 16 → n < am_ml 225 := fun _ h => h
theorem mo225 : am_mo 225 = 11 := by decide +kernel
theorem rk225 : am_rk 225 = 0 := by decide +kernel
theorem rg225 : am_rcg 225 = 12 := by decide +kernel
theorem dp225_203 : am_md 203 + 1 ≤ am_md 225 ∧ 8 + (am_ml 203 + 11) + am_lr 203 ≤ am_lr 225 := by decide +kernel
theorem dp225_204 : am_md 204 + 1 ≤ am_md 225 ∧ 8 + (am_ml 204 + 11) + am_lr 204 ≤ am_lr 225 := by decide +kernel
theorem dp225_211 : am_md 211 + 1 ≤ am_md 225 ∧ 8 + (am_ml 211 + 11) + am_lr 211 ≤ am_lr 225 := by decide +kernel
theorem dp225_212 : am_md 212 + 1 ≤ am_md 225 ∧ 8 + (am_ml 212 + 11) + am_lr 212 ≤ am_lr 225 := by decide +kernel
theorem dp225_217 : am_md 217 + 1 ≤ am_md 225 ∧ 8 + (am_ml 217 + 11) + am_lr 217 ≤ am_lr 225 := by decide +kernel
theorem dp225_218 : am_md 218 + 1 ≤ am_md 225 ∧ 8 + (am_ml 218 + 11) + am_lr 218 ≤ am_lr 225 := by decide +kernel
def L225_170 (l0 : Nat) (l1 : Int) (l2 : Int) (l6 : Int) (l8 : Int) (l9 : Int) (l11 : Int) (l12 : Int) (l13 : Int) (l14 : Int) : Nat → Int → am_M → Option ((Int × am_M) ⊕ (Int × am_M))
  | 0, _, _ => none
  | n + 1, l15, μ => (if l12 < l15 then (some (.inr (l15, μ))) else (if l14 = 0 then (am_op (fn217 l0 l15 l13 (w32 (3 + (o_rem l2 4))) μ) (fun z9 => (L225_170 l0 l1 l2 l6 l8 l9 l11 l12 l13 l14 n (w32 (l15 + 1)) z9.2))) else (some (.inr (l15, μ)))))
theorem w225_170 {X : am_K} {C : am_C} {Q : State → Prop} (hG : am_G X C 225 0 0 (0, fun _ => 0)) (hr : match X with | (_, _, _, _, _, _, _, _, meth, _) => meth.sig.returnType = am_mr 225 ∧ meth.locks = false) (l0 : Nat) (l1 : Int) (l2 : Int) (l6 : Int) (l8 : Int) (l9 : Int) (l11 : Int) (l12 : Int) (l13 : Int) (l14 : Int) : ∀ (n : Nat) (l15 : Int) (μ : am_M) (r : (Int × am_M) ⊕ (Int × am_M)), L225_170 l0 l1 l2 l6 l8 l9 l11 l12 l13 l14 n l15 μ = some r → (∀ q, r = .inl q → Q = am_E X C 225 q.1 q.2) → (∀ t, r = .inr t → am_W X C 225 Q 0 0 201 [(0, .inr (.inr (11, l0))), (1, .inl l1), (2, .inl l2), (6, .inr (.inl l6)), (8, .inl l8), (9, .inl l9), (11, .inl l11), (12, .inl l12), (13, .inl l13)] [] t.2) → am_W X C 225 Q 0 0 170 [(0, .inr (.inr (11, l0))), (1, .inl l1), (2, .inl l2), (6, .inr (.inl l6)), (8, .inl l8), (9, .inl l9), (11, .inl l11), (12, .inl l12), (13, .inl l13), (14, .inl l14), (15, .inl l15)] [] μ := by
  intro n
  induction n with
  | zero => intro l15 μ r h; cases h
  | succ n ih =>
    intro l15 μ r h hI hX
    unfold L225_170 at h
    exact (am_c_iload hG (pc := 170) d225_170 rfl (am_c_iload hG (pc := 172) d225_172 rfl (x_icmp_gt (tgt := 201) hG (pc := 174) d225_174 rfl h (fun h => (am_lvw (lv2 := [(0, .inr (.inr (11, l0))), (1, .inl l1), (2, .inl l2), (6, .inr (.inl l6)), (8, .inl l8), (9, .inl l9), (11, .inl l11), (12, .inl l12), (13, .inl l13)]) [0, 1, 2, 3, 4, 5, 6, 7, 8] rfl (hX (l15, μ) (Option.some.inj h).symm))) (fun h => (am_c_iload hG (pc := 177) d225_177 rfl (x_if_ne (tgt := 201) hG (pc := 179) d225_179 rfl h (fun h => (am_lvw (lv2 := [(0, .inr (.inr (11, l0))), (1, .inl l1), (2, .inl l2), (6, .inr (.inl l6)), (8, .inl l8), (9, .inl l9), (11, .inl l11), (12, .inl l12), (13, .inl l13)]) [0, 1, 2, 3, 4, 5, 6, 7, 8] rfl (hX (l15, μ) (Option.some.inj h).symm))) (fun h => (am_c_aload_n hG (pc := 182) d225_182 rfl (am_c_iload hG (pc := 183) d225_183 rfl (am_c_iload hG (pc := 185) d225_185 rfl (am_c_iconst hG (pc := 187) d225_187 (by decide) (am_c_iload_n hG (pc := 188) d225_188 rfl (am_c_iconst hG (pc := 189) d225_189 (by decide) (am_c_irem hG (pc := 190) d225_190 (by decide) (am_c_iadd hG (pc := 191) d225_191 (x_virtual_v (t := 11) (o := l0) (as2 := [.inl l15, .inl l13, .inl (w32 (3 + (o_rem l2 4)))]) (rest := []) hG (pc := 192) d225_192 mo225 m11_378 (by decide) dp225_217 rfl rfl (Nat.le_of_ble_eq_true rfl) (Nat.le_of_ble_eq_true rfl) rg217 sd217 (e217 _ _ _ _ _) h (fun z9 h => (x_iinc (lv' := [(15, .inl (w32 (l15 + 1))), (0, .inr (.inr (11, l0))), (1, .inl l1), (2, .inl l2), (6, .inr (.inl l6)), (8, .inl l8), (9, .inl l9), (11, .inl l11), (12, .inl l12), (13, .inl l13), (14, .inl l14)]) hG (pc := 195) d225_195 rfl (ml225 _ (by decide)) rfl (x_goto (tgt := 170) hG (pc := 198) d225_198 rfl (am_lvw (lv2 := [(0, .inr (.inr (11, l0))), (1, .inl l1), (2, .inl l2), (6, .inr (.inl l6)), (8, .inl l8), (9, .inl l9), (11, .inl l11), (12, .inl l12), (13, .inl l13), (14, .inl l14), (15, .inl (w32 (l15 + 1)))]) [1, 2, 3, 4, 5, 6, 7, 8, 9, 10, 0] rfl (ih _ _ _ h hI hX)))))))))))))))))))))
def L225_128 (l0 : Nat) (l1 : Int) (l2 : Int) (l6 : Int) (l8 : Int) (l9 : Int) (l11 : Int) (l12 : Int) : Nat → Int → am_M → Option ((Int × am_M) ⊕ (Int × am_M))
  | 0, _, _ => none
  | n + 1, l13, μ => (if l11 < l13 then (some (.inr (l13, μ))) else (if l13 = l8 then (if o_cmp l6 0 = 0 then (am_op (fn211 l0 l1 μ) (fun z10 => (am_op (L225_170 l0 l1 l2 l6 l8 l9 l11 l12 l13 0 am_fuel z10.1 z10.2) (fun s => am_lp s (fun q2 => some (.inl q2)) (fun t2 => (L225_128 l0 l1 l2 l6 l8 l9 l11 l12 n (w32 (l13 + 1)) t2.2)))))) else (if l8 = l9 then (am_op (fn211 l0 l1 μ) (fun z11 => (am_op (L225_170 l0 l1 l2 l6 l8 l9 l11 l12 l13 0 am_fuel z11.1 z11.2) (fun s => am_lp s (fun q3 => some (.inl q3)) (fun t3 => (L225_128 l0 l1 l2 l6 l8 l9 l11 l12 n (w32 (l13 + 1)) t3.2)))))) else (am_op (fn211 l0 l1 μ) (fun z12 => (am_op (L225_170 l0 l1 l2 l6 l8 l9 l11 l12 l13 1 am_fuel z12.1 z12.2) (fun s => am_lp s (fun q4 => some (.inl q4)) (fun t4 => (L225_128 l0 l1 l2 l6 l8 l9 l11 l12 n (w32 (l13 + 1)) t4.2)))))))) else (am_op (fn211 l0 l1 μ) (fun z8 => (am_op (L225_170 l0 l1 l2 l6 l8 l9 l11 l12 l13 0 am_fuel z8.1 z8.2) (fun s => am_lp s (fun q1 => some (.inl q1)) (fun t1 => (L225_128 l0 l1 l2 l6 l8 l9 l11 l12 n (w32 (l13 + 1)) t1.2))))))))
theorem w225_128 {X : am_K} {C : am_C} {Q : State → Prop} (hG : am_G X C 225 0 0 (0, fun _ => 0)) (hr : match X with | (_, _, _, _, _, _, _, _, meth, _) => meth.sig.returnType = am_mr 225 ∧ meth.locks = false) (l0 : Nat) (l1 : Int) (l2 : Int) (l6 : Int) (l8 : Int) (l9 : Int) (l11 : Int) (l12 : Int) : ∀ (n : Nat) (l13 : Int) (μ : am_M) (r : (Int × am_M) ⊕ (Int × am_M)), L225_128 l0 l1 l2 l6 l8 l9 l11 l12 n l13 μ = some r → (∀ q, r = .inl q → Q = am_E X C 225 q.1 q.2) → (∀ t, r = .inr t → am_W X C 225 Q 0 0 207 [] [] t.2) → am_W X C 225 Q 0 0 128 [(0, .inr (.inr (11, l0))), (1, .inl l1), (2, .inl l2), (6, .inr (.inl l6)), (8, .inl l8), (9, .inl l9), (11, .inl l11), (12, .inl l12), (13, .inl l13)] [] μ := by
  intro n
  induction n with
  | zero => intro l13 μ r h; cases h
  | succ n ih =>
    intro l13 μ r h hI hX
    unfold L225_128 at h
    exact (am_c_iload hG (pc := 128) d225_128 rfl (am_c_iload hG (pc := 130) d225_130 rfl (x_icmp_gt (tgt := 207) hG (pc := 132) d225_132 rfl h (fun h => (am_lvw (lv2 := []) [] rfl (hX (l13, μ) (Option.some.inj h).symm))) (fun h => (am_c_iload hG (pc := 135) d225_135 rfl (am_c_iload hG (pc := 137) d225_137 rfl (x_icmp_ne (tgt := 160) hG (pc := 139) d225_139 rfl h (fun h => (am_c_iconst hG (pc := 160) d225_160 (by decide) (x_istore (lv' := [(14, .inl 0), (0, .inr (.inr (11, l0))), (1, .inl l1), (2, .inl l2), (6, .inr (.inl l6)), (8, .inl l8), (9, .inl l9), (11, .inl l11), (12, .inl l12), (13, .inl l13)]) hG (pc := 161) d225_161 (ml225 _ (by decide)) rfl (am_c_aload_n hG (pc := 163) d225_163 rfl (am_c_iload_n hG (pc := 164) d225_164 rfl (x_virtual_i (t := 11) (o := l0) (as2 := [.inl l1]) (rest := []) hG (pc := 165) d225_165 mo225 m11_354 (by decide) dp225_211 rfl rfl (Nat.le_of_ble_eq_true rfl) (Nat.le_of_ble_eq_true rfl) rg211 sd211 (e211 _ _ _) h (fun z8 h => (x_istore (lv' := [(15, .inl z8.1), (14, .inl 0), (0, .inr (.inr (11, l0))), (1, .inl l1), (2, .inl l2), (6, .inr (.inl l6)), (8, .inl l8), (9, .inl l9), (11, .inl l11), (12, .inl l12), (13, .inl l13)]) hG (pc := 168) d225_168 (ml225 _ (by decide)) rfl (x_lp h (fun r h1 h2 => (am_lvw (lv2 := [(0, .inr (.inr (11, l0))), (1, .inl l1), (2, .inl l2), (6, .inr (.inl l6)), (8, .inl l8), (9, .inl l9), (11, .inl l11), (12, .inl l12), (13, .inl l13), (14, .inl 0), (15, .inl z8.1)]) [2, 3, 4, 5, 6, 7, 8, 9, 10, 1, 0] rfl (w225_170 hG hr _ _ _ _ _ _ _ _ _ _ _ _ _ _ h1 (fun q1 e => am_q1 e h2 (fun h => hI _ (Option.some.inj h).symm)) (fun t1 e => am_q2 e h2 (fun h => (x_iinc (lv' := [(13, .inl (w32 (l13 + 1))), (0, .inr (.inr (11, l0))), (1, .inl l1), (2, .inl l2), (6, .inr (.inl l6)), (8, .inl l8), (9, .inl l9), (11, .inl l11), (12, .inl l12)]) hG (pc := 201) d225_201 rfl (ml225 _ (by decide)) rfl (x_goto (tgt := 128) hG (pc := 204) d225_204 rfl (am_lvw (lv2 := [(0, .inr (.inr (11, l0))), (1, .inl l1), (2, .inl l2), (6, .inr (.inl l6)), (8, .inl l8), (9, .inl l9), (11, .inl l11), (12, .inl l12), (13, .inl (w32 (l13 + 1)))]) [1, 2, 3, 4, 5, 6, 7, 8, 0] rfl (ih _ _ _ h hI hX)))))))))))))))))) (fun h => (am_c_lload hG (pc := 142) d225_142 rfl (am_c_lconst hG (pc := 144) d225_144 (am_c_lcmp hG (pc := 145) d225_145 (x_if_eq (tgt := 160) hG (pc := 146) d225_146 rfl h (fun h => (am_c_iconst hG (pc := 160) d225_160 (by decide) (x_istore (lv' := [(14, .inl 0), (0, .inr (.inr (11, l0))), (1, .inl l1), (2, .inl l2), (6, .inr (.inl l6)), (8, .inl l8), (9, .inl l9), (11, .inl l11), (12, .inl l12), (13, .inl l13)]) hG (pc := 161) d225_161 (ml225 _ (by decide)) rfl (am_c_aload_n hG (pc := 163) d225_163 rfl (am_c_iload_n hG (pc := 164) d225_164 rfl (x_virtual_i (t := 11) (o := l0) (as2 := [.inl l1]) (rest := []) hG (pc := 165) d225_165 mo225 m11_354 (by decide) dp225_211 rfl rfl (Nat.le_of_ble_eq_true rfl) (Nat.le_of_ble_eq_true rfl) rg211 sd211 (e211 _ _ _) h (fun z10 h => (x_istore (lv' := [(15, .inl z10.1), (14, .inl 0), (0, .inr (.inr (11, l0))), (1, .inl l1), (2, .inl l2), (6, .inr (.inl l6)), (8, .inl l8), (9, .inl l9), (11, .inl l11), (12, .inl l12), (13, .inl l13)]) hG (pc := 168) d225_168 (ml225 _ (by decide)) rfl (x_lp h (fun r h1 h2 => (am_lvw (lv2 := [(0, .inr (.inr (11, l0))), (1, .inl l1), (2, .inl l2), (6, .inr (.inl l6)), (8, .inl l8), (9, .inl l9), (11, .inl l11), (12, .inl l12), (13, .inl l13), (14, .inl 0), (15, .inl z10.1)]) [2, 3, 4, 5, 6, 7, 8, 9, 10, 1, 0] rfl (w225_170 hG hr _ _ _ _ _ _ _ _ _ _ _ _ _ _ h1 (fun q2 e => am_q1 e h2 (fun h => hI _ (Option.some.inj h).symm)) (fun t2 e => am_q2 e h2 (fun h => (x_iinc (lv' := [(13, .inl (w32 (l13 + 1))), (0, .inr (.inr (11, l0))), (1, .inl l1), (2, .inl l2), (6, .inr (.inl l6)), (8, .inl l8), (9, .inl l9), (11, .inl l11), (12, .inl l12)]) hG (pc := 201) d225_201 rfl (ml225 _ (by decide)) rfl (x_goto (tgt := 128) hG (pc := 204) d225_204 rfl (am_lvw (lv2 := [(0, .inr (.inr (11, l0))), (1, .inl l1), (2, .inl l2), (6, .inr (.inl l6)), (8, .inl l8), (9, .inl l9), (11, .inl l11), (12, .inl l12), (13, .inl (w32 (l13 + 1)))]) [1, 2, 3, 4, 5, 6, 7, 8, 0] rfl (ih _ _ _ h hI hX)))))))))))))))))) (fun h => (am_c_iload hG (pc := 149) d225_149 rfl (am_c_iload hG (pc := 151) d225_151 rfl (x_icmp_eq (tgt := 160) hG (pc := 153) d225_153 rfl h (fun h => (am_c_iconst hG (pc := 160) d225_160 (by decide) (x_istore (lv' := [(14, .inl 0), (0, .inr (.inr (11, l0))), (1, .inl l1), (2, .inl l2), (6, .inr (.inl l6)), (8, .inl l8), (9, .inl l9), (11, .inl l11), (12, .inl l12), (13, .inl l13)]) hG (pc := 161) d225_161 (ml225 _ (by decide)) rfl (am_c_aload_n hG (pc := 163) d225_163 rfl (am_c_iload_n hG (pc := 164) d225_164 rfl (x_virtual_i (t := 11) (o := l0) (as2 := [.inl l1]) (rest := []) hG (pc := 165) d225_165 mo225 m11_354 (by decide) dp225_211 rfl rfl (Nat.le_of_ble_eq_true rfl) (Nat.le_of_ble_eq_true rfl) rg211 sd211 (e211 _ _ _) h (fun z11 h => (x_istore (lv' := [(15, .inl z11.1), (14, .inl 0), (0, .inr (.inr (11, l0))), (1, .inl l1), (2, .inl l2), (6, .inr (.inl l6)), (8, .inl l8), (9, .inl l9), (11, .inl l11), (12, .inl l12), (13, .inl l13)]) hG (pc := 168) d225_168 (ml225 _ (by decide)) rfl (x_lp h (fun r h1 h2 => (am_lvw (lv2 := [(0, .inr (.inr (11, l0))), (1, .inl l1), (2, .inl l2), (6, .inr (.inl l6)), (8, .inl l8), (9, .inl l9), (11, .inl l11), (12, .inl l12), (13, .inl l13), (14, .inl 0), (15, .inl z11.1)]) [2, 3, 4, 5, 6, 7, 8, 9, 10, 1, 0] rfl (w225_170 hG hr _ _ _ _ _ _ _ _ _ _ _ _ _ _ h1 (fun q3 e => am_q1 e h2 (fun h => hI _ (Option.some.inj h).symm)) (fun t3 e => am_q2 e h2 (fun h => (x_iinc (lv' := [(13, .inl (w32 (l13 + 1))), (0, .inr (.inr (11, l0))), (1, .inl l1), (2, .inl l2), (6, .inr (.inl l6)), (8, .inl l8), (9, .inl l9), (11, .inl l11), (12, .inl l12)]) hG (pc := 201) d225_201 rfl (ml225 _ (by decide)) rfl (x_goto (tgt := 128) hG (pc := 204) d225_204 rfl (am_lvw (lv2 := [(0, .inr (.inr (11, l0))), (1, .inl l1), (2, .inl l2), (6, .inr (.inl l6)), (8, .inl l8), (9, .inl l9), (11, .inl l11), (12, .inl l12), (13, .inl (w32 (l13 + 1)))]) [1, 2, 3, 4, 5, 6, 7, 8, 0] rfl (ih _ _ _ h hI hX)))))))))))))))))) (fun h => (am_c_iconst hG (pc := 156) d225_156 (by decide) (x_goto (tgt := 161) hG (pc := 157) d225_157 rfl (x_istore (lv' := [(14, .inl 1), (0, .inr (.inr (11, l0))), (1, .inl l1), (2, .inl l2), (6, .inr (.inl l6)), (8, .inl l8), (9, .inl l9), (11, .inl l11), (12, .inl l12), (13, .inl l13)]) hG (pc := 161) d225_161 (ml225 _ (by decide)) rfl (am_c_aload_n hG (pc := 163) d225_163 rfl (am_c_iload_n hG (pc := 164) d225_164 rfl (x_virtual_i (t := 11) (o := l0) (as2 := [.inl l1]) (rest := []) hG (pc := 165) d225_165 mo225 m11_354 (by decide) dp225_211 rfl rfl (Nat.le_of_ble_eq_true rfl) (Nat.le_of_ble_eq_true rfl) rg211 sd211 (e211 _ _ _) h (fun z12 h => (x_istore (lv' := [(15, .inl z12.1), (14, .inl 1), (0, .inr (.inr (11, l0))), (1, .inl l1), (2, .inl l2), (6, .inr (.inl l6)), (8, .inl l8), (9, .inl l9), (11, .inl l11), (12, .inl l12), (13, .inl l13)]) hG (pc := 168) d225_168 (ml225 _ (by decide)) rfl (x_lp h (fun r h1 h2 => (am_lvw (lv2 := [(0, .inr (.inr (11, l0))), (1, .inl l1), (2, .inl l2), (6, .inr (.inl l6)), (8, .inl l8), (9, .inl l9), (11, .inl l11), (12, .inl l12), (13, .inl l13), (14, .inl 1), (15, .inl z12.1)]) [2, 3, 4, 5, 6, 7, 8, 9, 10, 1, 0] rfl (w225_170 hG hr _ _ _ _ _ _ _ _ _ _ _ _ _ _ h1 (fun q4 e => am_q1 e h2 (fun h => hI _ (Option.some.inj h).symm)) (fun t4 e => am_q2 e h2 (fun h => (x_iinc (lv' := [(13, .inl (w32 (l13 + 1))), (0, .inr (.inr (11, l0))), (1, .inl l1), (2, .inl l2), (6, .inr (.inl l6)), (8, .inl l8), (9, .inl l9), (11, .inl l11), (12, .inl l12)]) hG (pc := 201) d225_201 rfl (ml225 _ (by decide)) rfl (x_goto (tgt := 128) hG (pc := 204) d225_204 rfl (am_lvw (lv2 := [(0, .inr (.inr (11, l0))), (1, .inl l1), (2, .inl l2), (6, .inr (.inl l6)), (8, .inl l8), (9, .inl l9), (11, .inl l11), (12, .inl l12), (13, .inl (w32 (l13 + 1)))]) [1, 2, 3, 4, 5, 6, 7, 8, 0] rfl (ih _ _ _ h hI hX)))))))))))))))))))))))))))))))))))
def fn225 (o : Nat) (a : Int) (b : Int) (μ : am_M) : Option (Int × am_M) := (if (0 : Int) ≤ a ∧ a < ((am_len (am_ref o 36) : Nat) : Int) then (am_op (fn203 o (μ (am_ref o 36) (a : Int).toNat) b μ) (fun z1 => (if o_cmp z1.1 0 = 0 then some (0, z1.2) else (if 0 < o_cmp z1.1 0 then (am_op (fn204 o (μ (am_ref o 36) (a : Int).toNat) b 1 z1.2) (fun z26 => (am_op (fn218 o z26.1 z26.2) (fun z27 => (am_op (fn218 o (w64 (z26.1 + z1.1)) z27.2) (fun z28 => (if z27.1 < z28.1 then (if z27.1 < z28.1 then (am_op (fn212 o a z28.2) (fun z41 => (am_op (fn211 o a z41.2) (fun z42 => (if z42.1 < z41.1 then (am_op (fn212 o a z42.2) (fun z44 => (am_op (L225_128 o a b z26.1 z27.1 z28.1 z28.1 (w32 (z44.1 - 1)) am_fuel z27.1 z44.2) (fun s => am_lp s (fun q20 => some q20) (fun t20 => some (0, t20.2)))))) else (am_op (fn212 o a z42.2) (fun z43 => (am_op (L225_128 o a b z26.1 z27.1 z28.1 z28.1 z43.1 am_fuel z27.1 z43.2) (fun s => am_lp s (fun q19 => some q19) (fun t19 => some (0, t19.2))))))))))) else (am_op (fn212 o a z28.2) (fun z37 => (am_op (fn211 o a z37.2) (fun z38 => (if z38.1 < z37.1 then (am_op (fn212 o a z38.2) (fun z40 => (am_op (L225_128 o a b z26.1 z27.1 z28.1 z27.1 (w32 (z40.1 - 1)) am_fuel z27.1 z40.2) (fun s => am_lp s (fun q18 => some q18) (fun t18 => some (0, t18.2)))))) else (am_op (fn212 o a z38.2) (fun z39 => (am_op (L225_128 o a b z26.1 z27.1 z28.1 z27.1 z39.1 am_fuel z27.1 z39.2) (fun s => am_lp s (fun q17 => some q17) (fun t17 => some (0, t17.2)))))))))))) else (if z27.1 < z28.1 then (am_op (fn212 o a z28.2) (fun z33 => (am_op (fn211 o a z33.2) (fun z34 => (if z34.1 < z33.1 then (am_op (fn212 o a z34.2) (fun z36 => (am_op (L225_128 o a b z26.1 z27.1 z28.1 z28.1 (w32 (z36.1 - 1)) am_fuel z28.1 z36.2) (fun s => am_lp s (fun q16 => some q16) (fun t16 => some (0, t16.2)))))) else (am_op (fn212 o a z34.2) (fun z35 => (am_op (L225_128 o a b z26.1 z27.1 z28.1 z28.1 z35.1 am_fuel z28.1 z35.2) (fun s => am_lp s (fun q15 => some q15) (fun t15 => some (0, t15.2))))))))))) else (am_op (fn212 o a z28.2) (fun z29 => (am_op (fn211 o a z29.2) (fun z30 => (if z30.1 < z29.1 then (am_op (fn212 o a z30.2) (fun z32 => (am_op (L225_128 o a b z26.1 z27.1 z28.1 z27.1 (w32 (z32.1 - 1)) am_fuel z28.1 z32.2) (fun s => am_lp s (fun q14 => some q14) (fun t14 => some (0, t14.2)))))) else (am_op (fn212 o a z30.2) (fun z31 => (am_op (L225_128 o a b z26.1 z27.1 z28.1 z27.1 z31.1 am_fuel z28.1 z31.2) (fun s => am_lp s (fun q13 => some q13) (fun t13 => some (0, t13.2))))))))))))))))))) else (am_op (fn204 o (μ (am_ref o 36) (a : Int).toNat) b ((-1)) z1.2) (fun z2 => (am_op (fn218 o z2.1 z2.2) (fun z3 => (am_op (fn218 o (w64 (z2.1 + z1.1)) z3.2) (fun z4 => (if z3.1 < z4.1 then (if z3.1 < z4.1 then (am_op (fn212 o a z4.2) (fun z22 => (am_op (fn211 o a z22.2) (fun z23 => (if z23.1 < z22.1 then (am_op (fn212 o a z23.2) (fun z25 => (am_op (L225_128 o a b z2.1 z3.1 z4.1 z4.1 (w32 (z25.1 - 1)) am_fuel z3.1 z25.2) (fun s => am_lp s (fun q12 => some q12) (fun t12 => some (0, t12.2)))))) else (am_op (fn212 o a z23.2) (fun z24 => (am_op (L225_128 o a b z2.1 z3.1 z4.1 z4.1 z24.1 am_fuel z3.1 z24.2) (fun s => am_lp s (fun q11 => some q11) (fun t11 => some (0, t11.2))))))))))) else (am_op (fn212 o a z4.2) (fun z18 => (am_op (fn211 o a z18.2) (fun z19 => (if z19.1 < z18.1 then (am_op (fn212 o a z19.2) (fun z21 => (am_op (L225_128 o a b z2.1 z3.1 z4.1 z3.1 (w32 (z21.1 - 1)) am_fuel z3.1 z21.2) (fun s => am_lp s (fun q10 => some q10) (fun t10 => some (0, t10.2)))))) else (am_op (fn212 o a z19.2) (fun z20 => (am_op (L225_128 o a b z2.1 z3.1 z4.1 z3.1 z20.1 am_fuel z3.1 z20.2) (fun s => am_lp s (fun q9 => some q9) (fun t9 => some (0, t9.2)))))))))))) else (if z3.1 < z4.1 then (am_op (fn212 o a z4.2) (fun z14 => (am_op (fn211 o a z14.2) (fun z15 => (if z15.1 < z14.1 then (am_op (fn212 o a z15.2) (fun z17 => (am_op (L225_128 o a b z2.1 z3.1 z4.1 z4.1 (w32 (z17.1 - 1)) am_fuel z4.1 z17.2) (fun s => am_lp s (fun q8 => some q8) (fun t8 => some (0, t8.2)))))) else (am_op (fn212 o a z15.2) (fun z16 => (am_op (L225_128 o a b z2.1 z3.1 z4.1 z4.1 z16.1 am_fuel z4.1 z16.2) (fun s => am_lp s (fun q7 => some q7) (fun t7 => some (0, t7.2))))))))))) else (am_op (fn212 o a z4.2) (fun z5 => (am_op (fn211 o a z5.2) (fun z6 => (if z6.1 < z5.1 then (am_op (fn212 o a z6.2) (fun z13 => (am_op (L225_128 o a b z2.1 z3.1 z4.1 z3.1 (w32 (z13.1 - 1)) am_fuel z4.1 z13.2) (fun s => am_lp s (fun q6 => some q6) (fun t6 => some (0, t6.2)))))) else (am_op (fn212 o a z6.2) (fun z7 => (am_op (L225_128 o a b z2.1 z3.1 z4.1 z3.1 z7.1 am_fuel z4.1 z7.2) (fun s => am_lp s (fun q5 => some q5) (fun t5 => some (0, t5.2))))))))))))))))))))))) else none)
def sp225 : am_F := fun vs μ => am_aR 11 vs fun o vs => am_aI vs fun a vs => am_aI vs fun b vs => am_a0 vs (fn225 o a b μ)
theorem e225 (o : Nat) (a : Int) (b : Int) (μ : am_M) : sp225 [.inr (.inr (11, o)), .inl a, .inl b] μ = fn225 o a b μ := am_aR_c.trans (am_aI_c.trans (am_aI_c.trans am_a0_c))
theorem sd225 : am_Sd 225 sp225 := by
  refine am_Sd_of (by decide) (fun vs μ μ' x h hv hM => ?_)
  obtain ⟨o, vs0, rfl, h0⟩ := am_aR_s h
  obtain ⟨a, vs1, rfl, h1⟩ := am_aI_s h0
  obtain ⟨b, vs2, rfl, h2⟩ := am_aI_s h1
  obtain ⟨rfl, hz⟩ := am_a0_s h2
  refine ⟨Nat.le_of_ble_eq_true rfl, fun X C hG hr => ?_⟩
  have h := hz
  unfold fn225 at h
  exact (show am_W X C 225 _ 0 0 0 [(0, .inr (.inr (11, o))), (1, .inl a), (2, .inl b)] [] μ from (am_c_aload_n hG (pc := 0) d225_0 rfl (x_get_n (v := .inr (.inr (16, am_ref o 36))) hG (pc := 1) d225_1 mo225 f11_64 rfl (am_c_iload_n hG (pc := 4) d225_4 rfl (x_iaload hG (pc := 5) d225_5 h (fun h => (x_istore_n (lv' := [(3, .inl (μ (am_ref o 36) (a : Int).toNat)), (0, .inr (.inr (11, o))), (1, .inl a), (2, .inl b)]) hG (pc := 6) d225_6 (ml225 _ (by decide)) rfl (am_c_aload_n hG (pc := 7) d225_7 rfl (am_c_iload_n hG (pc := 8) d225_8 rfl (am_c_iload_n hG (pc := 9) d225_9 rfl (x_virtual_l (t := 11) (o := o) (as2 := [.inl (μ (am_ref o 36) (a : Int).toNat), .inl b]) (rest := []) hG (pc := 10) d225_10 mo225 m11_323 (by decide) dp225_203 rfl rfl (Nat.le_of_ble_eq_true rfl) (Nat.le_of_ble_eq_true rfl) rg203 sd203 (e203 _ _ _ _) h (fun z1 h => (x_lstore (lv' := [(4, .inr (.inl z1.1)), (3, .inl (μ (am_ref o 36) (a : Int).toNat)), (0, .inr (.inr (11, o))), (1, .inl a), (2, .inl b)]) hG (pc := 13) d225_13 (ml225 _ (by decide)) rfl (am_c_lload hG (pc := 15) d225_15 rfl (am_c_lconst hG (pc := 17) d225_17 (am_c_lcmp hG (pc := 18) d225_18 (x_if_ne (tgt := 23) hG (pc := 19) d225_19 rfl h (fun h => (am_c_aload_n hG (pc := 23) d225_23 rfl (am_c_iload_n hG (pc := 24) d225_24 rfl (am_c_iload_n hG (pc := 25) d225_25 rfl (am_c_lload hG (pc := 26) d225_26 rfl (am_c_lconst hG (pc := 28) d225_28 (am_c_lcmp hG (pc := 29) d225_29 (x_if_le (tgt := 37) hG (pc := 30) d225_30 rfl h (fun h => (am_c_iconst hG (pc := 37) d225_37 (by decide) (x_virtual_l (t := 11) (o := o) (as2 := [.inl (μ (am_ref o 36) (a : Int).toNat), .inl b, .inl ((-1))]) (rest := []) hG (pc := 38) d225_38 mo225 m11_317 (by decide) dp225_204 rfl rfl (Nat.le_of_ble_eq_true rfl) (Nat.le_of_ble_eq_true rfl) rg204 sd204 (e204 _ _ _ _ _) h (fun z2 h => (x_lstore (lv' := [(6, .inr (.inl z2.1)), (4, .inr (.inl z1.1)), (3, .inl (μ (am_ref o 36) (a : Int).toNat)), (0, .inr (.inr (11, o))), (1, .inl a), (2, .inl b)]) hG (pc := 41) d225_41 (ml225 _ (by decide)) rfl (am_c_aload_n hG (pc := 43) d225_43 rfl (am_c_lload hG (pc := 44) d225_44 rfl (x_virtual_i (t := 11) (o := o) (as2 := [.inr (.inl z2.1)]) (rest := []) hG (pc := 46) d225_46 mo225 m11_382 (by decide) dp225_218 rfl rfl (Nat.le_of_ble_eq_true rfl) (Nat.le_of_ble_eq_true rfl) rg218 sd218 (e218 _ _ _) h (fun z3 h => (x_istore (lv' := [(8, .inl z3.1), (6, .inr (.inl z2.1)), (4, .inr (.inl z1.1)), (3, .inl (μ (am_ref o 36) (a : Int).toNat)), (0, .inr (.inr (11, o))), (1, .inl a), (2, .inl b)]) hG (pc := 49) d225_49 (ml225 _ (by decide)) rfl (am_c_aload_n hG (pc := 51) d225_51 rfl (am_c_lload hG (pc := 52) d225_52 rfl (am_c_lload hG (pc := 54) d225_54 rfl (am_c_ladd hG (pc := 56) d225_56 (x_virtual_i (t := 11) (o := o) (as2 := [.inr (.inl (w64 (z2.1 + z1.1)))]) (rest := []) hG (pc := 57) d225_57 mo225 m11_382 (by decide) dp225_218 rfl rfl (Nat.le_of_ble_eq_true rfl) (Nat.le_of_ble_eq_true rfl) rg218 sd218 (e218 _ _ _) h (fun z4 h => (x_istore (lv' := [(9, .inl z4.1), (8, .inl z3.1), (6, .inr (.inl z2.1)), (4, .inr (.inl z1.1)), (3, .inl (μ (am_ref o 36) (a : Int).toNat)), (0, .inr (.inr (11, o))), (1, .inl a), (2, .inl b)]) hG (pc := 60) d225_60 (ml225 _ (by decide)) rfl (am_c_iload hG (pc := 62) d225_62 rfl (am_c_iload hG (pc := 64) d225_64 rfl (x_icmp_ge (tgt := 74) hG (pc := 66) d225_66 rfl h (fun h => (am_c_iload hG (pc := 74) d225_74 rfl (x_istore (lv' := [(10, .inl z4.1), (9, .inl z4.1), (8, .inl z3.1), (6, .inr (.inl z2.1)), (4, .inr (.inl z1.1)), (3, .inl (μ (am_ref o 36) (a : Int).toNat)), (0, .inr (.inr (11, o))), (1, .inl a), (2, .inl b)]) hG (pc := 76) d225_76 (ml225 _ (by decide)) rfl (am_c_iload hG (pc := 78) d225_78 rfl (am_c_iload hG (pc := 80) d225_80 rfl (x_icmp_ge (tgt := 90) hG (pc := 82) d225_82 rfl h (fun h => (am_c_iload hG (pc := 90) d225_90 rfl (x_istore (lv' := [(11, .inl z3.1), (10, .inl z4.1), (9, .inl z4.1), (8, .inl z3.1), (6, .inr (.inl z2.1)), (4, .inr (.inl z1.1)), (3, .inl (μ (am_ref o 36) (a : Int).toNat)), (0, .inr (.inr (11, o))), (1, .inl a), (2, .inl b)]) hG (pc := 92) d225_92 (ml225 _ (by decide)) rfl (am_c_aload_n hG (pc := 94) d225_94 rfl (am_c_iload_n hG (pc := 95) d225_95 rfl (x_virtual_i (t := 11) (o := o) (as2 := [.inl a]) (rest := []) hG (pc := 96) d225_96 mo225 m11_357 (by decide) dp225_212 rfl rfl (Nat.le_of_ble_eq_true rfl) (Nat.le_of_ble_eq_true rfl) rg212 sd212 (e212 _ _ _) h (fun z5 h => (am_c_aload_n hG (pc := 99) d225_99 rfl (am_c_iload_n hG (pc := 100) d225_100 rfl (x_virtual_i (t := 11) (o := o) (as2 := [.inl a]) (rest := [.inl z5.1]) hG (pc := 101) d225_101 mo225 m11_354 (by decide) dp225_211 rfl rfl (Nat.le_of_ble_eq_true rfl) (Nat.le_of_ble_eq_true rfl) rg211 sd211 (e211 _ _ _) h (fun z6 h => (x_icmp_le (tgt := 117) hG (pc := 104) d225_104 rfl h (fun h => (am_c_aload_n hG (pc := 117) d225_117 rfl (am_c_iload_n hG (pc := 118) d225_118 rfl (x_virtual_i (t := 11) (o := o) (as2 := [.inl a]) (rest := []) hG (pc := 119) d225_119 mo225 m11_357 (by decide) dp225_212 rfl rfl (Nat.le_of_ble_eq_true rfl) (Nat.le_of_ble_eq_true rfl) rg212 sd212 (e212 _ _ _) h (fun z7 h => (x_istore (lv' := [(12, .inl z7.1), (11, .inl z3.1), (10, .inl z4.1), (9, .inl z4.1), (8, .inl z3.1), (6, .inr (.inl z2.1)), (4, .inr (.inl z1.1)), (3, .inl (μ (am_ref o 36) (a : Int).toNat)), (0, .inr (.inr (11, o))), (1, .inl a), (2, .inl b)]) hG (pc := 122) d225_122 (ml225 _ (by decide)) rfl (am_c_iload hG (pc := 124) d225_124 rfl (x_istore (lv' := [(13, .inl z4.1), (12, .inl z7.1), (11, .inl z3.1), (10, .inl z4.1), (9, .inl z4.1), (8, .inl z3.1), (6, .inr (.inl z2.1)), (4, .inr (.inl z1.1)), (3, .inl (μ (am_ref o 36) (a : Int).toNat)), (0, .inr (.inr (11, o))), (1, .inl a), (2, .inl b)]) hG (pc := 126) d225_126 (ml225 _ (by decide)) rfl (x_lp h (fun r h1 h2 => (am_lvw (lv2 := [(0, .inr (.inr (11, o))), (1, .inl a), (2, .inl b), (6, .inr (.inl z2.1)), (8, .inl z3.1), (9, .inl z4.1), (11, .inl z3.1), (12, .inl z7.1), (13, .inl z4.1)]) [9, 10, 11, 6, 5, 4, 2, 1, 0] rfl (w225_128 hG hr _ _ _ _ _ _ _ _ _ _ _ _ h1 (fun q5 e => am_q1 e h2 (fun h => am_q0 h)) (fun t5 e => am_q2 e h2 (fun h => (xq_vret hG (by decide) hr (pc := 207) d225_207 rk225 (am_q0 h)))))))))))))))) (fun h => (am_c_aload_n hG (pc := 107) d225_107 rfl (am_c_iload_n hG (pc := 108) d225_108 rfl (x_virtual_i (t := 11) (o := o) (as2 := [.inl a]) (rest := []) hG (pc := 109) d225_109 mo225 m11_357 (by decide) dp225_212 rfl rfl (Nat.le_of_ble_eq_true rfl) (Nat.le_of_ble_eq_true rfl) rg212 sd212 (e212 _ _ _) h (fun z13 h => (am_c_iconst hG (pc := 112) d225_112 (by decide) (am_c_isub hG (pc := 113) d225_113 (x_goto (tgt := 122) hG (pc := 114) d225_114 rfl (x_istore (lv' := [(12, .inl (w32 (z13.1 - 1))), (11, .inl z3.1), (10, .inl z4.1), (9, .inl z4.1), (8, .inl z3.1), (6, .inr (.inl z2.1)), (4, .inr (.inl z1.1)), (3, .inl (μ (am_ref o 36) (a : Int).toNat)), (0, .inr (.inr (11, o))), (1, .inl a), (2, .inl b)]) hG (pc := 122) d225_122 (ml225 _ (by decide)) rfl (am_c_iload hG (pc := 124) d225_124 rfl (x_istore (lv' := [(13, .inl z4.1), (12, .inl (w32 (z13.1 - 1))), (11, .inl z3.1), (10, .inl z4.1), (9, .inl z4.1), (8, .inl z3.1), (6, .inr (.inl z2.1)), (4, .inr (.inl z1.1)), (3, .inl (μ (am_ref o 36) (a : Int).toNat)), (0, .inr (.inr (11, o))), (1, .inl a), (2, .inl b)]) hG (pc := 126) d225_126 (ml225 _ (by decide)) rfl (x_lp h (fun r h1 h2 => (am_lvw (lv2 := [(0, .inr (.inr (11, o))), (1, .inl a), (2, .inl b), (6, .inr (.inl z2.1)), (8, .inl z3.1), (9, .inl z4.1), (11, .inl z3.1), (12, .inl (w32 (z13.1 - 1))), (13, .inl z4.1)]) [9, 10, 11, 6, 5, 4, 2, 1, 0] rfl (w225_128 hG hr _ _ _ _ _ _ _ _ _ _ _ _ h1 (fun q6 e => am_q1 e h2 (fun h => am_q0 h)) (fun t6 e => am_q2 e h2 (fun h => (xq_vret hG (by decide) hr (pc := 207) d225_207 rk225 (am_q0 h))))))))))))))))))))))))))))))) (fun h => (am_c_iload hG (pc := 85) d225_85 rfl (x_goto (tgt := 92) hG (pc := 87) d225_87 rfl (x_istore (lv' := [(11, .inl z4.1), (10, .inl z4.1), (9, .inl z4.1), (8, .inl z3.1), (6, .inr (.inl z2.1)), (4, .inr (.inl z1.1)), (3, .inl (μ (am_ref o 36) (a : Int).toNat)), (0, .inr (.inr (11, o))), (1, .inl a), (2, .inl b)]) hG (pc := 92) d225_92 (ml225 _ (by decide)) rfl (am_c_aload_n hG (pc := 94) d225_94 rfl (am_c_iload_n hG (pc := 95) d225_95 rfl (x_virtual_i (t := 11) (o := o) (as2 := [.inl a]) (rest := []) hG (pc := 96) d225_96 mo225 m11_357 (by decide) dp225_212 rfl rfl (Nat.le_of_ble_eq_true rfl) (Nat.le_of_ble_eq_true rfl) rg212 sd212 (e212 _ _ _) h (fun z14 h => (am_c_aload_n hG (pc := 99) d225_99 rfl (am_c_iload_n hG (pc := 100) d225_100 rfl (x_virtual_i (t := 11) (o := o) (as2 := [.inl a]) (rest := [.inl z14.1]) hG (pc := 101) d225_101 mo225 m11_354 (by decide) dp225_211 rfl rfl (Nat.le_of_ble_eq_true rfl) (Nat.le_of_ble_eq_true rfl) rg211 sd211 (e211 _ _ _) h (fun z15 h => (x_icmp_le (tgt := 117) hG (pc := 104) d225_104 rfl h (fun h => (am_c_aload_n hG (pc := 117) d225_117 rfl (am_c_iload_n hG (pc := 118) d225_118 rfl (x_virtual_i (t := 11) (o := o) (as2 := [.inl a]) (rest := []) hG (pc := 119) d225_119 mo225 m11_357 (by decide) dp225_212 rfl rfl (Nat.le_of_ble_eq_true rfl) (Nat.le_of_ble_eq_true rfl) rg212 sd212 (e212 _ _ _) h (fun z16 h => (x_istore (lv' := [(12, .inl z16.1), (11, .inl z4.1), (10, .inl z4.1), (9, .inl z4.1), (8, .inl z3.1), (6, .inr (.inl z2.1)), (4, .inr (.inl z1.1)), (3, .inl (μ (am_ref o 36) (a : Int).toNat)), (0, .inr (.inr (11, o))), (1, .inl a), (2, .inl b)]) hG (pc := 122) d225_122 (ml225 _ (by decide)) rfl (am_c_iload hG (pc := 124) d225_124 rfl (x_istore (lv' := [(13, .inl z4.1), (12, .inl z16.1), (11, .inl z4.1), (10, .inl z4.1), (9, .inl z4.1), (8, .inl z3.1), (6, .inr (.inl z2.1)), (4, .inr (.inl z1.1)), (3, .inl (μ (am_ref o 36) (a : Int).toNat)), (0, .inr (.inr (11, o))), (1, .inl a), (2, .inl b)]) hG (pc := 126) d225_126 (ml225 _ (by decide)) rfl (x_lp h (fun r h1 h2 => (am_lvw (lv2 := [(0, .inr (.inr (11, o))), (1, .inl a), (2, .inl b), (6, .inr (.inl z2.1)), (8, .inl z3.1), (9, .inl z4.1), (11, .inl z4.1), (12, .inl z16.1), (13, .inl z4.1)]) [9, 10, 11, 6, 5, 4, 2, 1, 0] rfl (w225_128 hG hr _ _ _ _ _ _ _ _ _ _ _ _ h1 (fun q7 e => am_q1 e h2 (fun h => am_q0 h)) (fun t7 e => am_q2 e h2 (fun h => (xq_vret hG (by decide) hr (pc := 207) d225_207 rk225 (am_q0 h)))))))))))))))) (fun h => (am_c_aload_n hG (pc := 107) d225_107 rfl (am_c_iload_n hG (pc := 108) d225_108 rfl (x_virtual_i (t := 11) (o := o) (as2 := [.inl a]) (rest := []) hG (pc := 109) d225_109 mo225 m11_357 (by decide) dp225_212 rfl rfl (Nat.le_of_ble_eq_true rfl) (Nat.le_of_ble_eq_true rfl) rg212 sd212 (e212 _ _ _) h (fun z17 h => (am_c_iconst hG (pc := 112) d225_112 (by decide) (am_c_isub hG (pc := 113) d225_113 (x_goto (tgt := 122) hG (pc := 114) d225_114 rfl (x_istore (lv' := [(12, .inl (w32 (z17.1 - 1))), (11, .inl z4.1), (10, .inl z4.1), (9, .inl z4.1), (8, .inl z3.1), (6, .inr (.inl z2.1)), (4, .inr (.inl z1.1)), (3, .inl (μ (am_ref o 36) (a : Int).toNat)), (0, .inr (.inr (11, o))), (1, .inl a), (2, .inl b)]) hG (pc := 122) d225_122 (ml225 _ (by decide)) rfl (am_c_iload hG (pc := 124) d225_124 rfl (x_istore (lv' := [(13, .inl z4.1), (12, .inl (w32 (z17.1 - 1))), (11, .inl z4.1), (10, .inl z4.1), (9, .inl z4.1), (8, .inl z3.1), (6, .inr (.inl z2.1)), (4, .inr (.inl z1.1)), (3, .inl (μ (am_ref o 36) (a : Int).toNat)), (0, .inr (.inr (11, o))), (1, .inl a), (2, .inl b)]) hG (pc := 126) d225_126 (ml225 _ (by decide)) rfl (x_lp h (fun r h1 h2 => (am_lvw (lv2 := [(0, .inr (.inr (11, o))), (1, .inl a), (2, .inl b), (6, .inr (.inl z2.1)), (8, .inl z3.1), (9, .inl z4.1), (11, .inl z4.1), (12, .inl (w32 (z17.1 - 1))), (13, .inl z4.1)]) [9, 10, 11, 6, 5, 4, 2, 1, 0] rfl (w225_128 hG hr _ _ _ _ _ _ _ _ _ _ _ _ h1 (fun q8 e => am_q1 e h2 (fun h => am_q0 h)) (fun t8 e => am_q2 e h2 (fun h => (xq_vret hG (by decide) hr (pc := 207) d225_207 rk225 (am_q0 h)))))))))))))))))))))))))))))))))))))) (fun h => (am_c_iload hG (pc := 69) d225_69 rfl (x_goto (tgt := 76) hG (pc := 71) d225_71 rfl (x_istore (lv' := [(10, .inl z3.1), (9, .inl z4.1), (8, .inl z3.1), (6, .inr (.inl z2.1)), (4, .inr (.inl z1.1)), (3, .inl (μ (am_ref o 36) (a : Int).toNat)), (0, .inr (.inr (11, o))), (1, .inl a), (2, .inl b)]) hG (pc := 76) d225_76 (ml225 _ (by decide)) rfl (am_c_iload hG (pc := 78) d225_78 rfl (am_c_iload hG (pc := 80) d225_80 rfl (x_icmp_ge (tgt := 90) hG (pc := 82) d225_82 rfl h (fun h => (am_c_iload hG (pc := 90) d225_90 rfl (x_istore (lv' := [(11, .inl z3.1), (10, .inl z3.1), (9, .inl z4.1), (8, .inl z3.1), (6, .inr (.inl z2.1)), (4, .inr (.inl z1.1)), (3, .inl (μ (am_ref o 36) (a : Int).toNat)), (0, .inr (.inr (11, o))), (1, .inl a), (2, .inl b)]) hG (pc := 92) d225_92 (ml225 _ (by decide)) rfl (am_c_aload_n hG (pc := 94) d225_94 rfl (am_c_iload_n hG (pc := 95) d225_95 rfl (x_virtual_i (t := 11) (o := o) (as2 := [.inl a]) (rest := []) hG (pc := 96) d225_96 mo225 m11_357 (by decide) dp225_212 rfl rfl (Nat.le_of_ble_eq_true rfl) (Nat.le_of_ble_eq_true rfl) rg212 sd212 (e212 _ _ _) h (fun z18 h => (am_c_aload_n hG (pc := 99) d225_99 rfl (am_c_iload_n hG (pc := 100) d225_100 rfl (x_virtual_i (t := 11) (o := o) (as2 := [.inl a]) (rest := [.inl z18.1]) hG (pc := 101) d225_101 mo225 m11_354 (by decide) dp225_211 rfl rfl (Nat.le_of_ble_eq_true rfl) (Nat.le_of_ble_eq_true rfl) rg211 sd211 (e211 _ _ _) h (fun z19 h => (x_icmp_le (tgt := 117) hG (pc := 104) d225_104 rfl h (fun h => (am_c_aload_n hG (pc := 117) d225_117 rfl (am_c_iload_n hG (pc := 118) d225_118 rfl (x_virtual_i (t := 11) (o := o) (as2 := [.inl a]) (rest := []) hG (pc := 119) d225_119 mo225 m11_357 (by decide) dp225_212 rfl rfl (Nat.le_of_ble_eq_true rfl) (Nat.le_of_ble_eq_true rfl) rg212 sd212 (e212 _ _ _) h (fun z20 h => (x_istore (lv' := [(12, .inl z20.1), (11, .inl z3.1), (10, .inl z3.1), (9, .inl z4.1), (8, .inl z3.1), (6, .inr (.inl z2.1)), (4, .inr (.inl z1.1)), (3, .inl (μ (am_ref o 36) (a : Int).toNat)), (0, .inr (.inr (11, o))), (1, .inl a), (2, .inl b)]) hG (pc := 122) d225_122 (ml225 _ (by decide)) rfl (am_c_iload hG (pc := 124) d225_124 rfl (x_istore (lv' := [(13, .inl z3.1), (12, .inl z20.1), (11, .inl z3.1), (10, .inl z3.1), (9, .inl z4.1), (8, .inl z3.1), (6, .inr (.inl z2.1)), (4, .inr (.inl z1.1)), (3, .inl (μ (am_ref o 36) (a : Int).toNat)), (0, .inr (.inr (11, o))), (1, .inl a), (2, .inl b)]) hG (pc := 126) d225_126 (ml225 _ (by decide)) rfl (x_lp h (fun r h1 h2 => (am_lvw (lv2 := [(0, .inr (.inr (11, o))), (1, .inl a), (2, .inl b), (6, .inr (.inl z2.1)), (8, .inl z3.1), (9, .inl z4.1), (11, .inl z3.1), (12, .inl z20.1), (13, .inl z3.1)]) [9, 10, 11, 6, 5, 4, 2, 1, 0] rfl (w225_128 hG hr _ _ _ _ _ _ _ _ _ _ _ _ h1 (fun q9 e => am_q1 e h2 (fun h => am_q0 h)) (fun t9 e => am_q2 e h2 (fun h => (xq_vret hG (by decide) hr (pc := 207) d225_207 rk225 (am_q0 h)))))))))))))))) (fun h => (am_c_aload_n hG (pc := 107) d225_107 rfl (am_c_iload_n hG (pc := 108) d225_108 rfl (x_virtual_i (t := 11) (o := o) (as2 := [.inl a]) (rest := []) hG (pc := 109) d225_109 mo225 m11_357 (by decide) dp225_212 rfl rfl (Nat.le_of_ble_eq_true rfl) (Nat.le_of_ble_eq_true rfl) rg212 sd212 (e212 _ _ _) h (fun z21 h => (am_c_iconst hG (pc := 112) d225_112 (by decide) (am_c_isub hG (pc := 113) d225_113 (x_goto (tgt := 122) hG (pc := 114) d225_114 rfl (x_istore (lv' := [(12, .inl (w32 (z21.1 - 1))), (11, .inl z3.1), (10, .inl z3.1), (9, .inl z4.1), (8, .inl z3.1), (6, .inr (.inl z2.1)), (4, .inr (.inl z1.1)), (3, .inl (μ (am_ref o 36) (a : Int).toNat)), (0, .inr (.inr (11, o))), (1, .inl a), (2, .inl b)]) hG (pc := 122) d225_122 (ml225 _ (by decide)) rfl (am_c_iload hG (pc := 124) d225_124 rfl (x_istore (lv' := [(13, .inl z3.1), (12, .inl (w32 (z21.1 - 1))), (11, .inl z3.1), (10, .inl z3.1), (9, .inl z4.1), (8, .inl z3.1), (6, .inr (.inl z2.1)), (4, .inr (.inl z1.1)), (3, .inl (μ (am_ref o 36) (a : Int).toNat)), (0, .inr (.inr (11, o))), (1, .inl a), (2, .inl b)]) hG (pc := 126) d225_126 (ml225 _ (by decide)) rfl (x_lp h (fun r h1 h2 => (am_lvw (lv2 := [(0, .inr (.inr (11, o))), (1, .inl a), (2, .inl b), (6, .inr (.inl z2.1)), (8, .inl z3.1), (9, .inl z4.1), (11, .inl z3.1), (12, .inl (w32 (z21.1 - 1))), (13, .inl z3.1)]) [9, 10, 11, 6, 5, 4, 2, 1, 0] rfl (w225_128 hG hr _ _ _ _ _ _ _ _ _ _ _ _ h1 (fun q10 e => am_q1 e h2 (fun h => am_q0 h)) (fun t10 e => am_q2 e h2 (fun h => (xq_vret hG (by decide) hr (pc := 207) d225_207 rk225 (am_q0 h))))))))))))))))))))))))))))))) (fun h => (am_c_iload hG (pc := 85) d225_85 rfl (x_goto (tgt := 92) hG (pc := 87) d225_87 rfl (x_istore (lv' := [(11, .inl z4.1), (10, .inl z3.1), (9, .inl z4.1), (8, .inl z3.1), (6, .inr (.inl z2.1)), (4, .inr (.inl z1.1)), (3, .inl (μ (am_ref o 36) (a : Int).toNat)), (0, .inr (.inr (11, o))), (1, .inl a), (2, .inl b)]) hG (pc := 92) d225_92 (ml225 _ (by decide)) rfl (am_c_aload_n hG (pc := 94) d225_94 rfl (am_c_iload_n hG (pc := 95) d225_95 rfl (x_virtual_i (t := 11) (o := o) (as2 := [.inl a]) (rest := []) hG (pc := 96) d225_96 mo225 m11_357 (by decide) dp225_212 rfl rfl (Nat.le_of_ble_eq_true rfl) (Nat.le_of_ble_eq_true rfl) rg212 sd212 (e212 _ _ _) h (fun z22 h => (am_c_aload_n hG (pc := 99) d225_99 rfl (am_c_iload_n hG (pc := 100) d225_100 rfl (x_virtual_i (t := 11) (o := o) (as2 := [.inl a]) (rest := [.inl z22.1]) hG (pc := 101) d225_101 mo225 m11_354 (by decide) dp225_211 rfl rfl (Nat.le_of_ble_eq_true rfl) (Nat.le_of_ble_eq_true rfl) rg211 sd211 (e211 _ _ _) h (fun z23 h => (x_icmp_le (tgt := 117) hG (pc := 104) d225_104 rfl h (fun h => (am_c_aload_n hG (pc := 117) d225_117 rfl (am_c_iload_n hG (pc := 118) d225_118 rfl (x_virtual_i (t := 11) (o := o) (as2 := [.inl a]) (rest := []) hG (pc := 119) d225_119 mo225 m11_357 (by decide) dp225_212 rfl rfl (Nat.le_of_ble_eq_true rfl) (Nat.le_of_ble_eq_true rfl) rg212 sd212 (e212 _ _ _) h (fun z24 h => (x_istore (lv' := [(12, .inl z24.1), (11, .inl z4.1), (10, .inl z3.1), (9, .inl z4.1), (8, .inl z3.1), (6, .inr (.inl z2.1)), (4, .inr (.inl z1.1)), (3, .inl (μ (am_ref o 36) (a : Int).toNat)), (0, .inr (.inr (11, o))), (1, .inl a), (2, .inl b)]) hG (pc := 122) d225_122 (ml225 _ (by decide)) rfl (am_c_iload hG (pc := 124) d225_124 rfl (x_istore (lv' := [(13, .inl z3.1), (12, .inl z24.1), (11, .inl z4.1), (10, .inl z3.1), (9, .inl z4.1), (8, .inl z3.1), (6, .inr (.inl z2.1)), (4, .inr (.inl z1.1)), (3, .inl (μ (am_ref o 36) (a : Int).toNat)), (0, .inr (.inr (11, o))), (1, .inl a), (2, .inl b)]) hG (pc := 126) d225_126 (ml225 _ (by decide)) rfl (x_lp h (fun r h1 h2 => (am_lvw (lv2 := [(0, .inr (.inr (11, o))), (1, .inl a), (2, .inl b), (6, .inr (.inl z2.1)), (8, .inl z3.1), (9, .inl z4.1), (11, .inl z4.1), (12, .inl z24.1), (13, .inl z3.1)]) [9, 10, 11, 6, 5, 4, 2, 1, 0] rfl (w225_128 hG hr _ _ _ _ _ _ _ _ _ _ _ _ h1 (fun q11 e => am_q1 e h2 (fun h => am_q0 h)) (fun t11 e => am_q2 e h2 (fun h => (xq_vret hG (by decide) hr (pc := 207) d225_207 rk225 (am_q0 h)))))))))))))))) (fun h => (am_c_aload_n hG (pc := 107) d225_107 rfl (am_c_iload_n hG (pc := 108) d225_108 rfl (x_virtual_i (t := 11) (o := o) (as2 := [.inl a]) (rest := []) hG (pc := 109) d225_109 mo225 m11_357 (by decide) dp225_212 rfl rfl (Nat.le_of_ble_eq_true rfl) (Nat.le_of_ble_eq_true rfl) rg212 sd212 (e212 _ _ _) h (fun z25 h => (am_c_iconst hG (pc := 112) d225_112 (by decide) (am_c_isub hG (pc := 113) d225_113 (x_goto (tgt := 122) hG (pc := 114) d225_114 rfl (x_istore (lv' := [(12, .inl (w32 (z25.1 - 1))), (11, .inl z4.1), (10, .inl z3.1), (9, .inl z4.1), (8, .inl z3.1), (6, .inr (.inl z2.1)), (4, .inr (.inl z1.1)), (3, .inl (μ (am_ref o 36) (a : Int).toNat)), (0, .inr (.inr (11, o))), (1, .inl a), (2, .inl b)]) hG (pc := 122) d225_122 (ml225 _ (by decide)) rfl (am_c_iload hG (pc := 124) d225_124 rfl (x_istore (lv' := [(13, .inl z3.1), (12, .inl (w32 (z25.1 - 1))), (11, .inl z4.1), (10, .inl z3.1), (9, .inl z4.1), (8, .inl z3.1), (6, .inr (.inl z2.1)), (4, .inr (.inl z1.1)), (3, .inl (μ (am_ref o 36) (a : Int).toNat)), (0, .inr (.inr (11, o))), (1, .inl a), (2, .inl b)]) hG (pc := 126) d225_126 (ml225 _ (by decide)) rfl (x_lp h (fun r h1 h2 => (am_lvw (lv2 := [(0, .inr (.inr (11, o))), (1, .inl a), (2, .inl b), (6, .inr (.inl z2.1)), (8, .inl z3.1), (9, .inl z4.1), (11, .inl z4.1), (12, .inl (w32 (z25.1 - 1))), (13, .inl z3.1)]) [9, 10, 11, 6, 5, 4, 2, 1, 0] rfl (w225_128 hG hr _ _ _ _ _ _ _ _ _ _ _ _ h1 (fun q12 e => am_q1 e h2 (fun h => am_q0 h)) (fun t12 e => am_q2 e h2 (fun h => (xq_vret hG (by decide) hr (pc := 207) d225_207 rk225 (am_q0 h))))))))))))))))))))))))))))))))))))))))))))))))))))))))))) (fun h => (am_c_iconst hG (pc := 33) d225_33 (by decide) (x_goto (tgt := 38) hG (pc := 34) d225_34 rfl (x_virtual_l (t := 11) (o := o) (as2 := [.inl (μ (am_ref o 36) (a : Int).toNat), .inl b, .inl 1]) (rest := []) hG (pc := 38) d225_38 mo225 m11_317 (by decide) dp225_204 rfl rfl (Nat.le_of_ble_eq_true rfl) (Nat.le_of_ble_eq_true rfl) rg204 sd204 (e204 _ _ _ _ _) h (fun z26 h => (x_lstore (lv' := [(6, .inr (.inl z26.1)), (4, .inr (.inl z1.1)), (3, .inl (μ (am_ref o 36) (a : Int).toNat)), (0, .inr (.inr (11, o))), (1, .inl a), (2, .inl b)]) hG (pc := 41) d225_41 (ml225 _ (by decide)) rfl (am_c_aload_n hG (pc := 43) d225_43 rfl (am_c_lload hG (pc := 44) d225_44 rfl (x_virtual_i (t := 11) (o := o) (as2 := [.inr (.inl z26.1)]) (rest := []) hG (pc := 46) d225_46 mo225 m11_382 (by decide) dp225_218 rfl rfl (Nat.le_of_ble_eq_true rfl) (Nat.le_of_ble_eq_true rfl) rg218 sd218 (e218 _ _ _) h (fun z27 h => (x_istore (lv' := [(8, .inl z27.1), (6, .inr (.inl z26.1)), (4, .inr (.inl z1.1)), (3, .inl (μ (am_ref o 36) (a : Int).toNat)), (0, .inr (.inr (11, o))), (1, .inl a), (2, .inl b)]) hG (pc := 49) d225_49 (ml225 _ (by decide)) rfl (am_c_aload_n hG (pc := 51) d225_51 rfl (am_c_lload hG (pc := 52) d225_52 rfl (am_c_lload hG (pc := 54) d225_54 rfl (am_c_ladd hG (pc := 56) d225_56 (x_virtual_i (t := 11) (o := o) (as2 := [.inr (.inl (w64 (z26.1 + z1.1)))]) (rest := []) hG (pc := 57) d225_57 mo225 m11_382 (by decide) dp225_218 rfl rfl (Nat.le_of_ble_eq_true rfl) (Nat.le_of_ble_eq_true rfl) rg218 sd218 (e218 _ _ _) h (fun z28 h => (x_istore (lv' := [(9, .inl z28.1), (8, .inl z27.1), (6, .inr (.inl z26.1)), (4, .inr (.inl z1.1)), (3, .inl (μ (am_ref o 36) (a : Int).toNat)), (0, .inr (.inr (11, o))), (1, .inl a), (2, .inl b)]) hG (pc := 60) d225_60 (ml225 _ (by decide)) rfl (am_c_iload hG (pc := 62) d225_62 rfl (am_c_iload hG (pc := 64) d225_64 rfl (x_icmp_ge (tgt := 74) hG (pc := 66) d225_66 rfl h (fun h => (am_c_iload hG (pc := 74) d225_74 rfl (x_istore (lv' := [(10, .inl z28.1), (9, .inl z28.1), (8, .inl z27.1), (6, .inr (.inl z26.1)), (4, .inr (.inl z1.1)), (3, .inl (μ (am_ref o 36) (a : Int).toNat)), (0, .inr (.inr (11, o))), (1, .inl a), (2, .inl b)]) hG (pc := 76) d225_76 (ml225 _ (by decide)) rfl (am_c_iload hG (pc := 78) d225_78 rfl (am_c_iload hG (pc := 80) d225_80 rfl (x_icmp_ge (tgt := 90) hG (pc := 82) d225_82 rfl h (fun h => (am_c_iload hG (pc := 90) d225_90 rfl (x_istore (lv' := [(11, .inl z27.1), (10, .inl z28.1), (9, .inl z28.1), (8, .inl z27.1), (6, .inr (.inl z26.1)), (4, .inr (.inl z1.1)), (3, .inl (μ (am_ref o 36) (a : Int).toNat)), (0, .inr (.inr (11, o))), (1, .inl a), (2, .inl b)]) hG (pc := 92) d225_92 (ml225 _ (by decide)) rfl (am_c_aload_n hG (pc := 94) d225_94 rfl (am_c_iload_n hG (pc := 95) d225_95 rfl (x_virtual_i (t := 11) (o := o) (as2 := [.inl a]) (rest := []) hG (pc := 96) d225_96 mo225 m11_357 (by decide) dp225_212 rfl rfl (Nat.le_of_ble_eq_true rfl) (Nat.le_of_ble_eq_true rfl) rg212 sd212 (e212 _ _ _) h (fun z29 h => (am_c_aload_n hG (pc := 99) d225_99 rfl (am_c_iload_n hG (pc := 100) d225_100 rfl (x_virtual_i (t := 11) (o := o) (as2 := [.inl a]) (rest := [.inl z29.1]) hG (pc := 101) d225_101 mo225 m11_354 (by decide) dp225_211 rfl rfl (Nat.le_of_ble_eq_true rfl) (Nat.le_of_ble_eq_true rfl) rg211 sd211 (e211 _ _ _) h (fun z30 h => (x_icmp_le (tgt := 117) hG (pc := 104) d225_104 rfl h (fun h => (am_c_aload_n hG (pc := 117) d225_117 rfl (am_c_iload_n hG (pc := 118) d225_118 rfl (x_virtual_i (t := 11) (o := o) (as2 := [.inl a]) (rest := []) hG (pc := 119) d225_119 mo225 m11_357 (by decide) dp225_212 rfl rfl (Nat.le_of_ble_eq_true rfl) (Nat.le_of_ble_eq_true rfl) rg212 sd212 (e212 _ _ _) h (fun z31 h => (x_istore (lv' := [(12, .inl z31.1), (11, .inl z27.1), (10, .inl z28.1), (9, .inl z28.1), (8, .inl z27.1), (6, .inr (.inl z26.1)), (4, .inr (.inl z1.1)), (3, .inl (μ (am_ref o 36) (a : Int).toNat)), (0, .inr (.inr (11, o))), (1, .inl a), (2, .inl b)]) hG (pc := 122) d225_122 (ml225 _ (by decide)) rfl (am_c_iload hG (pc := 124) d225_124 rfl (x_istore (lv' := [(13, .inl z28.1), (12, .inl z31.1), (11, .inl z27.1), (10, .inl z28.1), (9, .inl z28.1), (8, .inl z27.1), (6, .inr (.inl z26.1)), (4, .inr (.inl z1.1)), (3, .inl (μ (am_ref o 36) (a : Int).toNat)), (0, .inr (.inr (11, o))), (1, .inl a), (2, .inl b)]) hG (pc := 126) d225_126 (ml225 _ (by decide)) rfl (x_lp h (fun r h1 h2 => (am_lvw (lv2 := [(0, .inr (.inr (11, o))), (1, .inl a), (2, .inl b), (6, .inr (.inl z26.1)), (8, .inl z27.1), (9, .inl z28.1), (11, .inl z27.1), (12, .inl z31.1), (13, .inl z28.1)]) [9, 10, 11, 6, 5, 4, 2, 1, 0] rfl (w225_128 hG hr _ _ _ _ _ _ _ _ _ _ _ _ h1 (fun q13 e => am_q1 e h2 (fun h => am_q0 h)) (fun t13 e => am_q2 e h2 (fun h => (xq_vret hG (by decide) hr (pc := 207) d225_207 rk225 (am_q0 h)))))))))))))))) (fun h => (am_c_aload_n hG (pc := 107) d225_107 rfl (am_c_iload_n hG (pc := 108) d225_108 rfl (x_virtual_i (t := 11) (o := o) (as2 := [.inl a]) (rest := []) hG (pc := 109) d225_109 mo225 m11_357 (by decide) dp225_212 rfl rfl (Nat.le_of_ble_eq_true rfl) (Nat.le_of_ble_eq_true rfl) rg212 sd212 (e212 _ _ _) h (fun z32 h => (am_c_iconst hG (pc := 112) d225_112 (by decide) (am_c_isub hG (pc := 113) d225_113 (x_goto (tgt := 122) hG (pc := 114) d225_114 rfl (x_istore (lv' := [(12, .inl (w32 (z32.1 - 1))), (11, .inl z27.1), (10, .inl z28.1), (9, .inl z28.1), (8, .inl z27.1), (6, .inr (.inl z26.1)), (4, .inr (.inl z1.1)), (3, .inl (μ (am_ref o 36) (a : Int).toNat)), (0, .inr (.inr (11, o))), (1, .inl a), (2, .inl b)]) hG (pc := 122) d225_122 (ml225 _ (by decide)) rfl (am_c_iload hG (pc := 124) d225_124 rfl (x_istore (lv' := [(13, .inl z28.1), (12, .inl (w32 (z32.1 - 1))), (11, .inl z27.1), (10, .inl z28.1), (9, .inl z28.1), (8, .inl z27.1), (6, .inr (.inl z26.1)), (4, .inr (.inl z1.1)), (3, .inl (μ (am_ref o 36) (a : Int).toNat)), (0, .inr (.inr (11, o))), (1, .inl a), (2, .inl b)]) hG (pc := 126) d225_126 (ml225 _ (by decide)) rfl (x_lp h (fun r h1 h2 => (am_lvw (lv2 := [(0, .inr (.inr (11, o))), (1, .inl a), (2, .inl b), (6, .inr (.inl z26.1)), (8, .inl z27.1), (9, .inl z28.1), (11, .inl z27.1), (12, .inl (w32 (z32.1 - 1))), (13, .inl z28.1)]) [9, 10, 11, 6, 5, 4, 2, 1, 0] rfl (w225_128 hG hr _ _ _ _ _ _ _ _ _ _ _ _ h1 (fun q14 e => am_q1 e h2 (fun h => am_q0 h)) (fun t14 e => am_q2 e h2 (fun h => (xq_vret hG (by decide) hr (pc := 207) d225_207 rk225 (am_q0 h))))))))))))))))))))))))))))))) (fun h => (am_c_iload hG (pc := 85) d225_85 rfl (x_goto (tgt := 92) hG (pc := 87) d225_87 rfl (x_istore (lv' := [(11, .inl z28.1), (10, .inl z28.1), (9, .inl z28.1), (8, .inl z27.1), (6, .inr (.inl z26.1)), (4, .inr (.inl z1.1)), (3, .inl (μ (am_ref o 36) (a : Int).toNat)), (0, .inr (.inr (11, o))), (1, .inl a), (2, .inl b)]) hG (pc := 92) d225_92 (ml225 _ (by decide)) rfl (am_c_aload_n hG (pc := 94) d225_94 rfl (am_c_iload_n hG (pc := 95) d225_95 rfl (x_virtual_i (t := 11) (o := o) (as2 := [.inl a]) (rest := []) hG (pc := 96) d225_96 mo225 m11_357 (by decide) dp225_212 rfl rfl (Nat.le_of_ble_eq_true rfl) (Nat.le_of_ble_eq_true rfl) rg212 sd212 (e212 _ _ _) h (fun z33 h => (am_c_aload_n hG (pc := 99) d225_99 rfl (am_c_iload_n hG (pc := 100) d225_100 rfl (x_virtual_i (t := 11) (o := o) (as2 := [.inl a]) (rest := [.inl z33.1]) hG (pc := 101) d225_101 mo225 m11_354 (by decide) dp225_211 rfl rfl (Nat.le_of_ble_eq_true rfl) (Nat.le_of_ble_eq_true rfl) rg211 sd211 (e211 _ _ _) h (fun z34 h => (x_icmp_le (tgt := 117) hG (pc := 104) d225_104 rfl h (fun h => (am_c_aload_n hG (pc := 117) d225_117 rfl (am_c_iload_n hG (pc := 118) d225_118 rfl (x_virtual_i (t := 11) (o := o) (as2 := [.inl a]) (rest := []) hG (pc := 119) d225_119 mo225 m11_357 (by decide) dp225_212 rfl rfl (Nat.le_of_ble_eq_true rfl) (Nat.le_of_ble_eq_true rfl) rg212 sd212 (e212 _ _ _) h (fun z35 h => (x_istore (lv' := [(12, .inl z35.1), (11, .inl z28.1), (10, .inl z28.1), (9, .inl z28.1), (8, .inl z27.1), (6, .inr (.inl z26.1)), (4, .inr (.inl z1.1)), (3, .inl (μ (am_ref o 36) (a : Int).toNat)), (0, .inr (.inr (11, o))), (1, .inl a), (2, .inl b)]) hG (pc := 122) d225_122 (ml225 _ (by decide)) rfl (am_c_iload hG (pc := 124) d225_124 rfl (x_istore (lv' := [(13, .inl z28.1), (12, .inl z35.1), (11, .inl z28.1), (10, .inl z28.1), (9, .inl z28.1), (8, .inl z27.1), (6, .inr (.inl z26.1)), (4, .inr (.inl z1.1)), (3, .inl (μ (am_ref o 36) (a : Int).toNat)), (0, .inr (.inr (11, o))), (1, .inl a), (2, .inl b)]) hG (pc := 126) d225_126 (ml225 _ (by decide)) rfl (x_lp h (fun r h1 h2 => (am_lvw (lv2 := [(0, .inr (.inr (11, o))), (1, .inl a), (2, .inl b), (6, .inr (.inl z26.1)), (8, .inl z27.1), (9, .inl z28.1), (11, .inl z28.1), (12, .inl z35.1), (13, .inl z28.1)]) [9, 10, 11, 6, 5, 4, 2, 1, 0] rfl (w225_128 hG hr _ _ _ _ _ _ _ _ _ _ _ _ h1 (fun q15 e => am_q1 e h2 (fun h => am_q0 h)) (fun t15 e => am_q2 e h2 (fun h => (xq_vret hG (by decide) hr (pc := 207) d225_207 rk225 (am_q0 h)))))))))))))))) (fun h => (am_c_aload_n hG (pc := 107) d225_107 rfl (am_c_iload_n hG (pc := 108) d225_108 rfl (x_virtual_i (t := 11) (o := o) (as2 := [.inl a]) (rest := []) hG (pc := 109) d225_109 mo225 m11_357 (by decide) dp225_212 rfl rfl (Nat.le_of_ble_eq_true rfl) (Nat.le_of_ble_eq_true rfl) rg212 sd212 (e212 _ _ _) h (fun z36 h => (am_c_iconst hG (pc := 112) d225_112 (by decide) (am_c_isub hG (pc := 113) d225_113 (x_goto (tgt := 122) hG (pc := 114) d225_114 rfl (x_istore (lv' := [(12, .inl (w32 (z36.1 - 1))), (11, .inl z28.1), (10, .inl z28.1), (9, .inl z28.1), (8, .inl z27.1), (6, .inr (.inl z26.1)), (4, .inr (.inl z1.1)), (3, .inl (μ (am_ref o 36) (a : Int).toNat)), (0, .inr (.inr (11, o))), (1, .inl a), (2, .inl b)]) hG (pc := 122) d225_122 (ml225 _ (by decide)) rfl (am_c_iload hG (pc := 124) d225_124 rfl (x_istore (lv' := [(13, .inl z28.1), (12, .inl (w32 (z36.1 - 1))), (11, .inl z28.1), (10, .inl z28.1), (9, .inl z28.1), (8, .inl z27.1), (6, .inr (.inl z26.1)), (4, .inr (.inl z1.1)), (3, .inl (μ (am_ref o 36) (a : Int).toNat)), (0, .inr (.inr (11, o))), (1, .inl a), (2, .inl b)]) hG (pc := 126) d225_126 (ml225 _ (by decide)) rfl (x_lp h (fun r h1 h2 => (am_lvw (lv2 := [(0, .inr (.inr (11, o))), (1, .inl a), (2, .inl b), (6, .inr (.inl z26.1)), (8, .inl z27.1), (9, .inl z28.1), (11, .inl z28.1), (12, .inl (w32 (z36.1 - 1))), (13, .inl z28.1)]) [9, 10, 11, 6, 5, 4, 2, 1, 0] rfl (w225_128 hG hr _ _ _ _ _ _ _ _ _ _ _ _ h1 (fun q16 e => am_q1 e h2 (fun h => am_q0 h)) (fun t16 e => am_q2 e h2 (fun h => (xq_vret hG (by decide) hr (pc := 207) d225_207 rk225 (am_q0 h)))))))))))))))))))))))))))))))))))))) (fun h => (am_c_iload hG (pc := 69) d225_69 rfl (x_goto (tgt := 76) hG (pc := 71) d225_71 rfl (x_istore (lv' := [(10, .inl z27.1), (9, .inl z28.1), (8, .inl z27.1), (6, .inr (.inl z26.1)), (4, .inr (.inl z1.1)), (3, .inl (μ (am_ref o 36) (a : Int).toNat)), (0, .inr (.inr (11, o))), (1, .inl a), (2, .inl b)]) hG (pc := 76) d225_76 (ml225 _ (by decide)) rfl (am_c_iload hG (pc := 78) d225_78 rfl (am_c_iload hG (pc := 80) d225_80 rfl (x_icmp_ge (tgt := 90) hG (pc := 82) d225_82 rfl h (fun h => (am_c_iload hG (pc := 90) d225_90 rfl (x_istore (lv' := [(11, .inl z27.1), (10, .inl z27.1), (9, .inl z28.1), (8, .inl z27.1), (6, .inr (.inl z26.1)), (4, .inr (.inl z1.1)), (3, .inl (μ (am_ref o 36) (a : Int).toNat)), (0, .inr (.inr (11, o))), (1, .inl a), (2, .inl b)]) hG (pc := 92) d225_92 (ml225 _ (by decide)) rfl (am_c_aload_n hG (pc := 94) d225_94 rfl (am_c_iload_n hG (pc := 95) d225_95 rfl (x_virtual_i (t := 11) (o := o) (as2 := [.inl a]) (rest := []) hG (pc := 96) d225_96 mo225 m11_357 (by decide) dp225_212 rfl rfl (Nat.le_of_ble_eq_true rfl) (Nat.le_of_ble_eq_true rfl) rg212 sd212 (e212 _ _ _) h (fun z37 h => (am_c_aload_n hG (pc := 99) d225_99 rfl (am_c_iload_n hG (pc := 100) d225_100 rfl (x_virtual_i (t := 11) (o := o) (as2 := [.inl a]) (rest := [.inl z37.1]) hG (pc := 101) d225_101 mo225 m11_354 (by decide) dp225_211 rfl rfl (Nat.le_of_ble_eq_true rfl) (Nat.le_of_ble_eq_true rfl) rg211 sd211 (e211 _ _ _) h (fun z38 h => (x_icmp_le (tgt := 117) hG (pc := 104) d225_104 rfl h (fun h => (am_c_aload_n hG (pc := 117) d225_117 rfl (am_c_iload_n hG (pc := 118) d225_118 rfl (x_virtual_i (t := 11) (o := o) (as2 := [.inl a]) (rest := []) hG (pc := 119) d225_119 mo225 m11_357 (by decide) dp225_212 rfl rfl (Nat.le_of_ble_eq_true rfl) (Nat.le_of_ble_eq_true rfl) rg212 sd212 (e212 _ _ _) h (fun z39 h => (x_istore (lv' := [(12, .inl z39.1), (11, .inl z27.1), (10, .inl z27.1), (9, .inl z28.1), (8, .inl z27.1), (6, .inr (.inl z26.1)), (4, .inr (.inl z1.1)), (3, .inl (μ (am_ref o 36) (a : Int).toNat)), (0, .inr (.inr (11, o))), (1, .inl a), (2, .inl b)]) hG (pc := 122) d225_122 (ml225 _ (by decide)) rfl (am_c_iload hG (pc := 124) d225_124 rfl (x_istore (lv' := [(13, .inl z27.1), (12, .inl z39.1), (11, .inl z27.1), (10, .inl z27.1), (9, .inl z28.1), (8, .inl z27.1), (6, .inr (.inl z26.1)), (4, .inr (.inl z1.1)), (3, .inl (μ (am_ref o 36) (a : Int).toNat)), (0, .inr (.inr (11, o))), (1, .inl a), (2, .inl b)]) hG (pc := 126) d225_126 (ml225 _ (by decide)) rfl (x_lp h (fun r h1 h2 => (am_lvw (lv2 := [(0, .inr (.inr (11, o))), (1, .inl a), (2, .inl b), (6, .inr (.inl z26.1)), (8, .inl z27.1), (9, .inl z28.1), (11, .inl z27.1), (12, .inl z39.1), (13, .inl z27.1)]) [9, 10, 11, 6, 5, 4, 2, 1, 0] rfl (w225_128 hG hr _ _ _ _ _ _ _ _ _ _ _ _ h1 (fun q17 e => am_q1 e h2 (fun h => am_q0 h)) (fun t17 e => am_q2 e h2 (fun h => (xq_vret hG (by decide) hr (pc := 207) d225_207 rk225 (am_q0 h)))))))))))))))) (fun h => (am_c_aload_n hG (pc := 107) d225_107 rfl (am_c_iload_n hG (pc := 108) d225_108 rfl (x_virtual_i (t := 11) (o := o) (as2 := [.inl a]) (rest := []) hG (pc := 109) d225_109 mo225 m11_357 (by decide) dp225_212 rfl rfl (Nat.le_of_ble_eq_true rfl) (Nat.le_of_ble_eq_true rfl) rg212 sd212 (e212 _ _ _) h (fun z40 h => (am_c_iconst hG (pc := 112) d225_112 (by decide) (am_c_isub hG (pc := 113) d225_113 (x_goto (tgt := 122) hG (pc := 114) d225_114 rfl (x_istore (lv' := [(12, .inl (w32 (z40.1 - 1))), (11, .inl z27.1), (10, .inl z27.1), (9, .inl z28.1), (8, .inl z27.1), (6, .inr (.inl z26.1)), (4, .inr (.inl z1.1)), (3, .inl (μ (am_ref o 36) (a : Int).toNat)), (0, .inr (.inr (11, o))), (1, .inl a), (2, .inl b)]) hG (pc := 122) d225_122 (ml225 _ (by decide)) rfl (am_c_iload hG (pc := 124) d225_124 rfl (x_istore (lv' := [(13, .inl z27.1), (12, .inl (w32 (z40.1 - 1))), (11, .inl z27.1), (10, .inl z27.1), (9, .inl z28.1), (8, .inl z27.1), (6, .inr (.inl z26.1)), (4, .inr (.inl z1.1)), (3, .inl (μ (am_ref o 36) (a : Int).toNat)), (0, .inr (.inr (11, o))), (1, .inl a), (2, .inl b)]) hG (pc := 126) d225_126 (ml225 _ (by decide)) rfl (x_lp h (fun r h1 h2 => (am_lvw (lv2 := [(0, .inr (.inr (11, o))), (1, .inl a), (2, .inl b), (6, .inr (.inl z26.1)), (8, .inl z27.1), (9, .inl z28.1), (11, .inl z27.1), (12, .inl (w32 (z40.1 - 1))), (13, .inl z27.1)]) [9, 10, 11, 6, 5, 4, 2, 1, 0] rfl (w225_128 hG hr _ _ _ _ _ _ _ _ _ _ _ _ h1 (fun q18 e => am_q1 e h2 (fun h => am_q0 h)) (fun t18 e => am_q2 e h2 (fun h => (xq_vret hG (by decide) hr (pc := 207) d225_207 rk225 (am_q0 h))))))))))))))))))))))))))))))) (fun h => (am_c_iload hG (pc := 85) d225_85 rfl (x_goto (tgt := 92) hG (pc := 87) d225_87 rfl (x_istore (lv' := [(11, .inl z28.1), (10, .inl z27.1), (9, .inl z28.1), (8, .inl z27.1), (6, .inr (.inl z26.1)), (4, .inr (.inl z1.1)), (3, .inl (μ (am_ref o 36) (a : Int).toNat)), (0, .inr (.inr (11, o))), (1, .inl a), (2, .inl b)]) hG (pc := 92) d225_92 (ml225 _ (by decide)) rfl (am_c_aload_n hG (pc := 94) d225_94 rfl (am_c_iload_n hG (pc := 95) d225_95 rfl (x_virtual_i (t := 11) (o := o) (as2 := [.inl a]) (rest := []) hG (pc := 96) d225_96 mo225 m11_357 (by decide) dp225_212 rfl rfl (Nat.le_of_ble_eq_true rfl) (Nat.le_of_ble_eq_true rfl) rg212 sd212 (e212 _ _ _) h (fun z41 h => (am_c_aload_n hG (pc := 99) d225_99 rfl (am_c_iload_n hG (pc := 100) d225_100 rfl (x_virtual_i (t := 11) (o := o) (as2 := [.inl a]) (rest := [.inl z41.1]) hG (pc := 101) d225_101 mo225 m11_354 (by decide) dp225_211 rfl rfl (Nat.le_of_ble_eq_true rfl) (Nat.le_of_ble_eq_true rfl) rg211 sd211 (e211 _ _ _) h (fun z42 h => (x_icmp_le (tgt := 117) hG (pc := 104) d225_104 rfl h (fun h => (am_c_aload_n hG (pc := 117) d225_117 rfl (am_c_iload_n hG (pc := 118) d225_118 rfl (x_virtual_i (t := 11) (o := o) (as2 := [.inl a]) (rest := []) hG (pc := 119) d225_119 mo225 m11_357 (by decide) dp225_212 rfl rfl (Nat.le_of_ble_eq_true rfl) (Nat.le_of_ble_eq_true rfl) rg212 sd212 (e212 _ _ _) h (fun z43 h => (x_istore (lv' := [(12, .inl z43.1), (11, .inl z28.1), (10, .inl z27.1), (9, .inl z28.1), (8, .inl z27.1), (6, .inr (.inl z26.1)), (4, .inr (.inl z1.1)), (3, .inl (μ (am_ref o 36) (a : Int).toNat)), (0, .inr (.inr (11, o))), (1, .inl a), (2, .inl b)]) hG (pc := 122) d225_122 (ml225 _ (by decide)) rfl (am_c_iload hG (pc := 124) d225_124 rfl (x_istore (lv' := [(13, .inl z27.1), (12, .inl z43.1), (11, .inl z28.1), (10, .inl z27.1), (9, .inl z28.1), (8, .inl z27.1), (6, .inr (.inl z26.1)), (4, .inr (.inl z1.1)), (3, .inl (μ (am_ref o 36) (a : Int).toNat)), (0, .inr (.inr (11, o))), (1, .inl a), (2, .inl b)]) hG (pc := 126) d225_126 (ml225 _ (by decide)) rfl (x_lp h (fun r h1 h2 => (am_lvw (lv2 := [(0, .inr (.inr (11, o))), (1, .inl a), (2, .inl b), (6, .inr (.inl z26.1)), (8, .inl z27.1), (9, .inl z28.1), (11, .inl z28.1), (12, .inl z43.1), (13, .inl z27.1)]) [9, 10, 11, 6, 5, 4, 2, 1, 0] rfl (w225_128 hG hr _ _ _ _ _ _ _ _ _ _ _ _ h1 (fun q19 e => am_q1 e h2 (fun h => am_q0 h)) (fun t19 e => am_q2 e h2 (fun h => (xq_vret hG (by decide) hr (pc := 207) d225_207 rk225 (am_q0 h)))))))))))))))) (fun h => (am_c_aload_n hG (pc := 107) d225_107 rfl (am_c_iload_n hG (pc := 108) d225_108 rfl (x_virtual_i (t := 11) (o := o) (as2 := [.inl a]) (rest := []) hG (pc := 109) d225_109 mo225 m11_357 (by decide) dp225_212 rfl rfl (Nat.le_of_ble_eq_true rfl) (Nat.le_of_ble_eq_true rfl) rg212 sd212 (e212 _ _ _) h (fun z44 h => (am_c_iconst hG (pc := 112) d225_112 (by decide) (am_c_isub hG (pc := 113) d225_113 (x_goto (tgt := 122) hG (pc := 114) d225_114 rfl (x_istore (lv' := [(12, .inl (w32 (z44.1 - 1))), (11, .inl z28.1), (10, .inl z27.1), (9, .inl z28.1), (8, .inl z27.1), (6, .inr (.inl z26.1)), (4, .inr (.inl z1.1)), (3, .inl (μ (am_ref o 36) (a : Int).toNat)), (0, .inr (.inr (11, o))), (1, .inl a), (2, .inl b)]) hG (pc := 122) d225_122 (ml225 _ (by decide)) rfl (am_c_iload hG (pc := 124) d225_124 rfl (x_istore (lv' := [(13, .inl z27.1), (12, .inl (w32 (z44.1 - 1))), (11, .inl z28.1), (10, .inl z27.1), (9, .inl z28.1), (8, .inl z27.1), (6, .inr (.inl z26.1)), (4, .inr (.inl z1.1)), (3, .inl (μ (am_ref o 36) (a : Int).toNat)), (0, .inr (.inr (11, o))), (1, .inl a), (2, .inl b)]) hG (pc := 126) d225_126 (ml225 _ (by decide)) rfl (x_lp h (fun r h1 h2 => (am_lvw (lv2 := [(0, .inr (.inr (11, o))), (1, .inl a), (2, .inl b), (6, .inr (.inl z26.1)), (8, .inl z27.1), (9, .inl z28.1), (11, .inl z28.1), (12, .inl (w32 (z44.1 - 1))), (13, .inl z27.1)]) [9, 10, 11, 6, 5, 4, 2, 1, 0] rfl (w225_128 hG hr _ _ _ _ _ _ _ _ _ _ _ _ h1 (fun q20 e => am_q1 e h2 (fun h => am_q0 h)) (fun t20 e => am_q2 e h2 (fun h => (xq_vret hG (by decide) hr (pc := 207) d225_207 rk225 (am_q0 h)))))))))))))))))))))))))))))))))))))))))))))))))))))))))))))))))))) (fun h => (xq_vret hG (by decide) hr (pc := 22) d225_22 rk225 (am_q0 h))))))))))))))))))))
/-! ChartPressModel.paint()V -/
theorem D226 (k : Nat) {pc : Nat} {i : Instr} (h : tbi226[k]? = some (pc, i)) (hs : am_isw i = false) {n : Nat} (hn : am_il i = n) : decode (am_mc 226) pc = .ok (i, n) := am_d2 (by decide) (by decide) rfl h hs hn
theorem d226_0 : decode (am_mc 226) 0 = .ok (.iconst 0, 1) := D226 0 rfl rfl rfl
theorem d226_1 : decode (am_mc 226) 1 = .ok (.istore_n 1, 1) := D226 1 rfl rfl rfl
theorem d226_2 : decode (am_mc 226) 2 = .ok (.iload_n 1, 1) := D226 2 rfl rfl rfl
theorem d226_3 : decode (am_mc 226) 3 = .ok (.sipush 6144, 3) := D226 3 rfl rfl rfl
theorem d226_6 : decode (am_mc 226) 6 = .ok (.if_icmp .ge 16, 3) := D226 4 rfl rfl rfl
theorem d226_9 : decode (am_mc 226) 9 = .ok (.aload_n 0, 1) := D226 5 rfl rfl rfl
theorem d226_10 : decode (am_mc 226) 10 = .ok (.getfield 74, 3) := D226 6 rfl rfl rfl
theorem d226_13 : decode (am_mc 226) 13 = .ok (.iload_n 1, 1) := D226 7 rfl rfl rfl
theorem d226_14 : decode (am_mc 226) 14 = .ok (.iconst 0, 1) := D226 8 rfl rfl rfl
theorem d226_15 : decode (am_mc 226) 15 = .ok (.iastore, 1) := D226 9 rfl rfl rfl
theorem d226_16 : decode (am_mc 226) 16 = .ok (.iinc 1 1, 3) := D226 10 rfl rfl rfl
theorem d226_19 : decode (am_mc 226) 19 = .ok (.goto (-17), 3) := D226 11 rfl rfl rfl
theorem d226_22 : decode (am_mc 226) 22 = .ok (.aload_n 0, 1) := D226 12 rfl rfl rfl
theorem d226_23 : decode (am_mc 226) 23 = .ok (.invokevirtual 397, 3) := D226 13 rfl rfl rfl
theorem d226_26 : decode (am_mc 226) 26 = .ok (.aload_n 0, 1) := D226 14 rfl rfl rfl
theorem d226_27 : decode (am_mc 226) 27 = .ok (.invokevirtual 400, 3) := D226 15 rfl rfl rfl
theorem d226_30 : decode (am_mc 226) 30 = .ok (.iconst 0, 1) := D226 16 rfl rfl rfl
theorem d226_31 : decode (am_mc 226) 31 = .ok (.istore_n 1, 1) := D226 17 rfl rfl rfl
theorem d226_32 : decode (am_mc 226) 32 = .ok (.iload_n 1, 1) := D226 18 rfl rfl rfl
theorem d226_33 : decode (am_mc 226) 33 = .ok (.aload_n 0, 1) := D226 19 rfl rfl rfl
theorem d226_34 : decode (am_mc 226) 34 = .ok (.getfield 310, 3) := D226 20 rfl rfl rfl
theorem d226_37 : decode (am_mc 226) 37 = .ok (.if_icmp .ge 50, 3) := D226 21 rfl rfl rfl
theorem d226_40 : decode (am_mc 226) 40 = .ok (.aload_n 0, 1) := D226 22 rfl rfl rfl
theorem d226_41 : decode (am_mc 226) 41 = .ok (.getfield 244, 3) := D226 23 rfl rfl rfl
theorem d226_44 : decode (am_mc 226) 44 = .ok (.ifCond .le 8, 3) := D226 24 rfl rfl rfl
theorem d226_47 : decode (am_mc 226) 47 = .ok (.aload_n 0, 1) := D226 25 rfl rfl rfl
theorem d226_48 : decode (am_mc 226) 48 = .ok (.iload_n 1, 1) := D226 26 rfl rfl rfl
theorem d226_49 : decode (am_mc 226) 49 = .ok (.invokevirtual 403, 3) := D226 27 rfl rfl rfl
theorem d226_52 : decode (am_mc 226) 52 = .ok (.iconst 0, 1) := D226 28 rfl rfl rfl
theorem d226_53 : decode (am_mc 226) 53 = .ok (.istore_n 2, 1) := D226 29 rfl rfl rfl
theorem d226_54 : decode (am_mc 226) 54 = .ok (.iload_n 2, 1) := D226 30 rfl rfl rfl
theorem d226_55 : decode (am_mc 226) 55 = .ok (.aload_n 0, 1) := D226 31 rfl rfl rfl
theorem d226_56 : decode (am_mc 226) 56 = .ok (.getfield 285, 3) := D226 32 rfl rfl rfl
theorem d226_59 : decode (am_mc 226) 59 = .ok (.if_icmp .ge 22, 3) := D226 33 rfl rfl rfl
theorem d226_62 : decode (am_mc 226) 62 = .ok (.aload_n 0, 1) := D226 34 rfl rfl rfl
theorem d226_63 : decode (am_mc 226) 63 = .ok (.getfield 244, 3) := D226 35 rfl rfl rfl
theorem d226_66 : decode (am_mc 226) 66 = .ok (.ifCond .ne 15, 3) := D226 36 rfl rfl rfl
theorem d226_69 : decode (am_mc 226) 69 = .ok (.aload_n 0, 1) := D226 37 rfl rfl rfl
theorem d226_70 : decode (am_mc 226) 70 = .ok (.iload_n 1, 1) := D226 38 rfl rfl rfl
theorem d226_71 : decode (am_mc 226) 71 = .ok (.iload_n 2, 1) := D226 39 rfl rfl rfl
theorem d226_72 : decode (am_mc 226) 72 = .ok (.invokevirtual 406, 3) := D226 40 rfl rfl rfl
theorem d226_75 : decode (am_mc 226) 75 = .ok (.iinc 2 1, 3) := D226 41 rfl rfl rfl
theorem d226_78 : decode (am_mc 226) 78 = .ok (.goto (-24), 3) := D226 42 rfl rfl rfl
theorem d226_81 : decode (am_mc 226) 81 = .ok (.iinc 1 1, 3) := D226 43 rfl rfl rfl
theorem d226_84 : decode (am_mc 226) 84 = .ok (.goto (-52), 3) := D226 44 rfl rfl rfl
theorem d226_87 : decode (am_mc 226) 87 = .ok (.return_, 1) := D226 45 rfl rfl rfl
theorem ml226 : ∀ n, n < 3 → n < am_ml 226 := fun _ h => h
theorem mo226 : am_mo 226 = 11 := by decide +kernel
theorem rk226 : am_rk 226 = 0 := by decide +kernel
theorem rg226 : am_rcg 226 = 12 := by decide +kernel
theorem m11_397 : tb_m 11 397 = some (219, 1, 0, 0) := by decide +kernel
theorem m11_400 : tb_m 11 400 = some (221, 1, 0, 0) := by decide +kernel
theorem m11_403 : tb_m 11 403 = some (224, 2, 0, 0) := by decide +kernel
theorem m11_406 : tb_m 11 406 = some (225, 3, 0, 0) := by decide +kernel
theorem dp226_219 : am_md 219 + 1 ≤ am_md 226 ∧ 8 + (am_ml 219 + 11) + am_lr 219 ≤ am_lr 226 := by decide +kernel
theorem dp226_221 : am_md 221 + 1 ≤ am_md 226 ∧ 8 + (am_ml 221 + 11) + am_lr 221 ≤ am_lr 226 := by decide +kernel
theorem dp226_224 : am_md 224 + 1 ≤ am_md 226 ∧ 8 + (am_ml 224 + 11) + am_lr 224 ≤ am_lr 226 := by decide +kernel
theorem dp226_225 : am_md 225 + 1 ≤ am_md 226 ∧ 8 + (am_ml 225 + 11) + am_lr 225 ≤ am_lr 226 := by decide +kernel
def L226_2 (l0 : Nat) : Nat → Int → am_M → Option ((Int × am_M) ⊕ (Int × am_M))
  | 0, _, _ => none
  | n + 1, l1, μ => (if l1 < 6144 then (if (0 : Int) ≤ l1 ∧ l1 < ((am_len (am_ref l0 50) : Nat) : Int) then (L226_2 l0 n (w32 (l1 + 1)) (am_up μ (am_ref l0 50) (l1 : Int).toNat 0)) else none) else (some (.inr (l1, μ))))
theorem w226_2 {X : am_K} {C : am_C} {Q : State → Prop} (hG : am_G X C 226 0 0 (0, fun _ => 0)) (hr : match X with | (_, _, _, _, _, _, _, _, meth, _) => meth.sig.returnType = am_mr 226 ∧ meth.locks = false) (l0 : Nat) : ∀ (n : Nat) (l1 : Int) (μ : am_M) (r : (Int × am_M) ⊕ (Int × am_M)), L226_2 l0 n l1 μ = some r → (∀ q, r = .inl q → Q = am_E X C 226 q.1 q.2) → (∀ t, r = .inr t → am_W X C 226 Q 0 0 22 [(0, .inr (.inr (11, l0)))] [] t.2) → am_W X C 226 Q 0 0 2 [(0, .inr (.inr (11, l0))), (1, .inl l1)] [] μ := by
  intro n
  induction n with
  | zero => intro l1 μ r h; cases h
  | succ n ih =>
    intro l1 μ r h hI hX
    unfold L226_2 at h
    exact (am_c_iload_n hG (pc := 2) d226_2 rfl (am_c_sipush hG (pc := 3) d226_3 (by decide) (x_icmp_ge (tgt := 22) hG (pc := 6) d226_6 rfl h (fun h => (am_lvw (lv2 := [(0, .inr (.inr (11, l0)))]) [0] rfl (hX (l1, μ) (Option.some.inj h).symm))) (fun h => (am_c_aload_n hG (pc := 9) d226_9 rfl (x_get_n (v := .inr (.inr (16, am_ref l0 50))) hG (pc := 10) d226_10 mo226 f11_74 rfl (am_c_iload_n hG (pc := 13) d226_13 rfl (am_c_iconst hG (pc := 14) d226_14 (by decide) (x_iastore hG (pc := 15) d226_15 h (fun h => (x_iinc (lv' := [(1, .inl (w32 (l1 + 1))), (0, .inr (.inr (11, l0)))]) hG (pc := 16) d226_16 rfl (ml226 _ (by decide)) rfl (x_goto (tgt := 2) hG (pc := 19) d226_19 rfl (am_lvw (lv2 := [(0, .inr (.inr (11, l0))), (1, .inl (w32 (l1 + 1)))]) [1, 0] rfl (ih _ _ _ h hI hX))))))))))))))
def L226_54 (l0 : Nat) (l1 : Int) : Nat → Int → am_M → Option ((Int × am_M) ⊕ (Int × am_M))
  | 0, _, _ => none
  | n + 1, l2, μ => (if l2 < μ l0 38 then (if μ l0 20 = 0 then (am_op (fn225 l0 l1 l2 μ) (fun z3 => (L226_54 l0 l1 n (w32 (l2 + 1)) z3.2))) else (some (.inr (l2, μ)))) else (some (.inr (l2, μ))))
theorem w226_54 {X : am_K} {C : am_C} {Q : State → Prop} (hG : am_G X C 226 0 0 (0, fun _ => 0)) (hr : match X with | (_, _, _, _, _, _, _, _, meth, _) => meth.sig.returnType = am_mr 226 ∧ meth.locks = false) (l0 : Nat) (l1 : Int) : ∀ (n : Nat) (l2 : Int) (μ : am_M) (r : (Int × am_M) ⊕ (Int × am_M)), L226_54 l0 l1 n l2 μ = some r → (∀ q, r = .inl q → Q = am_E X C 226 q.1 q.2) → (∀ t, r = .inr t → am_W X C 226 Q 0 0 81 [(0, .inr (.inr (11, l0))), (1, .inl l1)] [] t.2) → am_W X C 226 Q 0 0 54 [(0, .inr (.inr (11, l0))), (1, .inl l1), (2, .inl l2)] [] μ := by
  intro n
  induction n with
  | zero => intro l2 μ r h; cases h
  | succ n ih =>
    intro l2 μ r h hI hX
    unfold L226_54 at h
    exact (am_c_iload_n hG (pc := 54) d226_54 rfl (am_c_aload_n hG (pc := 55) d226_55 rfl (x_get_n (v := .inl (μ l0 38)) hG (pc := 56) d226_56 mo226 f11_285 rfl (x_icmp_ge (tgt := 81) hG (pc := 59) d226_59 rfl h (fun h => (am_lvw (lv2 := [(0, .inr (.inr (11, l0))), (1, .inl l1)]) [0, 1] rfl (hX (l2, μ) (Option.some.inj h).symm))) (fun h => (am_c_aload_n hG (pc := 62) d226_62 rfl (x_get_n (v := .inl (μ l0 20)) hG (pc := 63) d226_63 mo226 f11_244 rfl (x_if_ne (tgt := 81) hG (pc := 66) d226_66 rfl h (fun h => (am_lvw (lv2 := [(0, .inr (.inr (11, l0))), (1, .inl l1)]) [0, 1] rfl (hX (l2, μ) (Option.some.inj h).symm))) (fun h => (am_c_aload_n hG (pc := 69) d226_69 rfl (am_c_iload_n hG (pc := 70) d226_70 rfl (am_c_iload_n hG (pc := 71) d226_71 rfl (x_virtual_v (t := 11) (o := l0) (as2 := [.inl l1, .inl l2]) (rest := []) hG (pc := 72) d226_72 mo226 m11_406 (by decide) dp226_225 rfl rfl (Nat.le_of_ble_eq_true rfl) (Nat.le_of_ble_eq_true rfl) rg225 sd225 (e225 _ _ _ _) h (fun z3 h => (x_iinc (lv' := [(2, .inl (w32 (l2 + 1))), (0, .inr (.inr (11, l0))), (1, .inl l1)]) hG (pc := 75) d226_75 rfl (ml226 _ (by decide)) rfl (x_goto (tgt := 54) hG (pc := 78) d226_78 rfl (am_lvw (lv2 := [(0, .inr (.inr (11, l0))), (1, .inl l1), (2, .inl (w32 (l2 + 1)))]) [1, 2, 0] rfl (ih _ _ _ h hI hX))))))))))))))))))
def L226_32 (l0 : Nat) : Nat → Int → am_M → Option ((Int × am_M) ⊕ (Int × am_M))
  | 0, _, _ => none
  | n + 1, l1, μ => (if l1 < μ l0 47 then (if 0 < μ l0 20 then (am_op (fn224 l0 l1 μ) (fun z4 => (am_op (L226_54 l0 l1 am_fuel 0 z4.2) (fun s => am_lp s (fun q3 => some (.inl q3)) (fun t3 => (L226_32 l0 n (w32 (l1 + 1)) t3.2)))))) else (am_op (L226_54 l0 l1 am_fuel 0 μ) (fun s => am_lp s (fun q2 => some (.inl q2)) (fun t2 => (L226_32 l0 n (w32 (l1 + 1)) t2.2))))) else (some (.inr (l1, μ))))
theorem w226_32 {X : am_K} {C : am_C} {Q : State → Prop} (hG : am_G X C 226 0 0 (0, fun _ => 0)) (hr : match X with | (_, _, _, _, _, _, _, _, meth, _) => meth.sig.returnType = am_mr 226 ∧ meth.locks = false) (l0 : Nat) : ∀ (n : Nat) (l1 : Int) (μ : am_M) (r : (Int × am_M) ⊕ (Int × am_M)), L226_32 l0 n l1 μ = some r → (∀ q, r = .inl q → Q = am_E X C 226 q.1 q.2) → (∀ t, r = .inr t → am_W X C 226 Q 0 0 87 [] [] t.2) → am_W X C 226 Q 0 0 32 [(0, .inr (.inr (11, l0))), (1, .inl l1)] [] μ := by
  intro n
  induction n with
  | zero => intro l1 μ r h; cases h
  | succ n ih =>
    intro l1 μ r h hI hX
    unfold L226_32 at h
    exact (am_c_iload_n hG (pc := 32) d226_32 rfl (am_c_aload_n hG (pc := 33) d226_33 rfl (x_get_n (v := .inl (μ l0 47)) hG (pc := 34) d226_34 mo226 f11_310 rfl (x_icmp_ge (tgt := 87) hG (pc := 37) d226_37 rfl h (fun h => (am_lvw (lv2 := []) [] rfl (hX (l1, μ) (Option.some.inj h).symm))) (fun h => (am_c_aload_n hG (pc := 40) d226_40 rfl (x_get_n (v := .inl (μ l0 20)) hG (pc := 41) d226_41 mo226 f11_244 rfl (x_if_le (tgt := 52) hG (pc := 44) d226_44 rfl h (fun h => (am_c_iconst hG (pc := 52) d226_52 (by decide) (x_istore_n (lv' := [(2, .inl 0), (0, .inr (.inr (11, l0))), (1, .inl l1)]) hG (pc := 53) d226_53 (ml226 _ (by decide)) rfl (x_lp h (fun r h1 h2 => (am_lvw (lv2 := [(0, .inr (.inr (11, l0))), (1, .inl l1), (2, .inl 0)]) [1, 2, 0] rfl (w226_54 hG hr _ _ _ _ _ _ h1 (fun q2 e => am_q1 e h2 (fun h => hI _ (Option.some.inj h).symm)) (fun t2 e => am_q2 e h2 (fun h => (x_iinc (lv' := [(1, .inl (w32 (l1 + 1))), (0, .inr (.inr (11, l0)))]) hG (pc := 81) d226_81 rfl (ml226 _ (by decide)) rfl (x_goto (tgt := 32) hG (pc := 84) d226_84 rfl (am_lvw (lv2 := [(0, .inr (.inr (11, l0))), (1, .inl (w32 (l1 + 1)))]) [1, 0] rfl (ih _ _ _ h hI hX))))))))))))) (fun h => (am_c_aload_n hG (pc := 47) d226_47 rfl (am_c_iload_n hG (pc := 48) d226_48 rfl (x_virtual_v (t := 11) (o := l0) (as2 := [.inl l1]) (rest := []) hG (pc := 49) d226_49 mo226 m11_403 (by decide) dp226_224 rfl rfl (Nat.le_of_ble_eq_true rfl) (Nat.le_of_ble_eq_true rfl) rg224 sd224 (e224 _ _ _) h (fun z4 h => (am_c_iconst hG (pc := 52) d226_52 (by decide) (x_istore_n (lv' := [(2, .inl 0), (0, .inr (.inr (11, l0))), (1, .inl l1)]) hG (pc := 53) d226_53 (ml226 _ (by decide)) rfl (x_lp h (fun r h1 h2 => (am_lvw (lv2 := [(0, .inr (.inr (11, l0))), (1, .inl l1), (2, .inl 0)]) [1, 2, 0] rfl (w226_54 hG hr _ _ _ _ _ _ h1 (fun q3 e => am_q1 e h2 (fun h => hI _ (Option.some.inj h).symm)) (fun t3 e => am_q2 e h2 (fun h => (x_iinc (lv' := [(1, .inl (w32 (l1 + 1))), (0, .inr (.inr (11, l0)))]) hG (pc := 81) d226_81 rfl (ml226 _ (by decide)) rfl (x_goto (tgt := 32) hG (pc := 84) d226_84 rfl (am_lvw (lv2 := [(0, .inr (.inr (11, l0))), (1, .inl (w32 (l1 + 1)))]) [1, 0] rfl (ih _ _ _ h hI hX)))))))))))))))))))))))))
def fn226 (o : Nat) (μ : am_M) : Option (Int × am_M) := (am_op (L226_2 o am_fuel 0 μ) (fun s => am_lp s (fun q1 => some q1) (fun t1 => (am_op (fn219 o t1.2) (fun z1 => (am_op (fn221 o z1.2) (fun z2 => (am_op (L226_32 o am_fuel 0 z2.2) (fun s => am_lp s (fun q4 => some q4) (fun t4 => some (0, t4.2)))))))))))
def sp226 : am_F := fun vs μ => am_aR 11 vs fun o vs => am_a0 vs (fn226 o μ)
theorem e226 (o : Nat) (μ : am_M) : sp226 [.inr (.inr (11, o))] μ = fn226 o μ := am_aR_c.trans am_a0_c
theorem sd226 : am_Sd 226 sp226 := by
  refine am_Sd_of (by decide) (fun vs μ μ' x h hv hM => ?_)
  obtain ⟨o, vs0, rfl, h0⟩ := am_aR_s h
  obtain ⟨rfl, hz⟩ := am_a0_s h0
  refine ⟨Nat.le_of_ble_eq_true rfl, fun X C hG hr => ?_⟩
  have h := hz
  unfold fn226 at h
  exact (show am_W X C 226 _ 0 0 0 [(0, .inr (.inr (11, o)))] [] μ from (am_c_iconst hG (pc := 0) d226_0 (by decide) (x_istore_n (lv' := [(1, .inl 0), (0, .inr (.inr (11, o)))]) hG (pc := 1) d226_1 (ml226 _ (by decide)) rfl (x_lp h (fun r h1 h2 => (am_lvw (lv2 := [(0, .inr (.inr (11, o))), (1, .inl 0)]) [1, 0] rfl (w226_2 hG hr _ _ _ _ _ h1 (fun q1 e => am_q1 e h2 (fun h => am_q0 h)) (fun t1 e => am_q2 e h2 (fun h => (am_c_aload_n hG (pc := 22) d226_22 rfl (x_virtual_v (t := 11) (o := o) (as2 := []) (rest := []) hG (pc := 23) d226_23 mo226 m11_397 (by decide) dp226_219 rfl rfl (Nat.le_of_ble_eq_true rfl) (Nat.le_of_ble_eq_true rfl) rg219 sd219 (e219 _ _) h (fun z1 h => (am_c_aload_n hG (pc := 26) d226_26 rfl (x_virtual_v (t := 11) (o := o) (as2 := []) (rest := []) hG (pc := 27) d226_27 mo226 m11_400 (by decide) dp226_221 rfl rfl (Nat.le_of_ble_eq_true rfl) (Nat.le_of_ble_eq_true rfl) rg221 sd221 (e221 _ _) h (fun z2 h => (am_c_iconst hG (pc := 30) d226_30 (by decide) (x_istore_n (lv' := [(1, .inl 0), (0, .inr (.inr (11, o)))]) hG (pc := 31) d226_31 (ml226 _ (by decide)) rfl (x_lp h (fun r h1 h2 => (am_lvw (lv2 := [(0, .inr (.inr (11, o))), (1, .inl 0)]) [1, 0] rfl (w226_32 hG hr _ _ _ _ _ h1 (fun q4 e => am_q1 e h2 (fun h => am_q0 h)) (fun t4 e => am_q2 e h2 (fun h => (xq_vret hG (by decide) hr (pc := 87) d226_87 rk226 (am_q0 h)))))))))))))))))))))))))
/-! ChartPressModel.draw()I -/
theorem D227 (k : Nat) {pc : Nat} {i : Instr} (h : tbi227[k]? = some (pc, i)) (hs : am_isw i = false) {n : Nat} (hn : am_il i = n) : decode (am_mc 227) pc = .ok (i, n) := am_d2 (by decide) (by decide) rfl h hs hn
theorem d227_0 : decode (am_mc 227) 0 = .ok (.aload_n 0, 1) := D227 0 rfl rfl rfl
theorem d227_1 : decode (am_mc 227) 1 = .ok (.invokevirtual 409, 3) := D227 1 rfl rfl rfl
theorem d227_4 : decode (am_mc 227) 4 = .ok (.ifCond .ne 9, 3) := D227 2 rfl rfl rfl
theorem d227_7 : decode (am_mc 227) 7 = .ok (.aload_n 0, 1) := D227 3 rfl rfl rfl
theorem d227_8 : decode (am_mc 227) 8 = .ok (.iconst 1, 1) := D227 4 rfl rfl rfl
theorem d227_9 : decode (am_mc 227) 9 = .ok (.invokevirtual 412, 3) := D227 5 rfl rfl rfl
theorem d227_12 : decode (am_mc 227) 12 = .ok (.ireturn, 1) := D227 6 rfl rfl rfl
theorem d227_13 : decode (am_mc 227) 13 = .ok (.aload_n 0, 1) := D227 7 rfl rfl rfl
theorem d227_14 : decode (am_mc 227) 14 = .ok (.getfield 127, 3) := D227 8 rfl rfl rfl
theorem d227_17 : decode (am_mc 227) 17 = .ok (.ifCond .eq 9, 3) := D227 9 rfl rfl rfl
theorem d227_20 : decode (am_mc 227) 20 = .ok (.aload_n 0, 1) := D227 10 rfl rfl rfl
theorem d227_21 : decode (am_mc 227) 21 = .ok (.iconst 2, 1) := D227 11 rfl rfl rfl
theorem d227_22 : decode (am_mc 227) 22 = .ok (.invokevirtual 412, 3) := D227 12 rfl rfl rfl
theorem d227_25 : decode (am_mc 227) 25 = .ok (.ireturn, 1) := D227 13 rfl rfl rfl
theorem d227_26 : decode (am_mc 227) 26 = .ok (.aload_n 0, 1) := D227 14 rfl rfl rfl
theorem d227_27 : decode (am_mc 227) 27 = .ok (.invokevirtual 415, 3) := D227 15 rfl rfl rfl
theorem d227_30 : decode (am_mc 227) 30 = .ok (.ifCond .ne 9, 3) := D227 16 rfl rfl rfl
theorem d227_33 : decode (am_mc 227) 33 = .ok (.aload_n 0, 1) := D227 17 rfl rfl rfl
theorem d227_34 : decode (am_mc 227) 34 = .ok (.iconst 3, 1) := D227 18 rfl rfl rfl
theorem d227_35 : decode (am_mc 227) 35 = .ok (.invokevirtual 412, 3) := D227 19 rfl rfl rfl
theorem d227_38 : decode (am_mc 227) 38 = .ok (.ireturn, 1) := D227 20 rfl rfl rfl
theorem d227_39 : decode (am_mc 227) 39 = .ok (.aload_n 0, 1) := D227 21 rfl rfl rfl
theorem d227_40 : decode (am_mc 227) 40 = .ok (.invokevirtual 418, 3) := D227 22 rfl rfl rfl
theorem d227_43 : decode (am_mc 227) 43 = .ok (.aload_n 0, 1) := D227 23 rfl rfl rfl
theorem d227_44 : decode (am_mc 227) 44 = .ok (.aload_n 0, 1) := D227 24 rfl rfl rfl
theorem d227_45 : decode (am_mc 227) 45 = .ok (.invokevirtual 421, 3) := D227 25 rfl rfl rfl
theorem d227_48 : decode (am_mc 227) 48 = .ok (.putfield 310, 3) := D227 26 rfl rfl rfl
theorem d227_51 : decode (am_mc 227) 51 = .ok (.aload_n 0, 1) := D227 27 rfl rfl rfl
theorem d227_52 : decode (am_mc 227) 52 = .ok (.getfield 310, 3) := D227 28 rfl rfl rfl
theorem d227_55 : decode (am_mc 227) 55 = .ok (.iconst 1, 1) := D227 29 rfl rfl rfl
theorem d227_56 : decode (am_mc 227) 56 = .ok (.if_icmp .lt 12, 3) := D227 30 rfl rfl rfl
theorem d227_59 : decode (am_mc 227) 59 = .ok (.aload_n 0, 1) := D227 31 rfl rfl rfl
theorem d227_60 : decode (am_mc 227) 60 = .ok (.getfield 310, 3) := D227 32 rfl rfl rfl
theorem d227_63 : decode (am_mc 227) 63 = .ok (.bipush 8, 2) := D227 33 rfl rfl rfl
theorem d227_65 : decode (am_mc 227) 65 = .ok (.if_icmp .le 9, 3) := D227 34 rfl rfl rfl
theorem d227_68 : decode (am_mc 227) 68 = .ok (.aload_n 0, 1) := D227 35 rfl rfl rfl
theorem d227_69 : decode (am_mc 227) 69 = .ok (.iconst 4, 1) := D227 36 rfl rfl rfl
theorem d227_70 : decode (am_mc 227) 70 = .ok (.invokevirtual 412, 3) := D227 37 rfl rfl rfl
theorem d227_73 : decode (am_mc 227) 73 = .ok (.ireturn, 1) := D227 38 rfl rfl rfl
theorem d227_74 : decode (am_mc 227) 74 = .ok (.aload_n 0, 1) := D227 39 rfl rfl rfl
theorem d227_75 : decode (am_mc 227) 75 = .ok (.invokevirtual 424, 3) := D227 40 rfl rfl rfl
theorem d227_78 : decode (am_mc 227) 78 = .ok (.aload_n 0, 1) := D227 41 rfl rfl rfl
theorem d227_79 : decode (am_mc 227) 79 = .ok (.invokevirtual 427, 3) := D227 42 rfl rfl rfl
theorem d227_82 : decode (am_mc 227) 82 = .ok (.aload_n 0, 1) := D227 43 rfl rfl rfl
theorem d227_83 : decode (am_mc 227) 83 = .ok (.invokevirtual 430, 3) := D227 44 rfl rfl rfl
theorem d227_86 : decode (am_mc 227) 86 = .ok (.ifCond .ne 9, 3) := D227 45 rfl rfl rfl
theorem d227_89 : decode (am_mc 227) 89 = .ok (.aload_n 0, 1) := D227 46 rfl rfl rfl
theorem d227_90 : decode (am_mc 227) 90 = .ok (.iconst 5, 1) := D227 47 rfl rfl rfl
theorem d227_91 : decode (am_mc 227) 91 = .ok (.invokevirtual 412, 3) := D227 48 rfl rfl rfl
theorem d227_94 : decode (am_mc 227) 94 = .ok (.ireturn, 1) := D227 49 rfl rfl rfl
theorem d227_95 : decode (am_mc 227) 95 = .ok (.aload_n 0, 1) := D227 50 rfl rfl rfl
theorem d227_96 : decode (am_mc 227) 96 = .ok (.iconst 0, 1) := D227 51 rfl rfl rfl
theorem d227_97 : decode (am_mc 227) 97 = .ok (.putfield 83, 3) := D227 52 rfl rfl rfl
theorem d227_100 : decode (am_mc 227) 100 = .ok (.aload_n 0, 1) := D227 53 rfl rfl rfl
theorem d227_101 : decode (am_mc 227) 101 = .ok (.invokevirtual 433, 3) := D227 54 rfl rfl rfl
theorem d227_104 : decode (am_mc 227) 104 = .ok (.aload_n 0, 1) := D227 55 rfl rfl rfl
theorem d227_105 : decode (am_mc 227) 105 = .ok (.iconst 1, 1) := D227 56 rfl rfl rfl
theorem d227_106 : decode (am_mc 227) 106 = .ok (.putfield 100, 3) := D227 57 rfl rfl rfl
theorem d227_109 : decode (am_mc 227) 109 = .ok (.aload_n 0, 1) := D227 58 rfl rfl rfl
theorem d227_110 : decode (am_mc 227) 110 = .ok (.aload_n 0, 1) := D227 59 rfl rfl rfl
theorem d227_111 : decode (am_mc 227) 111 = .ok (.getfield 310, 3) := D227 60 rfl rfl rfl
theorem d227_114 : decode (am_mc 227) 114 = .ok (.putfield 436, 3) := D227 61 rfl rfl rfl
theorem d227_117 : decode (am_mc 227) 117 = .ok (.iconst 0, 1) := D227 62 rfl rfl rfl
theorem d227_118 : decode (am_mc 227) 118 = .ok (.istore_n 1, 1) := D227 63 rfl rfl rfl
theorem d227_119 : decode (am_mc 227) 119 = .ok (.iload_n 1, 1) := D227 64 rfl rfl rfl
theorem d227_120 : decode (am_mc 227) 120 = .ok (.aload_n 0, 1) := D227 65 rfl rfl rfl
theorem d227_121 : decode (am_mc 227) 121 = .ok (.getfield 310, 3) := D227 66 rfl rfl rfl
theorem d227_124 : decode (am_mc 227) 124 = .ok (.if_icmp .ge 30, 3) := D227 67 rfl rfl rfl
theorem d227_127 : decode (am_mc 227) 127 = .ok (.aload_n 0, 1) := D227 68 rfl rfl rfl
theorem d227_128 : decode (am_mc 227) 128 = .ok (.getfield 80, 3) := D227 69 rfl rfl rfl
theorem d227_131 : decode (am_mc 227) 131 = .ok (.iload_n 1, 1) := D227 70 rfl rfl rfl
theorem d227_132 : decode (am_mc 227) 132 = .ok (.aload_n 0, 1) := D227 71 rfl rfl rfl
theorem d227_133 : decode (am_mc 227) 133 = .ok (.getfield 60, 3) := D227 72 rfl rfl rfl
theorem d227_136 : decode (am_mc 227) 136 = .ok (.aload_n 0, 1) := D227 73 rfl rfl rfl
theorem d227_137 : decode (am_mc 227) 137 = .ok (.getfield 64, 3) := D227 74 rfl rfl rfl
theorem d227_140 : decode (am_mc 227) 140 = .ok (.iload_n 1, 1) := D227 75 rfl rfl rfl
theorem d227_141 : decode (am_mc 227) 141 = .ok (.iaload, 1) := D227 76 rfl rfl rfl
theorem d227_142 : decode (am_mc 227) 142 = .ok (.laload, 1) := D227 77 rfl rfl rfl
theorem d227_143 : decode (am_mc 227) 143 = .ok (.ldc2_w 280, 3) := D227 78 rfl rfl rfl
theorem d227_146 : decode (am_mc 227) 146 = .ok (.ldiv, 1) := D227 79 rfl rfl rfl
theorem d227_147 : decode (am_mc 227) 147 = .ok (.lastore, 1) := D227 80 rfl rfl rfl
theorem d227_148 : decode (am_mc 227) 148 = .ok (.iinc 1 1, 3) := D227 81 rfl rfl rfl
theorem d227_151 : decode (am_mc 227) 151 = .ok (.goto (-32), 3) := D227 82 rfl rfl rfl
theorem d227_154 : decode (am_mc 227) 154 = .ok (.aload_n 0, 1) := D227 83 rfl rfl rfl
theorem d227_155 : decode (am_mc 227) 155 = .ok (.getfield 77, 3) := D227 84 rfl rfl rfl
theorem d227_158 : decode (am_mc 227) 158 = .ok (.iconst 0, 1) := D227 85 rfl rfl rfl
theorem d227_159 : decode (am_mc 227) 159 = .ok (.aload_n 0, 1) := D227 86 rfl rfl rfl
theorem d227_160 : decode (am_mc 227) 160 = .ok (.getfield 310, 3) := D227 87 rfl rfl rfl
theorem d227_163 : decode (am_mc 227) 163 = .ok (.i2l, 1) := D227 88 rfl rfl rfl
theorem d227_164 : decode (am_mc 227) 164 = .ok (.lastore, 1) := D227 89 rfl rfl rfl
theorem d227_165 : decode (am_mc 227) 165 = .ok (.aload_n 0, 1) := D227 90 rfl rfl rfl
theorem d227_166 : decode (am_mc 227) 166 = .ok (.getfield 77, 3) := D227 91 rfl rfl rfl
theorem d227_169 : decode (am_mc 227) 169 = .ok (.iconst 1, 1) := D227 92 rfl rfl rfl
theorem d227_170 : decode (am_mc 227) 170 = .ok (.aload_n 0, 1) := D227 93 rfl rfl rfl
theorem d227_171 : decode (am_mc 227) 171 = .ok (.getfield 348, 3) := D227 94 rfl rfl rfl
theorem d227_174 : decode (am_mc 227) 174 = .ok (.i2l, 1) := D227 95 rfl rfl rfl
theorem d227_175 : decode (am_mc 227) 175 = .ok (.lastore, 1) := D227 96 rfl rfl rfl
theorem d227_176 : decode (am_mc 227) 176 = .ok (.aload_n 0, 1) := D227 97 rfl rfl rfl
theorem d227_177 : decode (am_mc 227) 177 = .ok (.getfield 77, 3) := D227 98 rfl rfl rfl
theorem d227_180 : decode (am_mc 227) 180 = .ok (.iconst 2, 1) := D227 99 rfl rfl rfl
theorem d227_181 : decode (am_mc 227) 181 = .ok (.aload_n 0, 1) := D227 100 rfl rfl rfl
theorem d227_182 : decode (am_mc 227) 182 = .ok (.getfield 337, 3) := D227 101 rfl rfl rfl
theorem d227_185 : decode (am_mc 227) 185 = .ok (.lastore, 1) := D227 102 rfl rfl rfl
theorem d227_186 : decode (am_mc 227) 186 = .ok (.aload_n 0, 1) := D227 103 rfl rfl rfl
theorem d227_187 : decode (am_mc 227) 187 = .ok (.getfield 77, 3) := D227 104 rfl rfl rfl
theorem d227_190 : decode (am_mc 227) 190 = .ok (.iconst 3, 1) := D227 105 rfl rfl rfl
theorem d227_191 : decode (am_mc 227) 191 = .ok (.aload_n 0, 1) := D227 106 rfl rfl rfl
theorem d227_192 : decode (am_mc 227) 192 = .ok (.getfield 340, 3) := D227 107 rfl rfl rfl
theorem d227_195 : decode (am_mc 227) 195 = .ok (.lastore, 1) := D227 108 rfl rfl rfl
theorem d227_196 : decode (am_mc 227) 196 = .ok (.aload_n 0, 1) := D227 109 rfl rfl rfl
theorem d227_197 : decode (am_mc 227) 197 = .ok (.getfield 77, 3) := D227 110 rfl rfl rfl
theorem d227_200 : decode (am_mc 227) 200 = .ok (.iconst 4, 1) := D227 111 rfl rfl rfl
theorem d227_201 : decode (am_mc 227) 201 = .ok (.aload_n 0, 1) := D227 112 rfl rfl rfl
theorem d227_202 : decode (am_mc 227) 202 = .ok (.getfield 330, 3) := D227 113 rfl rfl rfl
theorem d227_205 : decode (am_mc 227) 205 = .ok (.lastore, 1) := D227 114 rfl rfl rfl
theorem d227_206 : decode (am_mc 227) 206 = .ok (.aload_n 0, 1) := D227 115 rfl rfl rfl
theorem d227_207 : decode (am_mc 227) 207 = .ok (.getfield 77, 3) := D227 116 rfl rfl rfl
theorem d227_210 : decode (am_mc 227) 210 = .ok (.iconst 5, 1) := D227 117 rfl rfl rfl
theorem d227_211 : decode (am_mc 227) 211 = .ok (.aload_n 0, 1) := D227 118 rfl rfl rfl
theorem d227_212 : decode (am_mc 227) 212 = .ok (.getfield 343, 3) := D227 119 rfl rfl rfl
theorem d227_215 : decode (am_mc 227) 215 = .ok (.i2l, 1) := D227 120 rfl rfl rfl
theorem d227_216 : decode (am_mc 227) 216 = .ok (.lastore, 1) := D227 121 rfl rfl rfl
theorem d227_217 : decode (am_mc 227) 217 = .ok (.aload_n 0, 1) := D227 122 rfl rfl rfl
theorem d227_218 : decode (am_mc 227) 218 = .ok (.getfield 77, 3) := D227 123 rfl rfl rfl
theorem d227_221 : decode (am_mc 227) 221 = .ok (.bipush 6, 2) := D227 124 rfl rfl rfl
theorem d227_223 : decode (am_mc 227) 223 = .ok (.aload_n 0, 1) := D227 125 rfl rfl rfl
theorem d227_224 : decode (am_mc 227) 224 = .ok (.getfield 372, 3) := D227 126 rfl rfl rfl
theorem d227_227 : decode (am_mc 227) 227 = .ok (.i2l, 1) := D227 127 rfl rfl rfl
theorem d227_228 : decode (am_mc 227) 228 = .ok (.lastore, 1) := D227 128 rfl rfl rfl
theorem d227_229 : decode (am_mc 227) 229 = .ok (.aload_n 0, 1) := D227 129 rfl rfl rfl
theorem d227_230 : decode (am_mc 227) 230 = .ok (.getfield 310, 3) := D227 130 rfl rfl rfl
theorem d227_233 : decode (am_mc 227) 233 = .ok (.ireturn, 1) := D227 131 rfl rfl rfl
theorem ml227 : ∀ n, n < 2 → n < am_ml 227 := fun _ h => h
theorem mo227 : am_mo 227 = 11 := by decide +kernel
theorem mr227 : am_mr 227 = some .int := by decide +kernel
theorem rg227 : am_rcg 227 = 12 := by decide +kernel
theorem f11_77 : tb_f 11 77 = some (11, 51, 5, 17) := by decide +kernel
theorem f11_80 : tb_f 11 80 = some (11, 53, 5, 17) := by decide +kernel
theorem f11_436 : tb_f 11 436 = some (11, 52, 0, 0) := by decide +kernel
theorem m11_409 : tb_m 11 409 = some (181, 1, 1, 0) := by decide +kernel
theorem m11_412 : tb_m 11 412 = some (182, 2, 1, 0) := by decide +kernel
theorem m11_415 : tb_m 11 415 = some (191, 1, 1, 0) := by decide +kernel
theorem m11_418 : tb_m 11 418 = some (198, 1, 0, 0) := by decide +kernel
theorem m11_421 : tb_m 11 421 = some (201, 1, 1, 0) := by decide +kernel
theorem m11_424 : tb_m 11 424 = some (205, 1, 0, 0) := by decide +kernel
theorem m11_427 : tb_m 11 427 = some (207, 1, 0, 0) := by decide +kernel
theorem m11_430 : tb_m 11 430 = some (216, 1, 1, 0) := by decide +kernel
theorem m11_433 : tb_m 11 433 = some (226, 1, 0, 0) := by decide +kernel
theorem dp227_181 : am_md 181 + 1 ≤ am_md 227 ∧ 8 + (am_ml 181 + 11) + am_lr 181 ≤ am_lr 227 := by decide +kernel
theorem dp227_182 : am_md 182 + 1 ≤ am_md 227 ∧ 8 + (am_ml 182 + 11) + am_lr 182 ≤ am_lr 227 := by decide +kernel
theorem dp227_191 : am_md 191 + 1 ≤ am_md 227 ∧ 8 + (am_ml 191 + 11) + am_lr 191 ≤ am_lr 227 := by decide +kernel
theorem dp227_198 : am_md 198 + 1 ≤ am_md 227 ∧ 8 + (am_ml 198 + 11) + am_lr 198 ≤ am_lr 227 := by decide +kernel
theorem dp227_201 : am_md 201 + 1 ≤ am_md 227 ∧ 8 + (am_ml 201 + 11) + am_lr 201 ≤ am_lr 227 := by decide +kernel
theorem dp227_205 : am_md 205 + 1 ≤ am_md 227 ∧ 8 + (am_ml 205 + 11) + am_lr 205 ≤ am_lr 227 := by decide +kernel
theorem dp227_207 : am_md 207 + 1 ≤ am_md 227 ∧ 8 + (am_ml 207 + 11) + am_lr 207 ≤ am_lr 227 := by decide +kernel
theorem dp227_216 : am_md 216 + 1 ≤ am_md 227 ∧ 8 + (am_ml 216 + 11) + am_lr 216 ≤ am_lr 227 := by decide +kernel
theorem dp227_226 : am_md 226 + 1 ≤ am_md 227 ∧ 8 + (am_ml 226 + 11) + am_lr 226 ≤ am_lr 227 := by decide +kernel
def L227_119 (l0 : Nat) : Nat → Int → am_M → Option ((Int × am_M) ⊕ (Int × am_M))
  | 0, _, _ => none
  | n + 1, l1, μ => (if l1 < μ l0 47 then (if (0 : Int) ≤ l1 ∧ l1 < ((am_len (am_ref l0 36) : Nat) : Int) then (if (0 : Int) ≤ μ (am_ref l0 36) (l1 : Int).toNat ∧ μ (am_ref l0 36) (l1 : Int).toNat < ((am_len (am_ref l0 35) : Nat) : Int) then (if (0 : Int) ≤ l1 ∧ l1 < ((am_len (am_ref l0 53) : Nat) : Int) then (L227_119 l0 n (w32 (l1 + 1)) (am_up μ (am_ref l0 53) (l1 : Int).toNat (o_divl (μ (am_ref l0 35) (μ (am_ref l0 36) (l1 : Int).toNat : Int).toNat) 27720))) else none) else none) else none) else (some (.inr (l1, μ))))
theorem w227_119 {X : am_K} {C : am_C} {Q : State → Prop} (hG : am_G X C 227 0 0 (0, fun _ => 0)) (hr : match X with | (_, _, _, _, _, _, _, _, meth, _) => meth.sig.returnType = am_mr 227 ∧ meth.locks = false) (l0 : Nat) : ∀ (n : Nat) (l1 : Int) (μ : am_M) (r : (Int × am_M) ⊕ (Int × am_M)), L227_119 l0 n l1 μ = some r → (∀ q, r = .inl q → Q = am_E X C 227 q.1 q.2) → (∀ t, r = .inr t → am_W X C 227 Q 0 0 154 [(0, .inr (.inr (11, l0)))] [] t.2) → am_W X C 227 Q 0 0 119 [(0, .inr (.inr (11, l0))), (1, .inl l1)] [] μ := by
  intro n
  induction n with
  | zero => intro l1 μ r h; cases h
  | succ n ih =>
    intro l1 μ r h hI hX
    unfold L227_119 at h
    exact (am_c_iload_n hG (pc := 119) d227_119 rfl (am_c_aload_n hG (pc := 120) d227_120 rfl (x_get_n (v := .inl (μ l0 47)) hG (pc := 121) d227_121 mo227 f11_310 rfl (x_icmp_ge (tgt := 154) hG (pc := 124) d227_124 rfl h (fun h => (am_lvw (lv2 := [(0, .inr (.inr (11, l0)))]) [0] rfl (hX (l1, μ) (Option.some.inj h).symm))) (fun h => (am_c_aload_n hG (pc := 127) d227_127 rfl (x_get_n (v := .inr (.inr (17, am_ref l0 53))) hG (pc := 128) d227_128 mo227 f11_80 rfl (am_c_iload_n hG (pc := 131) d227_131 rfl (am_c_aload_n hG (pc := 132) d227_132 rfl (x_get_n (v := .inr (.inr (17, am_ref l0 35))) hG (pc := 133) d227_133 mo227 f11_60 rfl (am_c_aload_n hG (pc := 136) d227_136 rfl (x_get_n (v := .inr (.inr (16, am_ref l0 36))) hG (pc := 137) d227_137 mo227 f11_64 rfl (am_c_iload_n hG (pc := 140) d227_140 rfl (x_iaload hG (pc := 141) d227_141 h (fun h => (x_laload hG (pc := 142) d227_142 h (fun h => (am_c_ldc2 hG (pc := 143) d227_143 (v := 27720) (by decide +kernel) (am_c_ldiv hG (pc := 146) d227_146 (by decide) (x_lastore hG (pc := 147) d227_147 h (fun h => (x_iinc (lv' := [(1, .inl (w32 (l1 + 1))), (0, .inr (.inr (11, l0)))]) hG (pc := 148) d227_148 rfl (ml227 _ (by decide)) rfl (x_goto (tgt := 119) hG (pc := 151) d227_151 rfl (am_lvw (lv2 := [(0, .inr (.inr (11, l0))), (1, .inl (w32 (l1 + 1)))]) [1, 0] rfl (ih _ _ _ h hI hX)))))))))))))))))))))))))
def fn227 (o : Nat) (μ : am_M) : Option (Int × am_M) := (am_op (fn181 o μ) (fun z1 => (if z1.1 = 0 then (am_op (fn182 o 1 z1.2) (fun z14 => some (z14.1, z14.2))) else (if z1.2 o 14 = 0 then (am_op (fn191 o z1.2) (fun z2 => (if z2.1 = 0 then (am_op (fn182 o 3 z2.2) (fun z12 => some (z12.1, z12.2))) else (am_op (fn198 o z2.2) (fun z3 => (am_op (fn201 o z3.2) (fun z4 => (if (am_up z4.2 o 47 z4.1) o 47 < 1 then (am_op (fn182 o 4 (am_up z4.2 o 47 z4.1)) (fun z5 => some (z5.1, z5.2))) else (if 8 < (am_up z4.2 o 47 z4.1) o 47 then (am_op (fn182 o 4 (am_up z4.2 o 47 z4.1)) (fun z11 => some (z11.1, z11.2))) else (am_op (fn205 o (am_up z4.2 o 47 z4.1)) (fun z6 => (am_op (fn207 o z6.2) (fun z7 => (am_op (fn216 o z7.2) (fun z8 => (if z8.1 = 0 then (am_op (fn182 o 5 z8.2) (fun z10 => some (z10.1, z10.2))) else (am_op (fn226 o (am_up z8.2 o 0 0)) (fun z9 => (am_op (L227_119 o am_fuel 0 (am_up (am_up z9.2 o 49 1) o 52 ((am_up z9.2 o 49 1) o 47))) (fun s => am_lp s (fun q1 => some q1) (fun t1 => (if (0 : Int) ≤ 0 ∧ 0 < ((am_len (am_ref o 51) : Nat) : Int) then (if (0 : Int) ≤ 1 ∧ 1 < ((am_len (am_ref o 51) : Nat) : Int) then (if (0 : Int) ≤ 2 ∧ 2 < ((am_len (am_ref o 51) : Nat) : Int) then (if (0 : Int) ≤ 3 ∧ 3 < ((am_len (am_ref o 51) : Nat) : Int) then (if (0 : Int) ≤ 4 ∧ 4 < ((am_len (am_ref o 51) : Nat) : Int) then (if (0 : Int) ≤ 5 ∧ 5 < ((am_len (am_ref o 51) : Nat) : Int) then (if (0 : Int) ≤ 6 ∧ 6 < ((am_len (am_ref o 51) : Nat) : Int) then some ((am_up (am_up (am_up (am_up (am_up (am_up (am_up t1.2 (am_ref o 51) (0 : Int).toNat (t1.2 o 47)) (am_ref o 51) (1 : Int).toNat ((am_up t1.2 (am_ref o 51) (0 : Int).toNat (t1.2 o 47)) o 45)) (am_ref o 51) (2 : Int).toNat ((am_up (am_up t1.2 (am_ref o 51) (0 : Int).toNat (t1.2 o 47)) (am_ref o 51) (1 : Int).toNat ((am_up t1.2 (am_ref o 51) (0 : Int).toNat (t1.2 o 47)) o 45)) o 42)) (am_ref o 51) (3 : Int).toNat ((am_up (am_up (am_up t1.2 (am_ref o 51) (0 : Int).toNat (t1.2 o 47)) (am_ref o 51) (1 : Int).toNat ((am_up t1.2 (am_ref o 51) (0 : Int).toNat (t1.2 o 47)) o 45)) (am_ref o 51) (2 : Int).toNat ((am_up (am_up t1.2 (am_ref o 51) (0 : Int).toNat (t1.2 o 47)) (am_ref o 51) (1 : Int).toNat ((am_up t1.2 (am_ref o 51) (0 : Int).toNat (t1.2 o 47)) o 45)) o 42)) o 43)) (am_ref o 51) (4 : Int).toNat ((am_up (am_up (am_up (am_up t1.2 (am_ref o 51) (0 : Int).toNat (t1.2 o 47)) (am_ref o 51) (1 : Int).toNat ((am_up t1.2 (am_ref o 51) (0 : Int).toNat (t1.2 o 47)) o 45)) (am_ref o 51) (2 : Int).toNat ((am_up (am_up t1.2 (am_ref o 51) (0 : Int).toNat (t1.2 o 47)) (am_ref o 51) (1 : Int).toNat ((am_up t1.2 (am_ref o 51) (0 : Int).toNat (t1.2 o 47)) o 45)) o 42)) (am_ref o 51) (3 : Int).toNat ((am_up (am_up (am_up t1.2 (am_ref o 51) (0 : Int).toNat (t1.2 o 47)) (am_ref o 51) (1 : Int).toNat ((am_up t1.2 (am_ref o 51) (0 : Int).toNat (t1.2 o 47)) o 45)) (am_ref o 51) (2 : Int).toNat ((am_up (am_up t1.2 (am_ref o 51) (0 : Int).toNat (t1.2 o 47)) (am_ref o 51) (1 : Int).toNat ((am_up t1.2 (am_ref o 51) (0 : Int).toNat (t1.2 o 47)) o 45)) o 42)) o 43)) o 41)) (am_ref o 51) (5 : Int).toNat ((am_up (am_up (am_up (am_up (am_up t1.2 (am_ref o 51) (0 : Int).toNat (t1.2 o 47)) (am_ref o 51) (1 : Int).toNat ((am_up t1.2 (am_ref o 51) (0 : Int).toNat (t1.2 o 47)) o 45)) (am_ref o 51) (2 : Int).toNat ((am_up (am_up t1.2 (am_ref o 51) (0 : Int).toNat (t1.2 o 47)) (am_ref o 51) (1 : Int).toNat ((am_up t1.2 (am_ref o 51) (0 : Int).toNat (t1.2 o 47)) o 45)) o 42)) (am_ref o 51) (3 : Int).toNat ((am_up (am_up (am_up t1.2 (am_ref o 51) (0 : Int).toNat (t1.2 o 47)) (am_ref o 51) (1 : Int).toNat ((am_up t1.2 (am_ref o 51) (0 : Int).toNat (t1.2 o 47)) o 45)) (am_ref o 51) (2 : Int).toNat ((am_up (am_up t1.2 (am_ref o 51) (0 : Int).toNat (t1.2 o 47)) (am_ref o 51) (1 : Int).toNat ((am_up t1.2 (am_ref o 51) (0 : Int).toNat (t1.2 o 47)) o 45)) o 42)) o 43)) (am_ref o 51) (4 : Int).toNat ((am_up (am_up (am_up (am_up t1.2 (am_ref o 51) (0 : Int).toNat (t1.2 o 47)) (am_ref o 51) (1 : Int).toNat ((am_up t1.2 (am_ref o 51) (0 : Int).toNat (t1.2 o 47)) o 45)) (am_ref o 51) (2 : Int).toNat ((am_up (am_up t1.2 (am_ref o 51) (0 : Int).toNat (t1.2 o 47)) (am_ref o 51) (1 : Int).toNat ((am_up t1.2 (am_ref o 51) (0 : Int).toNat (t1.2 o 47)) o 45)) o 42)) (am_ref o 51) (3 : Int).toNat ((am_up (am_up (am_up t1.2 (am_ref o 51) (0 : Int).toNat (t1.2 o 47)) (am_ref o 51) (1 : Int).toNat ((am_up t1.2 (am_ref o 51) (0 : Int).toNat (t1.2 o 47)) o 45)) (am_ref o 51) (2 : Int).toNat ((am_up (am_up t1.2 (am_ref o 51) (0 : Int).toNat (t1.2 o 47)) (am_ref o 51) (1 : Int).toNat ((am_up t1.2 (am_ref o 51) (0 : Int).toNat (t1.2 o 47)) o 45)) o 42)) o 43)) o 41)) o 44)) (am_ref o 51) (6 : Int).toNat ((am_up (am_up (am_up (am_up (am_up (am_up t1.2 (am_ref o 51) (0 : Int).toNat (t1.2 o 47)) (am_ref o 51) (1 : Int).toNat ((am_up t1.2 (am_ref o 51) (0 : Int).toNat (t1.2 o 47)) o 45)) (am_ref o 51) (2 : Int).toNat ((am_up (am_up t1.2 (am_ref o 51) (0 : Int).toNat (t1.2 o 47)) (am_ref o 51) (1 : Int).toNat ((am_up t1.2 (am_ref o 51) (0 : Int).toNat (t1.2 o 47)) o 45)) o 42)) (am_ref o 51) (3 : Int).toNat ((am_up (am_up (am_up t1.2 (am_ref o 51) (0 : Int).toNat (t1.2 o 47)) (am_ref o 51) (1 : Int).toNat ((am_up t1.2 (am_ref o 51) (0 : Int).toNat (t1.2 o 47)) o 45)) (am_ref o 51) (2 : Int).toNat ((am_up (am_up t1.2 (am_ref o 51) (0 : Int).toNat (t1.2 o 47)) (am_ref o 51) (1 : Int).toNat ((am_up t1.2 (am_ref o 51) (0 : Int).toNat (t1.2 o 47)) o 45)) o 42)) o 43)) (am_ref o 51) (4 : Int).toNat ((am_up (am_up (am_up (am_up t1.2 (am_ref o 51) (0 : Int).toNat (t1.2 o 47)) (am_ref o 51) (1 : Int).toNat ((am_up t1.2 (am_ref o 51) (0 : Int).toNat (t1.2 o 47)) o 45)) (am_ref o 51) (2 : Int).toNat ((am_up (am_up t1.2 (am_ref o 51) (0 : Int).toNat (t1.2 o 47)) (am_ref o 51) (1 : Int).toNat ((am_up t1.2 (am_ref o 51) (0 : Int).toNat (t1.2 o 47)) o 45)) o 42)) (am_ref o 51) (3 : Int).toNat ((am_up (am_up (am_up t1.2 (am_ref o 51) (0 : Int).toNat (t1.2 o 47)) (am_ref o 51) (1 : Int).toNat ((am_up t1.2 (am_ref o 51) (0 : Int).toNat (t1.2 o 47)) o 45)) (am_ref o 51) (2 : Int).toNat ((am_up (am_up t1.2 (am_ref o 51) (0 : Int).toNat (t1.2 o 47)) (am_ref o 51) (1 : Int).toNat ((am_up t1.2 (am_ref o 51) (0 : Int).toNat (t1.2 o 47)) o 45)) o 42)) o 43)) o 41)) (am_ref o 51) (5 : Int).toNat ((am_up (am_up (am_up (am_up (am_up t1.2 (am_ref o 51) (0 : Int).toNat (t1.2 o 47)) (am_ref o 51) (1 : Int).toNat ((am_up t1.2 (am_ref o 51) (0 : Int).toNat (t1.2 o 47)) o 45)) (am_ref o 51) (2 : Int).toNat ((am_up (am_up t1.2 (am_ref o 51) (0 : Int).toNat (t1.2 o 47)) (am_ref o 51) (1 : Int).toNat ((am_up t1.2 (am_ref o 51) (0 : Int).toNat (t1.2 o 47)) o 45)) o 42)) (am_ref o 51) (3 : Int).toNat ((am_up (am_up (am_up t1.2 (am_ref o 51) (0 : Int).toNat (t1.2 o 47)) (am_ref o 51) (1 : Int).toNat ((am_up t1.2 (am_ref o 51) (0 : Int).toNat (t1.2 o 47)) o 45)) (am_ref o 51) (2 : Int).toNat ((am_up (am_up t1.2 (am_ref o 51) (0 : Int).toNat (t1.2 o 47)) (am_ref o 51) (1 : Int).toNat ((am_up t1.2 (am_ref o 51) (0 : Int).toNat (t1.2 o 47)) o 45)) o 42)) o 43)) (am_ref o 51) (4 : Int).toNat ((am_up (am_up (am_up (am_up t1.2 (am_ref o 51) (0 : Int).toNat (t1.2 o 47)) (am_ref o 51) (1 : Int).toNat ((am_up t1.2 (am_ref o 51) (0 : Int).toNat (t1.2 o 47)) o 45)) (am_ref o 51) (2 : Int).toNat ((am_up (am_up t1.2 (am_ref o 51) (0 : Int).toNat (t1.2 o 47)) (am_ref o 51) (1 : Int).toNat ((am_up t1.2 (am_ref o 51) (0 : Int).toNat (t1.2 o 47)) o 45)) o 42)) (am_ref o 51) (3 : Int).toNat ((am_up (am_up (am_up t1.2 (am_ref o 51) (0 : Int).toNat (t1.2 o 47)) (am_ref o 51) (1 : Int).toNat ((am_up t1.2 (am_ref o 51) (0 : Int).toNat (t1.2 o 47)) o 45)) (am_ref o 51) (2 : Int).toNat ((am_up (am_up t1.2 (am_ref o 51) (0 : Int).toNat (t1.2 o 47)) (am_ref o 51) (1 : Int).toNat ((am_up t1.2 (am_ref o 51) (0 : Int).toNat (t1.2 o 47)) o 45)) o 42)) o 43)) o 41)) o 44)) o 46)) o 47, am_up (am_up (am_up (am_up (am_up (am_up (am_up t1.2 (am_ref o 51) (0 : Int).toNat (t1.2 o 47)) (am_ref o 51) (1 : Int).toNat ((am_up t1.2 (am_ref o 51) (0 : Int).toNat (t1.2 o 47)) o 45)) (am_ref o 51) (2 : Int).toNat ((am_up (am_up t1.2 (am_ref o 51) (0 : Int).toNat (t1.2 o 47)) (am_ref o 51) (1 : Int).toNat ((am_up t1.2 (am_ref o 51) (0 : Int).toNat (t1.2 o 47)) o 45)) o 42)) (am_ref o 51) (3 : Int).toNat ((am_up (am_up (am_up t1.2 (am_ref o 51) (0 : Int).toNat (t1.2 o 47)) (am_ref o 51) (1 : Int).toNat ((am_up t1.2 (am_ref o 51) (0 : Int).toNat (t1.2 o 47)) o 45)) (am_ref o 51) (2 : Int).toNat ((am_up (am_up t1.2 (am_ref o 51) (0 : Int).toNat (t1.2 o 47)) (am_ref o 51) (1 : Int).toNat ((am_up t1.2 (am_ref o 51) (0 : Int).toNat (t1.2 o 47)) o 45)) o 42)) o 43)) (am_ref o 51) (4 : Int).toNat ((am_up (am_up (am_up (am_up t1.2 (am_ref o 51) (0 : Int).toNat (t1.2 o 47)) (am_ref o 51) (1 : Int).toNat ((am_up t1.2 (am_ref o 51) (0 : Int).toNat (t1.2 o 47)) o 45)) (am_ref o 51) (2 : Int).toNat ((am_up (am_up t1.2 (am_ref o 51) (0 : Int).toNat (t1.2 o 47)) (am_ref o 51) (1 : Int).toNat ((am_up t1.2 (am_ref o 51) (0 : Int).toNat (t1.2 o 47)) o 45)) o 42)) (am_ref o 51) (3 : Int).toNat ((am_up (am_up (am_up t1.2 (am_ref o 51) (0 : Int).toNat (t1.2 o 47)) (am_ref o 51) (1 : Int).toNat ((am_up t1.2 (am_ref o 51) (0 : Int).toNat (t1.2 o 47)) o 45)) (am_ref o 51) (2 : Int).toNat ((am_up (am_up t1.2 (am_ref o 51) (0 : Int).toNat (t1.2 o 47)) (am_ref o 51) (1 : Int).toNat ((am_up t1.2 (am_ref o 51) (0 : Int).toNat (t1.2 o 47)) o 45)) o 42)) o 43)) o 41)) (am_ref o 51) (5 : Int).toNat ((am_up (am_up (am_up (am_up (am_up t1.2 (am_ref o 51) (0 : Int).toNat (t1.2 o 47)) (am_ref o 51) (1 : Int).toNat ((am_up t1.2 (am_ref o 51) (0 : Int).toNat (t1.2 o 47)) o 45)) (am_ref o 51) (2 : Int).toNat ((am_up (am_up t1.2 (am_ref o 51) (0 : Int).toNat (t1.2 o 47)) (am_ref o 51) (1 : Int).toNat ((am_up t1.2 (am_ref o 51) (0 : Int).toNat (t1.2 o 47)) o 45)) o 42)) (am_ref o 51) (3 : Int).toNat ((am_up (am_up (am_up t1.2 (am_ref o 51) (0 : Int).toNat (t1.2 o 47)) (am_ref o 51) (1 : Int).toNat ((am_up t1.2 (am_ref o 51) (0 : Int).toNat (t1.2 o 47)) o 45)) (am_ref o 51) (2 : Int).toNat ((am_up (am_up t1.2 (am_ref o 51) (0 : Int).toNat (t1.2 o 47)) (am_ref o 51) (1 : Int).toNat ((am_up t1.2 (am_ref o 51) (0 : Int).toNat (t1.2 o 47)) o 45)) o 42)) o 43)) (am_ref o 51) (4 : Int).toNat ((am_up (am_up (am_up (am_up t1.2 (am_ref o 51) (0 : Int).toNat (t1.2 o 47)) (am_ref o 51) (1 : Int).toNat ((am_up t1.2 (am_ref o 51) (0 : Int).toNat (t1.2 o 47)) o 45)) (am_ref o 51) (2 : Int).toNat ((am_up (am_up t1.2 (am_ref o 51) (0 : Int).toNat (t1.2 o 47)) (am_ref o 51) (1 : Int).toNat ((am_up t1.2 (am_ref o 51) (0 : Int).toNat (t1.2 o 47)) o 45)) o 42)) (am_ref o 51) (3 : Int).toNat ((am_up (am_up (am_up t1.2 (am_ref o 51) (0 : Int).toNat (t1.2 o 47)) (am_ref o 51) (1 : Int).toNat ((am_up t1.2 (am_ref o 51) (0 : Int).toNat (t1.2 o 47)) o 45)) (am_ref o 51) (2 : Int).toNat ((am_up (am_up t1.2 (am_ref o 51) (0 : Int).toNat (t1.2 o 47)) (am_ref o 51) (1 : Int).toNat ((am_up t1.2 (am_ref o 51) (0 : Int).toNat (t1.2 o 47)) o 45)) o 42)) o 43)) o 41)) o 44)) (am_ref o 51) (6 : Int).toNat ((am_up (am_up (am_up (am_up (am_up (am_up t1.2 (am_ref o 51) (0 : Int).toNat (t1.2 o 47)) (am_ref o 51) (1 : Int).toNat ((am_up t1.2 (am_ref o 51) (0 : Int).toNat (t1.2 o 47)) o 45)) (am_ref o 51) (2 : Int).toNat ((am_up (am_up t1.2 (am_ref o 51) (0 : Int).toNat (t1.2 o 47)) (am_ref o 51) (1 : Int).toNat ((am_up t1.2 (am_ref o 51) (0 : Int).toNat (t1.2 o 47)) o 45)) o 42)) (am_ref o 51) (3 : Int).toNat ((am_up (am_up (am_up t1.2 (am_ref o 51) (0 : Int).toNat (t1.2 o 47)) (am_ref o 51) (1 : Int).toNat ((am_up t1.2 (am_ref o 51) (0 : Int).toNat (t1.2 o 47)) o 45)) (am_ref o 51) (2 : Int).toNat ((am_up (am_up t1.2 (am_ref o 51) (0 : Int).toNat (t1.2 o 47)) (am_ref o 51) (1 : Int).toNat ((am_up t1.2 (am_ref o 51) (0 : Int).toNat (t1.2 o 47)) o 45)) o 42)) o 43)) (am_ref o 51) (4 : Int).toNat ((am_up (am_up (am_up (am_up t1.2 (am_ref o 51) (0 : Int).toNat (t1.2 o 47)) (am_ref o 51) (1 : Int).toNat ((am_up t1.2 (am_ref o 51) (0 : Int).toNat (t1.2 o 47)) o 45)) (am_ref o 51) (2 : Int).toNat ((am_up (am_up t1.2 (am_ref o 51) (0 : Int).toNat (t1.2 o 47)) (am_ref o 51) (1 : Int).toNat ((am_up t1.2 (am_ref o 51) (0 : Int).toNat (t1.2 o 47)) o 45)) o 42)) (am_ref o 51) (3 : Int).toNat ((am_up (am_up (am_up t1.2 (am_ref o 51) (0 : Int).toNat (t1.2 o 47)) (am_ref o 51) (1 : Int).toNat ((am_up t1.2 (am_ref o 51) (0 : Int).toNat (t1.2 o 47)) o 45)) (am_ref o 51) (2 : Int).toNat ((am_up (am_up t1.2 (am_ref o 51) (0 : Int).toNat (t1.2 o 47)) (am_ref o 51) (1 : Int).toNat ((am_up t1.2 (am_ref o 51) (0 : Int).toNat (t1.2 o 47)) o 45)) o 42)) o 43)) o 41)) (am_ref o 51) (5 : Int).toNat ((am_up (am_up (am_up (am_up (am_up t1.2 (am_ref o 51) (0 : Int).toNat (t1.2 o 47)) (am_ref o 51) (1 : Int).toNat ((am_up t1.2 (am_ref o 51) (0 : Int).toNat (t1.2 o 47)) o 45)) (am_ref o 51) (2 : Int).toNat ((am_up (am_up t1.2 (am_ref o 51) (0 : Int).toNat (t1.2 o 47)) (am_ref o 51) (1 : Int).toNat ((am_up t1.2 (am_ref o 51) (0 : Int).toNat (t1.2 o 47)) o 45)) o 42)) (am_ref o 51) (3 : Int).toNat ((am_up (am_up (am_up t1.2 (am_ref o 51) (0 : Int).toNat (t1.2 o 47)) (am_ref o 51) (1 : Int).toNat ((am_up t1.2 (am_ref o 51) (0 : Int).toNat (t1.2 o 47)) o 45)) (am_ref o 51) (2 : Int).toNat ((am_up (am_up t1.2 (am_ref o 51) (0 : Int).toNat (t1.2 o 47)) (am_ref o 51) (1 : Int).toNat ((am_up t1.2 (am_ref o 51) (0 : Int).toNat (t1.2 o 47)) o 45)) o 42)) o 43)) (am_ref o 51) (4 : Int).toNat ((am_up (am_up (am_up (am_up t1.2 (am_ref o 51) (0 : Int).toNat (t1.2 o 47)) (am_ref o 51) (1 : Int).toNat ((am_up t1.2 (am_ref o 51) (0 : Int).toNat (t1.2 o 47)) o 45)) (am_ref o 51) (2 : Int).toNat ((am_up (am_up t1.2 (am_ref o 51) (0 : Int).toNat (t1.2 o 47)) (am_ref o 51) (1 : Int).toNat ((am_up t1.2 (am_ref o 51) (0 : Int).toNat (t1.2 o 47)) o 45)) o 42)) (am_ref o 51) (3 : Int).toNat ((am_up (am_up (am_up t1.2 (am_ref o 51) (0 : Int).toNat (t1.2 o 47)) (am_ref o 51) (1 : Int).toNat ((am_up t1.2 (am_ref o 51) (0 : Int).toNat (t1.2 o 47)) o 45)) (am_ref o 51) (2 : Int).toNat ((am_up (am_up t1.2 (am_ref o 51) (0 : Int).toNat (t1.2 o 47)) (am_ref o 51) (1 : Int).toNat ((am_up t1.2 (am_ref o 51) (0 : Int).toNat (t1.2 o 47)) o 45)) o 42)) o 43)) o 41)) o 44)) o 46)) else none) else none) else none) else none) else none) else none) else none)))))))))))))))))))))) else (am_op (fn182 o 2 z1.2) (fun z13 => some (z13.1, z13.2)))))))
def sp227 : am_F := fun vs μ => am_aR 11 vs fun o vs => am_a0 vs (fn227 o μ)
theorem e227 (o : Nat) (μ : am_M) : sp227 [.inr (.inr (11, o))] μ = fn227 o μ := am_aR_c.trans am_a0_c
theorem sd227 : am_Sd 227 sp227 := by
  refine am_Sd_of (by decide) (fun vs μ μ' x h hv hM => ?_)
  obtain ⟨o, vs0, rfl, h0⟩ := am_aR_s h
  obtain ⟨rfl, hz⟩ := am_a0_s h0
  refine ⟨Nat.le_of_ble_eq_true rfl, fun X C hG hr => ?_⟩
  have h := hz
  unfold fn227 at h
  exact (show am_W X C 227 _ 0 0 0 [(0, .inr (.inr (11, o)))] [] μ from (am_c_aload_n hG (pc := 0) d227_0 rfl (x_virtual_i (t := 11) (o := o) (as2 := []) (rest := []) hG (pc := 1) d227_1 mo227 m11_409 (by decide) dp227_181 rfl rfl (Nat.le_of_ble_eq_true rfl) (Nat.le_of_ble_eq_true rfl) rg181 sd181 (e181 _ _) h (fun z1 h => (x_if_ne (tgt := 13) hG (pc := 4) d227_4 rfl h (fun h => (am_c_aload_n hG (pc := 13) d227_13 rfl (x_get_n (v := .inl (z1.2 o 14)) hG (pc := 14) d227_14 mo227 f11_127 rfl (x_if_eq (tgt := 26) hG (pc := 17) d227_17 rfl h (fun h => (am_c_aload_n hG (pc := 26) d227_26 rfl (x_virtual_i (t := 11) (o := o) (as2 := []) (rest := []) hG (pc := 27) d227_27 mo227 m11_415 (by decide) dp227_191 rfl rfl (Nat.le_of_ble_eq_true rfl) (Nat.le_of_ble_eq_true rfl) rg191 sd191 (e191 _ _) h (fun z2 h => (x_if_ne (tgt := 39) hG (pc := 30) d227_30 rfl h (fun h => (am_c_aload_n hG (pc := 39) d227_39 rfl (x_virtual_v (t := 11) (o := o) (as2 := []) (rest := []) hG (pc := 40) d227_40 mo227 m11_418 (by decide) dp227_198 rfl rfl (Nat.le_of_ble_eq_true rfl) (Nat.le_of_ble_eq_true rfl) rg198 sd198 (e198 _ _) h (fun z3 h => (am_c_aload_n hG (pc := 43) d227_43 rfl (am_c_aload_n hG (pc := 44) d227_44 rfl (x_virtual_i (t := 11) (o := o) (as2 := []) (rest := [.inr (.inr (11, o))]) hG (pc := 45) d227_45 mo227 m11_421 (by decide) dp227_201 rfl rfl (Nat.le_of_ble_eq_true rfl) (Nat.le_of_ble_eq_true rfl) rg201 sd201 (e201 _ _) h (fun z4 h => (x_put_i hG (pc := 48) d227_48 mo227 f11_310 (by decide) (am_c_aload_n hG (pc := 51) d227_51 rfl (x_get_n (v := .inl ((am_up z4.2 o 47 z4.1) o 47)) hG (pc := 52) d227_52 mo227 f11_310 rfl (am_c_iconst hG (pc := 55) d227_55 (by decide) (x_icmp_lt (tgt := 68) hG (pc := 56) d227_56 rfl h (fun h => (am_c_aload_n hG (pc := 68) d227_68 rfl (am_c_iconst hG (pc := 69) d227_69 (by decide) (x_virtual_i (t := 11) (o := o) (as2 := [.inl 4]) (rest := []) hG (pc := 70) d227_70 mo227 m11_412 (by decide) dp227_182 rfl rfl (Nat.le_of_ble_eq_true rfl) (Nat.le_of_ble_eq_true rfl) rg182 sd182 (e182 _ _ _) h (fun z5 h => (xq_iret hG (by decide) hr (pc := 73) d227_73 mr227 (am_q0 h))))))) (fun h => (am_c_aload_n hG (pc := 59) d227_59 rfl (x_get_n (v := .inl ((am_up z4.2 o 47 z4.1) o 47)) hG (pc := 60) d227_60 mo227 f11_310 rfl (am_c_bipush hG (pc := 63) d227_63 (by decide) (x_icmp_le (tgt := 74) hG (pc := 65) d227_65 rfl h (fun h => (am_c_aload_n hG (pc := 74) d227_74 rfl (x_virtual_v (t := 11) (o := o) (as2 := []) (rest := []) hG (pc := 75) d227_75 mo227 m11_424 (by decide) dp227_205 rfl rfl (Nat.le_of_ble_eq_true rfl) (Nat.le_of_ble_eq_true rfl) rg205 sd205 (e205 _ _) h (fun z6 h => (am_c_aload_n hG (pc := 78) d227_78 rfl (x_virtual_v (t := 11) (o := o) (as2 := []) (rest := []) hG (pc := 79) d227_79 mo227 m11_427 (by decide) dp227_207 rfl rfl (Nat.le_of_ble_eq_true rfl) (Nat.le_of_ble_eq_true rfl) rg207 sd207 (e207 _ _) h (fun z7 h => (am_c_aload_n hG (pc := 82) d227_82 rfl (x_virtual_i (t := 11) (o := o) (as2 := []) (rest := []) hG (pc := 83) d227_83 mo227 m11_430 (by decide) dp227_216 rfl rfl (Nat.le_of_ble_eq_true rfl) (Nat.le_of_ble_eq_true rfl) rg216 sd216 (e216 _ _) h (fun z8 h => (x_if_ne (tgt := 95) hG (pc := 86) d227_86 rfl h (fun h => (am_c_aload_n hG (pc := 95) d227_95 rfl (am_c_iconst hG (pc := 96) d227_96 (by decide) (x_put_i hG (pc := 97) d227_97 mo227 f11_83 (by decide) (am_c_aload_n hG (pc := 100) d227_100 rfl (x_virtual_v (t := 11) (o := o) (as2 := []) (rest := []) hG (pc := 101) d227_101 mo227 m11_433 (by decide) dp227_226 rfl rfl (Nat.le_of_ble_eq_true rfl) (Nat.le_of_ble_eq_true rfl) rg226 sd226 (e226 _ _) h (fun z9 h => (am_c_aload_n hG (pc := 104) d227_104 rfl (am_c_iconst hG (pc := 105) d227_105 (by decide) (x_put_1 hG (pc := 106) d227_106 mo227 f11_100 (by decide) (am_c_aload_n hG (pc := 109) d227_109 rfl (am_c_aload_n hG (pc := 110) d227_110 rfl (x_get_n (v := .inl ((am_up z9.2 o 49 1) o 47)) hG (pc := 111) d227_111 mo227 f11_310 rfl (x_put_i hG (pc := 114) d227_114 mo227 f11_436 (by decide) (am_c_iconst hG (pc := 117) d227_117 (by decide) (x_istore_n (lv' := [(1, .inl 0), (0, .inr (.inr (11, o)))]) hG (pc := 118) d227_118 (ml227 _ (by decide)) rfl (x_lp h (fun r h1 h2 => (am_lvw (lv2 := [(0, .inr (.inr (11, o))), (1, .inl 0)]) [1, 0] rfl (w227_119 hG hr _ _ _ _ _ h1 (fun q1 e => am_q1 e h2 (fun h => am_q0 h)) (fun t1 e => am_q2 e h2 (fun h => (am_c_aload_n hG (pc := 154) d227_154 rfl (x_get_n (v := .inr (.inr (17, am_ref o 51))) hG (pc := 155) d227_155 mo227 f11_77 rfl (am_c_iconst hG (pc := 158) d227_158 (by decide) (am_c_aload_n hG (pc := 159) d227_159 rfl (x_get_n (v := .inl (t1.2 o 47)) hG (pc := 160) d227_160 mo227 f11_310 rfl (am_c_i2l hG (pc := 163) d227_163 (x_lastore hG (pc := 164) d227_164 h (fun h => (am_c_aload_n hG (pc := 165) d227_165 rfl (x_get_n (v := .inr (.inr (17, am_ref o 51))) hG (pc := 166) d227_166 mo227 f11_77 rfl (am_c_iconst hG (pc := 169) d227_169 (by decide) (am_c_aload_n hG (pc := 170) d227_170 rfl (x_get_n (v := .inl ((am_up t1.2 (am_ref o 51) (0 : Int).toNat (t1.2 o 47)) o 45)) hG (pc := 171) d227_171 mo227 f11_348 rfl (am_c_i2l hG (pc := 174) d227_174 (x_lastore hG (pc := 175) d227_175 h (fun h => (am_c_aload_n hG (pc := 176) d227_176 rfl (x_get_n (v := .inr (.inr (17, am_ref o 51))) hG (pc := 177) d227_177 mo227 f11_77 rfl (am_c_iconst hG (pc := 180) d227_180 (by decide) (am_c_aload_n hG (pc := 181) d227_181 rfl (x_get_n (v := .inr (.inl ((am_up (am_up t1.2 (am_ref o 51) (0 : Int).toNat (t1.2 o 47)) (am_ref o 51) (1 : Int).toNat ((am_up t1.2 (am_ref o 51) (0 : Int).toNat (t1.2 o 47)) o 45)) o 42))) hG (pc := 182) d227_182 mo227 f11_337 rfl (x_lastore hG (pc := 185) d227_185 h (fun h => (am_c_aload_n hG (pc := 186) d227_186 rfl (x_get_n (v := .inr (.inr (17, am_ref o 51))) hG (pc := 187) d227_187 mo227 f11_77 rfl (am_c_iconst hG (pc := 190) d227_190 (by decide) (am_c_aload_n hG (pc := 191) d227_191 rfl (x_get_n (v := .inr (.inl ((am_up (am_up (am_up t1.2 (am_ref o 51) (0 : Int).toNat (t1.2 o 47)) (am_ref o 51) (1 : Int).toNat ((am_up t1.2 (am_ref o 51) (0 : Int).toNat (t1.2 o 47)) o 45)) (am_ref o 51) (2 : Int).toNat ((am_up (am_up t1.2 (am_ref o 51) (0 : Int).toNat (t1.2 o 47)) (am_ref o 51) (1 : Int).toNat ((am_up t1.2 (am_ref o 51) (0 : Int).toNat (t1.2 o 47)) o 45)) o 42)) o 43))) hG (pc := 192) d227_192 mo227 f11_340 rfl (x_lastore hG (pc := 195) d227_195 h (fun h => (am_c_aload_n hG (pc := 196) d227_196 rfl (x_get_n (v := .inr (.inr (17, am_ref o 51))) hG (pc := 197) d227_197 mo227 f11_77 rfl (am_c_iconst hG (pc := 200) d227_200 (by decide) (am_c_aload_n hG (pc := 201) d227_201 rfl (x_get_n (v := .inr (.inl ((am_up (am_up (am_up (am_up t1.2 (am_ref o 51) (0 : Int).toNat (t1.2 o 47)) (am_ref o 51) (1 : Int).toNat ((am_up t1.2 (am_ref o 51) (0 : Int).toNat (t1.2 o 47)) o 45)) (am_ref o 51) (2 : Int).toNat ((am_up (am_up t1.2 (am_ref o 51) (0 : Int).toNat (t1.2 o 47)) (am_ref o 51) (1 : Int).toNat ((am_up t1.2 (am_ref o 51) (0 : Int).toNat (t1.2 o 47)) o 45)) o 42)) (am_ref o 51) (3 : Int).toNat ((am_up (am_up (am_up t1.2 (am_ref o 51) (0 : Int).toNat (t1.2 o 47)) (am_ref o 51) (1 : Int).toNat ((am_up t1.2 (am_ref o 51) (0 : Int).toNat (t1.2 o 47)) o 45)) (am_ref o 51) (2 : Int).toNat ((am_up (am_up t1.2 (am_ref o 51) (0 : Int).toNat (t1.2 o 47)) (am_ref o 51) (1 : Int).toNat ((am_up t1.2 (am_ref o 51) (0 : Int).toNat (t1.2 o 47)) o 45)) o 42)) o 43)) o 41))) hG (pc := 202) d227_202 mo227 f11_330 rfl (x_lastore hG (pc := 205) d227_205 h (fun h => (am_c_aload_n hG (pc := 206) d227_206 rfl (x_get_n (v := .inr (.inr (17, am_ref o 51))) hG (pc := 207) d227_207 mo227 f11_77 rfl (am_c_iconst hG (pc := 210) d227_210 (by decide) (am_c_aload_n hG (pc := 211) d227_211 rfl (x_get_n (v := .inl ((am_up (am_up (am_up (am_up (am_up t1.2 (am_ref o 51) (0 : Int).toNat (t1.2 o 47)) (am_ref o 51) (1 : Int).toNat ((am_up t1.2 (am_ref o 51) (0 : Int).toNat (t1.2 o 47)) o 45)) (am_ref o 51) (2 : Int).toNat ((am_up (am_up t1.2 (am_ref o 51) (0 : Int).toNat (t1.2 o 47)) (am_ref o 51) (1 : Int).toNat ((am_up t1.2 (am_ref o 51) (0 : Int).toNat (t1.2 o 47)) o 45)) o 42)) (am_ref o 51) (3 : Int).toNat ((am_up (am_up (am_up t1.2 (am_ref o 51) (0 : Int).toNat (t1.2 o 47)) (am_ref o 51) (1 : Int).toNat ((am_up t1.2 (am_ref o 51) (0 : Int).toNat (t1.2 o 47)) o 45)) (am_ref o 51) (2 : Int).toNat ((am_up (am_up t1.2 (am_ref o 51) (0 : Int).toNat (t1.2 o 47)) (am_ref o 51) (1 : Int).toNat ((am_up t1.2 (am_ref o 51) (0 : Int).toNat (t1.2 o 47)) o 45)) o 42)) o 43)) (am_ref o 51) (4 : Int).toNat ((am_up (am_up (am_up (am_up t1.2 (am_ref o 51) (0 : Int).toNat (t1.2 o 47)) (am_ref o 51) (1 : Int).toNat ((am_up t1.2 (am_ref o 51) (0 : Int).toNat (t1.2 o 47)) o 45)) (am_ref o 51) (2 : Int).toNat ((am_up (am_up t1.2 (am_ref o 51) (0 : Int).toNat (t1.2 o 47)) (am_ref o 51) (1 : Int).toNat ((am_up t1.2 (am_ref o 51) (0 : Int).toNat (t1.2 o 47)) o 45)) o 42)) (am_ref o 51) (3 : Int).toNat ((am_up (am_up (am_up t1.2 (am_ref o 51) (0 : Int).toNat (t1.2 o 47)) (am_ref o 51) (1 : Int).toNat ((am_up t1.2 (am_ref o 51) (0 : Int).toNat (t1.2 o 47)) o 45)) (am_ref o 51) (2 : Int).toNat ((am_up (am_up t1.2 (am_ref o 51) (0 : Int).toNat (t1.2 o 47)) (am_ref o 51) (1 : Int).toNat ((am_up t1.2 (am_ref o 51) (0 : Int).toNat (t1.2 o 47)) o 45)) o 42)) o 43)) o 41)) o 44)) hG (pc := 212) d227_212 mo227 f11_343 rfl (am_c_i2l hG (pc := 215) d227_215 (x_lastore hG (pc := 216) d227_216 h (fun h => (am_c_aload_n hG (pc := 217) d227_217 rfl (x_get_n (v := .inr (.inr (17, am_ref o 51))) hG (pc := 218) d227_218 mo227 f11_77 rfl (am_c_bipush hG (pc := 221) d227_221 (by decide) (am_c_aload_n hG (pc := 223) d227_223 rfl (x_get_n (v := .inl ((am_up (am_up (am_up (am_up (am_up (am_up t1.2 (am_ref o 51) (0 : Int).toNat (t1.2 o 47)) (am_ref o 51) (1 : Int).toNat ((am_up t1.2 (am_ref o 51) (0 : Int).toNat (t1.2 o 47)) o 45)) (am_ref o 51) (2 : Int).toNat ((am_up (am_up t1.2 (am_ref o 51) (0 : Int).toNat (t1.2 o 47)) (am_ref o 51) (1 : Int).toNat ((am_up t1.2 (am_ref o 51) (0 : Int).toNat (t1.2 o 47)) o 45)) o 42)) (am_ref o 51) (3 : Int).toNat ((am_up (am_up (am_up t1.2 (am_ref o 51) (0 : Int).toNat (t1.2 o 47)) (am_ref o 51) (1 : Int).toNat ((am_up t1.2 (am_ref o 51) (0 : Int).toNat (t1.2 o 47)) o 45)) (am_ref o 51) (2 : Int).toNat ((am_up (am_up t1.2 (am_ref o 51) (0 : Int).toNat (t1.2 o 47)) (am_ref o 51) (1 : Int).toNat ((am_up t1.2 (am_ref o 51) (0 : Int).toNat (t1.2 o 47)) o 45)) o 42)) o 43)) (am_ref o 51) (4 : Int).toNat ((am_up (am_up (am_up (am_up t1.2 (am_ref o 51) (0 : Int).toNat (t1.2 o 47)) (am_ref o 51) (1 : Int).toNat ((am_up t1.2 (am_ref o 51) (0 : Int).toNat (t1.2 o 47)) o 45)) (am_ref o 51) (2 : Int).toNat ((am_up (am_up t1.2 (am_ref o 51) (0 : Int).toNat (t1.2 o 47)) (am_ref o 51) (1 : Int).toNat ((am_up t1.2 (am_ref o 51) (0 : Int).toNat (t1.2 o 47)) o 45)) o 42)) (am_ref o 51) (3 : Int).toNat ((am_up (am_up (am_up t1.2 (am_ref o 51) (0 : Int).toNat (t1.2 o 47)) (am_ref o 51) (1 : Int).toNat ((am_up t1.2 (am_ref o 51) (0 : Int).toNat (t1.2 o 47)) o 45)) (am_ref o 51) (2 : Int).toNat ((am_up (am_up t1.2 (am_ref o 51) (0 : Int).toNat (t1.2 o 47)) (am_ref o 51) (1 : Int).toNat ((am_up t1.2 (am_ref o 51) (0 : Int).toNat (t1.2 o 47)) o 45)) o 42)) o 43)) o 41)) (am_ref o 51) (5 : Int).toNat ((am_up (am_up (am_up (am_up (am_up t1.2 (am_ref o 51) (0 : Int).toNat (t1.2 o 47)) (am_ref o 51) (1 : Int).toNat ((am_up t1.2 (am_ref o 51) (0 : Int).toNat (t1.2 o 47)) o 45)) (am_ref o 51) (2 : Int).toNat ((am_up (am_up t1.2 (am_ref o 51) (0 : Int).toNat (t1.2 o 47)) (am_ref o 51) (1 : Int).toNat ((am_up t1.2 (am_ref o 51) (0 : Int).toNat (t1.2 o 47)) o 45)) o 42)) (am_ref o 51) (3 : Int).toNat ((am_up (am_up (am_up t1.2 (am_ref o 51) (0 : Int).toNat (t1.2 o 47)) (am_ref o 51) (1 : Int).toNat ((am_up t1.2 (am_ref o 51) (0 : Int).toNat (t1.2 o 47)) o 45)) (am_ref o 51) (2 : Int).toNat ((am_up (am_up t1.2 (am_ref o 51) (0 : Int).toNat (t1.2 o 47)) (am_ref o 51) (1 : Int).toNat ((am_up t1.2 (am_ref o 51) (0 : Int).toNat (t1.2 o 47)) o 45)) o 42)) o 43)) (am_ref o 51) (4 : Int).toNat ((am_up (am_up (am_up (am_up t1.2 (am_ref o 51) (0 : Int).toNat (t1.2 o 47)) (am_ref o 51) (1 : Int).toNat ((am_up t1.2 (am_ref o 51) (0 : Int).toNat (t1.2 o 47)) o 45)) (am_ref o 51) (2 : Int).toNat ((am_up (am_up t1.2 (am_ref o 51) (0 : Int).toNat (t1.2 o 47)) (am_ref o 51) (1 : Int).toNat ((am_up t1.2 (am_ref o 51) (0 : Int).toNat (t1.2 o 47)) o 45)) o 42)) (am_ref o 51) (3 : Int).toNat ((am_up (am_up (am_up t1.2 (am_ref o 51) (0 : Int).toNat (t1.2 o 47)) (am_ref o 51) (1 : Int).toNat ((am_up t1.2 (am_ref o 51) (0 : Int).toNat (t1.2 o 47)) o 45)) (am_ref o 51) (2 : Int).toNat ((am_up (am_up t1.2 (am_ref o 51) (0 : Int).toNat (t1.2 o 47)) (am_ref o 51) (1 : Int).toNat ((am_up t1.2 (am_ref o 51) (0 : Int).toNat (t1.2 o 47)) o 45)) o 42)) o 43)) o 41)) o 44)) o 46)) hG (pc := 224) d227_224 mo227 f11_372 rfl (am_c_i2l hG (pc := 227) d227_227 (x_lastore hG (pc := 228) d227_228 h (fun h => (am_c_aload_n hG (pc := 229) d227_229 rfl (x_get_n (v := .inl ((am_up (am_up (am_up (am_up (am_up (am_up (am_up t1.2 (am_ref o 51) (0 : Int).toNat (t1.2 o 47)) (am_ref o 51) (1 : Int).toNat ((am_up t1.2 (am_ref o 51) (0 : Int).toNat (t1.2 o 47)) o 45)) (am_ref o 51) (2 : Int).toNat ((am_up (am_up t1.2 (am_ref o 51) (0 : Int).toNat (t1.2 o 47)) (am_ref o 51) (1 : Int).toNat ((am_up t1.2 (am_ref o 51) (0 : Int).toNat (t1.2 o 47)) o 45)) o 42)) (am_ref o 51) (3 : Int).toNat ((am_up (am_up (am_up t1.2 (am_ref o 51) (0 : Int).toNat (t1.2 o 47)) (am_ref o 51) (1 : Int).toNat ((am_up t1.2 (am_ref o 51) (0 : Int).toNat (t1.2 o 47)) o 45)) (am_ref o 51) (2 : Int).toNat ((am_up (am_up t1.2 (am_ref o 51) (0 : Int).toNat (t1.2 o 47)) (am_ref o 51) (1 : Int).toNat ((am_up t1.2 (am_ref o 51) (0 : Int).toNat (t1.2 o 47)) o 45)) o 42)) o 43)) (am_ref o 51) (4 : Int).toNat ((am_up (am_up (am_up (am_up t1.2 (am_ref o 51) (0 : Int).toNat (t1.2 o 47)) (am_ref o 51) (1 : Int).toNat ((am_up t1.2 (am_ref o 51) (0 : Int).toNat (t1.2 o 47)) o 45)) (am_ref o 51) (2 : Int).toNat ((am_up (am_up t1.2 (am_ref o 51) (0 : Int).toNat (t1.2 o 47)) (am_ref o 51) (1 : Int).toNat ((am_up t1.2 (am_ref o 51) (0 : Int).toNat (t1.2 o 47)) o 45)) o 42)) (am_ref o 51) (3 : Int).toNat ((am_up (am_up (am_up t1.2 (am_ref o 51) (0 : Int).toNat (t1.2 o 47)) (am_ref o 51) (1 : Int).toNat ((am_up t1.2 (am_ref o 51) (0 : Int).toNat (t1.2 o 47)) o 45)) (am_ref o 51) (2 : Int).toNat ((am_up (am_up t1.2 (am_ref o 51) (0 : Int).toNat (t1.2 o 47)) (am_ref o 51) (1 : Int).toNat ((am_up t1.2 (am_ref o 51) (0 : Int).toNat (t1.2 o 47)) o 45)) o 42)) o 43)) o 41)) (am_ref o 51) (5 : Int).toNat ((am_up (am_up (am_up (am_up (am_up t1.2 (am_ref o 51) (0 : Int).toNat (t1.2 o 47)) (am_ref o 51) (1 : Int).toNat ((am_up t1.2 (am_ref o 51) (0 : Int).toNat (t1.2 o 47)) o 45)) (am_ref o 51) (2 : Int).toNat ((am_up (am_up t1.2 (am_ref o 51) (0 : Int).toNat (t1.2 o 47)) (am_ref o 51) (1 : Int).toNat ((am_up t1.2 (am_ref o 51) (0 : Int).toNat (t1.2 o 47)) o 45)) o 42)) (am_ref o 51) (3 : Int).toNat ((am_up (am_up (am_up t1.2 (am_ref o 51) (0 : Int).toNat (t1.2 o 47)) (am_ref o 51) (1 : Int).toNat ((am_up t1.2 (am_ref o 51) (0 : Int).toNat (t1.2 o 47)) o 45)) (am_ref o 51) (2 : Int).toNat ((am_up (am_up t1.2 (am_ref o 51) (0 : Int).toNat (t1.2 o 47)) (am_ref o 51) (1 : Int).toNat ((am_up t1.2 (am_ref o 51) (0 : Int).toNat (t1.2 o 47)) o 45)) o 42)) o 43)) (am_ref o 51) (4 : Int).toNat ((am_up (am_up (am_up (am_up t1.2 (am_ref o 51) (0 : Int).toNat (t1.2 o 47)) (am_ref o 51) (1 : Int).toNat ((am_up t1.2 (am_ref o 51) (0 : Int).toNat (t1.2 o 47)) o 45)) (am_ref o 51) (2 : Int).toNat ((am_up (am_up t1.2 (am_ref o 51) (0 : Int).toNat (t1.2 o 47)) (am_ref o 51) (1 : Int).toNat ((am_up t1.2 (am_ref o 51) (0 : Int).toNat (t1.2 o 47)) o 45)) o 42)) (am_ref o 51) (3 : Int).toNat ((am_up (am_up (am_up t1.2 (am_ref o 51) (0 : Int).toNat (t1.2 o 47)) (am_ref o 51) (1 : Int).toNat ((am_up t1.2 (am_ref o 51) (0 : Int).toNat (t1.2 o 47)) o 45)) (am_ref o 51) (2 : Int).toNat ((am_up (am_up t1.2 (am_ref o 51) (0 : Int).toNat (t1.2 o 47)) (am_ref o 51) (1 : Int).toNat ((am_up t1.2 (am_ref o 51) (0 : Int).toNat (t1.2 o 47)) o 45)) o 42)) o 43)) o 41)) o 44)) (am_ref o 51) (6 : Int).toNat ((am_up (am_up (am_up (am_up (am_up (am_up t1.2 (am_ref o 51) (0 : Int).toNat (t1.2 o 47)) (am_ref o 51) (1 : Int).toNat ((am_up t1.2 (am_ref o 51) (0 : Int).toNat (t1.2 o 47)) o 45)) (am_ref o 51) (2 : Int).toNat ((am_up (am_up t1.2 (am_ref o 51) (0 : Int).toNat (t1.2 o 47)) (am_ref o 51) (1 : Int).toNat ((am_up t1.2 (am_ref o 51) (0 : Int).toNat (t1.2 o 47)) o 45)) o 42)) (am_ref o 51) (3 : Int).toNat ((am_up (am_up (am_up t1.2 (am_ref o 51) (0 : Int).toNat (t1.2 o 47)) (am_ref o 51) (1 : Int).toNat ((am_up t1.2 (am_ref o 51) (0 : Int).toNat (t1.2 o 47)) o 45)) (am_ref o 51) (2 : Int).toNat ((am_up (am_up t1.2 (am_ref o 51) (0 : Int).toNat (t1.2 o 47)) (am_ref o 51) (1 : Int).toNat ((am_up t1.2 (am_ref o 51) (0 : Int).toNat (t1.2 o 47)) o 45)) o 42)) o 43)) (am_ref o 51) (4 : Int).toNat ((am_up (am_up (am_up (am_up t1.2 (am_ref o 51) (0 : Int).toNat (t1.2 o 47)) (am_ref o 51) (1 : Int).toNat ((am_up t1.2 (am_ref o 51) (0 : Int).toNat (t1.2 o 47)) o 45)) (am_ref o 51) (2 : Int).toNat ((am_up (am_up t1.2 (am_ref o 51) (0 : Int).toNat (t1.2 o 47)) (am_ref o 51) (1 : Int).toNat ((am_up t1.2 (am_ref o 51) (0 : Int).toNat (t1.2 o 47)) o 45)) o 42)) (am_ref o 51) (3 : Int).toNat ((am_up (am_up (am_up t1.2 (am_ref o 51) (0 : Int).toNat (t1.2 o 47)) (am_ref o 51) (1 : Int).toNat ((am_up t1.2 (am_ref o 51) (0 : Int).toNat (t1.2 o 47)) o 45)) (am_ref o 51) (2 : Int).toNat ((am_up (am_up t1.2 (am_ref o 51) (0 : Int).toNat (t1.2 o 47)) (am_ref o 51) (1 : Int).toNat ((am_up t1.2 (am_ref o 51) (0 : Int).toNat (t1.2 o 47)) o 45)) o 42)) o 43)) o 41)) (am_ref o 51) (5 : Int).toNat ((am_up (am_up (am_up (am_up (am_up t1.2 (am_ref o 51) (0 : Int).toNat (t1.2 o 47)) (am_ref o 51) (1 : Int).toNat ((am_up t1.2 (am_ref o 51) (0 : Int).toNat (t1.2 o 47)) o 45)) (am_ref o 51) (2 : Int).toNat ((am_up (am_up t1.2 (am_ref o 51) (0 : Int).toNat (t1.2 o 47)) (am_ref o 51) (1 : Int).toNat ((am_up t1.2 (am_ref o 51) (0 : Int).toNat (t1.2 o 47)) o 45)) o 42)) (am_ref o 51) (3 : Int).toNat ((am_up (am_up (am_up t1.2 (am_ref o 51) (0 : Int).toNat (t1.2 o 47)) (am_ref o 51) (1 : Int).toNat ((am_up t1.2 (am_ref o 51) (0 : Int).toNat (t1.2 o 47)) o 45)) (am_ref o 51) (2 : Int).toNat ((am_up (am_up t1.2 (am_ref o 51) (0 : Int).toNat (t1.2 o 47)) (am_ref o 51) (1 : Int).toNat ((am_up t1.2 (am_ref o 51) (0 : Int).toNat (t1.2 o 47)) o 45)) o 42)) o 43)) (am_ref o 51) (4 : Int).toNat ((am_up (am_up (am_up (am_up t1.2 (am_ref o 51) (0 : Int).toNat (t1.2 o 47)) (am_ref o 51) (1 : Int).toNat ((am_up t1.2 (am_ref o 51) (0 : Int).toNat (t1.2 o 47)) o 45)) (am_ref o 51) (2 : Int).toNat ((am_up (am_up t1.2 (am_ref o 51) (0 : Int).toNat (t1.2 o 47)) (am_ref o 51) (1 : Int).toNat ((am_up t1.2 (am_ref o 51) (0 : Int).toNat (t1.2 o 47)) o 45)) o 42)) (am_ref o 51) (3 : Int).toNat ((am_up (am_up (am_up t1.2 (am_ref o 51) (0 : Int).toNat (t1.2 o 47)) (am_ref o 51) (1 : Int).toNat ((am_up t1.2 (am_ref o 51) (0 : Int).toNat (t1.2 o 47)) o 45)) (am_ref o 51) (2 : Int).toNat ((am_up (am_up t1.2 (am_ref o 51) (0 : Int).toNat (t1.2 o 47)) (am_ref o 51) (1 : Int).toNat ((am_up t1.2 (am_ref o 51) (0 : Int).toNat (t1.2 o 47)) o 45)) o 42)) o 43)) o 41)) o 44)) o 46)) o 47)) hG (pc := 230) d227_230 mo227 f11_310 rfl (xq_iret hG (by decide) hr (pc := 233) d227_233 mr227 (am_q0 h))))))))))))))))))))))))))))))))))))))))))))))))))))))))))))))))))))))))))))))) (fun h => (am_c_aload_n hG (pc := 89) d227_89 rfl (am_c_iconst hG (pc := 90) d227_90 (by decide) (x_virtual_i (t := 11) (o := o) (as2 := [.inl 5]) (rest := []) hG (pc := 91) d227_91 mo227 m11_412 (by decide) dp227_182 rfl rfl (Nat.le_of_ble_eq_true rfl) (Nat.le_of_ble_eq_true rfl) rg182 sd182 (e182 _ _ _) h (fun z10 h => (xq_iret hG (by decide) hr (pc := 94) d227_94 mr227 (am_q0 h)))))))))))))))))) (fun h => (am_c_aload_n hG (pc := 68) d227_68 rfl (am_c_iconst hG (pc := 69) d227_69 (by decide) (x_virtual_i (t := 11) (o := o) (as2 := [.inl 4]) (rest := []) hG (pc := 70) d227_70 mo227 m11_412 (by decide) dp227_182 rfl rfl (Nat.le_of_ble_eq_true rfl) (Nat.le_of_ble_eq_true rfl) rg182 sd182 (e182 _ _ _) h (fun z11 h => (xq_iret hG (by decide) hr (pc := 73) d227_73 mr227 (am_q0 h))))))))))))))))))))))))) (fun h => (am_c_aload_n hG (pc := 33) d227_33 rfl (am_c_iconst hG (pc := 34) d227_34 (by decide) (x_virtual_i (t := 11) (o := o) (as2 := [.inl 3]) (rest := []) hG (pc := 35) d227_35 mo227 m11_412 (by decide) dp227_182 rfl rfl (Nat.le_of_ble_eq_true rfl) (Nat.le_of_ble_eq_true rfl) rg182 sd182 (e182 _ _ _) h (fun z12 h => (xq_iret hG (by decide) hr (pc := 38) d227_38 mr227 (am_q0 h)))))))))))) (fun h => (am_c_aload_n hG (pc := 20) d227_20 rfl (am_c_iconst hG (pc := 21) d227_21 (by decide) (x_virtual_i (t := 11) (o := o) (as2 := [.inl 2]) (rest := []) hG (pc := 22) d227_22 mo227 m11_412 (by decide) dp227_182 rfl rfl (Nat.le_of_ble_eq_true rfl) (Nat.le_of_ble_eq_true rfl) rg182 sd182 (e182 _ _ _) h (fun z13 h => (xq_iret hG (by decide) hr (pc := 25) d227_25 mr227 (am_q0 h))))))))))) (fun h => (am_c_aload_n hG (pc := 7) d227_7 rfl (am_c_iconst hG (pc := 8) d227_8 (by decide) (x_virtual_i (t := 11) (o := o) (as2 := [.inl 1]) (rest := []) hG (pc := 9) d227_9 mo227 m11_412 (by decide) dp227_182 rfl rfl (Nat.le_of_ble_eq_true rfl) (Nat.le_of_ble_eq_true rfl) rg182 sd182 (e182 _ _ _) h (fun z14 h => (xq_iret hG (by decide) hr (pc := 12) d227_12 mr227 (am_q0 h))))))))))))
/-! ChartPressModel.pixel(II)I -/
theorem D228 (k : Nat) {pc : Nat} {i : Instr} (h : tbi228[k]? = some (pc, i)) (hs : am_isw i = false) {n : Nat} (hn : am_il i = n) : decode (am_mc 228) pc = .ok (i, n) := am_d2 (by decide) (by decide) rfl h hs hn
theorem d228_0 : decode (am_mc 228) 0 = .ok (.aload_n 0, 1) := D228 0 rfl rfl rfl
theorem d228_1 : decode (am_mc 228) 1 = .ok (.iconst 0, 1) := D228 1 rfl rfl rfl
theorem d228_2 : decode (am_mc 228) 2 = .ok (.putfield 83, 3) := D228 2 rfl rfl rfl
theorem d228_5 : decode (am_mc 228) 5 = .ok (.aload_n 0, 1) := D228 3 rfl rfl rfl
theorem d228_6 : decode (am_mc 228) 6 = .ok (.getfield 100, 3) := D228 4 rfl rfl rfl
theorem d228_9 : decode (am_mc 228) 9 = .ok (.ifCond .eq 41, 3) := D228 5 rfl rfl rfl
theorem d228_12 : decode (am_mc 228) 12 = .ok (.iload_n 1, 1) := D228 6 rfl rfl rfl
theorem d228_13 : decode (am_mc 228) 13 = .ok (.ifCond .lt 37, 3) := D228 7 rfl rfl rfl
theorem d228_16 : decode (am_mc 228) 16 = .ok (.iload_n 1, 1) := D228 8 rfl rfl rfl
theorem d228_17 : decode (am_mc 228) 17 = .ok (.aload_n 0, 1) := D228 9 rfl rfl rfl
theorem d228_18 : decode (am_mc 228) 18 = .ok (.getfield 16, 3) := D228 10 rfl rfl rfl
theorem d228_21 : decode (am_mc 228) 21 = .ok (.if_icmp .ge 29, 3) := D228 11 rfl rfl rfl
theorem d228_24 : decode (am_mc 228) 24 = .ok (.iload_n 2, 1) := D228 12 rfl rfl rfl
theorem d228_25 : decode (am_mc 228) 25 = .ok (.ifCond .lt 25, 3) := D228 13 rfl rfl rfl
theorem d228_28 : decode (am_mc 228) 28 = .ok (.iload_n 2, 1) := D228 14 rfl rfl rfl
theorem d228_29 : decode (am_mc 228) 29 = .ok (.aload_n 0, 1) := D228 15 rfl rfl rfl
theorem d228_30 : decode (am_mc 228) 30 = .ok (.getfield 20, 3) := D228 16 rfl rfl rfl
theorem d228_33 : decode (am_mc 228) 33 = .ok (.if_icmp .ge 17, 3) := D228 17 rfl rfl rfl
theorem d228_36 : decode (am_mc 228) 36 = .ok (.aload_n 0, 1) := D228 18 rfl rfl rfl
theorem d228_37 : decode (am_mc 228) 37 = .ok (.getfield 74, 3) := D228 19 rfl rfl rfl
theorem d228_40 : decode (am_mc 228) 40 = .ok (.bipush 96, 2) := D228 20 rfl rfl rfl
theorem d228_42 : decode (am_mc 228) 42 = .ok (.iload_n 2, 1) := D228 21 rfl rfl rfl
theorem d228_43 : decode (am_mc 228) 43 = .ok (.imul, 1) := D228 22 rfl rfl rfl
theorem d228_44 : decode (am_mc 228) 44 = .ok (.iload_n 1, 1) := D228 23 rfl rfl rfl
theorem d228_45 : decode (am_mc 228) 45 = .ok (.iadd, 1) := D228 24 rfl rfl rfl
theorem d228_46 : decode (am_mc 228) 46 = .ok (.iaload, 1) := D228 25 rfl rfl rfl
theorem d228_47 : decode (am_mc 228) 47 = .ok (.goto 4, 3) := D228 26 rfl rfl rfl
theorem d228_50 : decode (am_mc 228) 50 = .ok (.iconst (-1), 1) := D228 27 rfl rfl rfl
theorem d228_51 : decode (am_mc 228) 51 = .ok (.ireturn, 1) := D228 28 rfl rfl rfl
theorem ml228 : ∀ n, n < 3 → n < am_ml 228 := fun _ h => h
theorem mo228 : am_mo 228 = 11 := by decide +kernel
theorem mr228 : am_mr 228 = some .int := by decide +kernel
theorem rg228 : am_rcg 228 = 12 := by decide +kernel
def fn228 (o : Nat) (a : Int) (b : Int) (μ : am_M) : Option (Int × am_M) := (if (am_up μ o 0 0) o 49 = 0 then some ((-1), am_up μ o 0 0) else (if a < 0 then some ((-1), am_up μ o 0 0) else (if a < (am_up μ o 0 0) o 5 then (if b < 0 then some ((-1), am_up μ o 0 0) else (if b < (am_up μ o 0 0) o 6 then (if (0 : Int) ≤ w32 ((w32 (96 * b)) + a) ∧ w32 ((w32 (96 * b)) + a) < ((am_len (am_ref o 50) : Nat) : Int) then some ((am_up μ o 0 0) (am_ref o 50) (w32 ((w32 (96 * b)) + a) : Int).toNat, am_up μ o 0 0) else none) else some ((-1), am_up μ o 0 0))) else some ((-1), am_up μ o 0 0))))
def sp228 : am_F := fun vs μ => am_aR 11 vs fun o vs => am_aI vs fun a vs => am_aI vs fun b vs => am_a0 vs (fn228 o a b μ)
theorem e228 (o : Nat) (a : Int) (b : Int) (μ : am_M) : sp228 [.inr (.inr (11, o)), .inl a, .inl b] μ = fn228 o a b μ := am_aR_c.trans (am_aI_c.trans (am_aI_c.trans am_a0_c))
theorem sd228 : am_Sd 228 sp228 := by
  refine am_Sd_of (by decide) (fun vs μ μ' x h hv hM => ?_)
  obtain ⟨o, vs0, rfl, h0⟩ := am_aR_s h
  obtain ⟨a, vs1, rfl, h1⟩ := am_aI_s h0
  obtain ⟨b, vs2, rfl, h2⟩ := am_aI_s h1
  obtain ⟨rfl, hz⟩ := am_a0_s h2
  refine ⟨Nat.le_of_ble_eq_true rfl, fun X C hG hr => ?_⟩
  have h := hz
  unfold fn228 at h
  exact (show am_W X C 228 _ 0 0 0 [(0, .inr (.inr (11, o))), (1, .inl a), (2, .inl b)] [] μ from (am_c_aload_n hG (pc := 0) d228_0 rfl (am_c_iconst hG (pc := 1) d228_1 (by decide) (x_put_i hG (pc := 2) d228_2 mo228 f11_83 (by decide) (am_c_aload_n hG (pc := 5) d228_5 rfl (x_get_n (v := .inl ((am_up μ o 0 0) o 49)) hG (pc := 6) d228_6 mo228 f11_100 rfl (x_if_eq (tgt := 50) hG (pc := 9) d228_9 rfl h (fun h => (am_c_iconst hG (pc := 50) d228_50 (by decide) (xq_iret hG (by decide) hr (pc := 51) d228_51 mr228 (am_q0 h)))) (fun h => (am_c_iload_n hG (pc := 12) d228_12 rfl (x_if_lt (tgt := 50) hG (pc := 13) d228_13 rfl h (fun h => (am_c_iconst hG (pc := 50) d228_50 (by decide) (xq_iret hG (by decide) hr (pc := 51) d228_51 mr228 (am_q0 h)))) (fun h => (am_c_iload_n hG (pc := 16) d228_16 rfl (am_c_aload_n hG (pc := 17) d228_17 rfl (x_get_n (v := .inl ((am_up μ o 0 0) o 5)) hG (pc := 18) d228_18 mo228 f11_16 rfl (x_icmp_ge (tgt := 50) hG (pc := 21) d228_21 rfl h (fun h => (am_c_iconst hG (pc := 50) d228_50 (by decide) (xq_iret hG (by decide) hr (pc := 51) d228_51 mr228 (am_q0 h)))) (fun h => (am_c_iload_n hG (pc := 24) d228_24 rfl (x_if_lt (tgt := 50) hG (pc := 25) d228_25 rfl h (fun h => (am_c_iconst hG (pc := 50) d228_50 (by decide) (xq_iret hG (by decide) hr (pc := 51) d228_51 mr228 (am_q0 h)))) (fun h => (am_c_iload_n hG (pc := 28) d228_28 rfl (am_c_aload_n hG (pc := 29) d228_29 rfl (x_get_n (v := .inl ((am_up μ o 0 0) o 6)) hG (pc := 30) d228_30 mo228 f11_20 rfl (x_icmp_ge (tgt := 50) hG (pc := 33) d228_33 rfl h (fun h => (am_c_iconst hG (pc := 50) d228_50 (by decide) (xq_iret hG (by decide) hr (pc := 51) d228_51 mr228 (am_q0 h)))) (fun h => (am_c_aload_n hG (pc := 36) d228_36 rfl (x_get_n (v := .inr (.inr (16, am_ref o 50))) hG (pc := 37) d228_37 mo228 f11_74 rfl (am_c_bipush hG (pc := 40) d228_40 (by decide) (am_c_iload_n hG (pc := 42) d228_42 rfl (am_c_imul hG (pc := 43) d228_43 (am_c_iload_n hG (pc := 44) d228_44 rfl (am_c_iadd hG (pc := 45) d228_45 (x_iaload hG (pc := 46) d228_46 h (fun h => (x_goto (tgt := 51) hG (pc := 47) d228_47 rfl (xq_iret hG (by decide) hr (pc := 51) d228_51 mr228 (am_q0 h))))))))))))))))))))))))))))))))))))
/-! ChartPressModel.figure(I)J -/
theorem D229 (k : Nat) {pc : Nat} {i : Instr} (h : tbi229[k]? = some (pc, i)) (hs : am_isw i = false) {n : Nat} (hn : am_il i = n) : decode (am_mc 229) pc = .ok (i, n) := am_d2 (by decide) (by decide) rfl h hs hn
theorem d229_0 : decode (am_mc 229) 0 = .ok (.aload_n 0, 1) := D229 0 rfl rfl rfl
theorem d229_1 : decode (am_mc 229) 1 = .ok (.iconst 0, 1) := D229 1 rfl rfl rfl
theorem d229_2 : decode (am_mc 229) 2 = .ok (.putfield 83, 3) := D229 2 rfl rfl rfl
theorem d229_5 : decode (am_mc 229) 5 = .ok (.aload_n 0, 1) := D229 3 rfl rfl rfl
theorem d229_6 : decode (am_mc 229) 6 = .ok (.getfield 100, 3) := D229 4 rfl rfl rfl
theorem d229_9 : decode (am_mc 229) 9 = .ok (.ifCond .eq 22, 3) := D229 5 rfl rfl rfl
theorem d229_12 : decode (am_mc 229) 12 = .ok (.iload_n 1, 1) := D229 6 rfl rfl rfl
theorem d229_13 : decode (am_mc 229) 13 = .ok (.ifCond .lt 18, 3) := D229 7 rfl rfl rfl
theorem d229_16 : decode (am_mc 229) 16 = .ok (.iload_n 1, 1) := D229 8 rfl rfl rfl
theorem d229_17 : decode (am_mc 229) 17 = .ok (.bipush 6, 2) := D229 9 rfl rfl rfl
theorem d229_19 : decode (am_mc 229) 19 = .ok (.if_icmp .gt 12, 3) := D229 10 rfl rfl rfl
theorem d229_22 : decode (am_mc 229) 22 = .ok (.aload_n 0, 1) := D229 11 rfl rfl rfl
theorem d229_23 : decode (am_mc 229) 23 = .ok (.getfield 77, 3) := D229 12 rfl rfl rfl
theorem d229_26 : decode (am_mc 229) 26 = .ok (.iload_n 1, 1) := D229 13 rfl rfl rfl
theorem d229_27 : decode (am_mc 229) 27 = .ok (.laload, 1) := D229 14 rfl rfl rfl
theorem d229_28 : decode (am_mc 229) 28 = .ok (.goto 6, 3) := D229 15 rfl rfl rfl
theorem d229_31 : decode (am_mc 229) 31 = .ok (.ldc2_w 439, 3) := D229 16 rfl rfl rfl
theorem d229_34 : decode (am_mc 229) 34 = .ok (.lreturn, 1) := D229 17 rfl rfl rfl
theorem ml229 : ∀ n, n < 2 → n < am_ml 229 := fun _ h => h
theorem mo229 : am_mo 229 = 11 := by decide +kernel
theorem rk229 : am_rk 229 = 2 := by decide +kernel
theorem rg229 : am_rcg 229 = 12 := by decide +kernel
def fn229 (o : Nat) (a : Int) (μ : am_M) : Option (Int × am_M) := (if (am_up μ o 0 0) o 49 = 0 then some ((-1), am_up μ o 0 0) else (if a < 0 then some ((-1), am_up μ o 0 0) else (if 6 < a then some ((-1), am_up μ o 0 0) else (if (0 : Int) ≤ a ∧ a < ((am_len (am_ref o 51) : Nat) : Int) then some ((am_up μ o 0 0) (am_ref o 51) (a : Int).toNat, am_up μ o 0 0) else none))))
def sp229 : am_F := fun vs μ => am_aR 11 vs fun o vs => am_aI vs fun a vs => am_a0 vs (fn229 o a μ)
theorem e229 (o : Nat) (a : Int) (μ : am_M) : sp229 [.inr (.inr (11, o)), .inl a] μ = fn229 o a μ := am_aR_c.trans (am_aI_c.trans am_a0_c)
theorem sd229 : am_Sd 229 sp229 := by
  refine am_Sd_of (by decide) (fun vs μ μ' x h hv hM => ?_)
  obtain ⟨o, vs0, rfl, h0⟩ := am_aR_s h
  obtain ⟨a, vs1, rfl, h1⟩ := am_aI_s h0
  obtain ⟨rfl, hz⟩ := am_a0_s h1
  refine ⟨Nat.le_of_ble_eq_true rfl, fun X C hG hr => ?_⟩
  have h := hz
  unfold fn229 at h
  exact (show am_W X C 229 _ 0 0 0 [(0, .inr (.inr (11, o))), (1, .inl a)] [] μ from (am_c_aload_n hG (pc := 0) d229_0 rfl (am_c_iconst hG (pc := 1) d229_1 (by decide) (x_put_i hG (pc := 2) d229_2 mo229 f11_83 (by decide) (am_c_aload_n hG (pc := 5) d229_5 rfl (x_get_n (v := .inl ((am_up μ o 0 0) o 49)) hG (pc := 6) d229_6 mo229 f11_100 rfl (x_if_eq (tgt := 31) hG (pc := 9) d229_9 rfl h (fun h => (am_c_ldc2 hG (pc := 31) d229_31 (v := (-1)) (by decide +kernel) (xq_lret hG (by decide) hr (pc := 34) d229_34 rk229 (am_q0 h)))) (fun h => (am_c_iload_n hG (pc := 12) d229_12 rfl (x_if_lt (tgt := 31) hG (pc := 13) d229_13 rfl h (fun h => (am_c_ldc2 hG (pc := 31) d229_31 (v := (-1)) (by decide +kernel) (xq_lret hG (by decide) hr (pc := 34) d229_34 rk229 (am_q0 h)))) (fun h => (am_c_iload_n hG (pc := 16) d229_16 rfl (am_c_bipush hG (pc := 17) d229_17 (by decide) (x_icmp_gt (tgt := 31) hG (pc := 19) d229_19 rfl h (fun h => (am_c_ldc2 hG (pc := 31) d229_31 (v := (-1)) (by decide +kernel) (xq_lret hG (by decide) hr (pc := 34) d229_34 rk229 (am_q0 h)))) (fun h => (am_c_aload_n hG (pc := 22) d229_22 rfl (x_get_n (v := .inr (.inr (17, am_ref o 51))) hG (pc := 23) d229_23 mo229 f11_77 rfl (am_c_iload_n hG (pc := 26) d229_26 rfl (x_laload hG (pc := 27) d229_27 h (fun h => (x_goto (tgt := 34) hG (pc := 28) d229_28 rfl (xq_lret hG (by decide) hr (pc := 34) d229_34 rk229 (am_q0 h)))))))))))))))))))))))
/-! ChartPressModel.column(I)I -/
theorem D230 (k : Nat) {pc : Nat} {i : Instr} (h : tbi230[k]? = some (pc, i)) (hs : am_isw i = false) {n : Nat} (hn : am_il i = n) : decode (am_mc 230) pc = .ok (i, n) := am_d2 (by decide) (by decide) rfl h hs hn
theorem d230_0 : decode (am_mc 230) 0 = .ok (.aload_n 0, 1) := D230 0 rfl rfl rfl
theorem d230_1 : decode (am_mc 230) 1 = .ok (.iconst 0, 1) := D230 1 rfl rfl rfl
theorem d230_2 : decode (am_mc 230) 2 = .ok (.putfield 83, 3) := D230 2 rfl rfl rfl
theorem d230_5 : decode (am_mc 230) 5 = .ok (.iload_n 1, 1) := D230 3 rfl rfl rfl
theorem d230_6 : decode (am_mc 230) 6 = .ok (.ifCond .lt 34, 3) := D230 4 rfl rfl rfl
theorem d230_9 : decode (am_mc 230) 9 = .ok (.aload_n 0, 1) := D230 5 rfl rfl rfl
theorem d230_10 : decode (am_mc 230) 10 = .ok (.invokevirtual 409, 3) := D230 6 rfl rfl rfl
theorem d230_13 : decode (am_mc 230) 13 = .ok (.ifCond .eq 27, 3) := D230 7 rfl rfl rfl
theorem d230_16 : decode (am_mc 230) 16 = .ok (.aload_n 0, 1) := D230 8 rfl rfl rfl
theorem d230_17 : decode (am_mc 230) 17 = .ok (.getfield 127, 3) := D230 9 rfl rfl rfl
theorem d230_20 : decode (am_mc 230) 20 = .ok (.ifCond .ne 20, 3) := D230 10 rfl rfl rfl
theorem d230_23 : decode (am_mc 230) 23 = .ok (.iload_n 1, 1) := D230 11 rfl rfl rfl
theorem d230_24 : decode (am_mc 230) 24 = .ok (.aload_n 0, 1) := D230 12 rfl rfl rfl
theorem d230_25 : decode (am_mc 230) 25 = .ok (.getfield 118, 3) := D230 13 rfl rfl rfl
theorem d230_28 : decode (am_mc 230) 28 = .ok (.if_icmp .ge 12, 3) := D230 14 rfl rfl rfl
theorem d230_31 : decode (am_mc 230) 31 = .ok (.aload_n 0, 1) := D230 15 rfl rfl rfl
theorem d230_32 : decode (am_mc 230) 32 = .ok (.getfield 33, 3) := D230 16 rfl rfl rfl
theorem d230_35 : decode (am_mc 230) 35 = .ok (.iload_n 1, 1) := D230 17 rfl rfl rfl
theorem d230_36 : decode (am_mc 230) 36 = .ok (.iaload, 1) := D230 18 rfl rfl rfl
theorem d230_37 : decode (am_mc 230) 37 = .ok (.goto 4, 3) := D230 19 rfl rfl rfl
theorem d230_40 : decode (am_mc 230) 40 = .ok (.iconst 0, 1) := D230 20 rfl rfl rfl
theorem d230_41 : decode (am_mc 230) 41 = .ok (.ireturn, 1) := D230 21 rfl rfl rfl
theorem ml230 : ∀ n, n < 2 → n < am_ml 230 := fun _ h => h
theorem mo230 : am_mo 230 = 11 := by decide +kernel
theorem mr230 : am_mr 230 = some .int := by decide +kernel
theorem rg230 : am_rcg 230 = 12 := by decide +kernel
theorem dp230_181 : am_md 181 + 1 ≤ am_md 230 ∧ 8 + (am_ml 181 + 11) + am_lr 181 ≤ am_lr 230 := by decide +kernel
def fn230 (o : Nat) (a : Int) (μ : am_M) : Option (Int × am_M) := (if a < 0 then some (0, am_up μ o 0 0) else (am_op (fn181 o (am_up μ o 0 0)) (fun z1 => (if z1.1 = 0 then some (0, z1.2) else (if z1.2 o 14 = 0 then (if a < z1.2 o 7 then (if (0 : Int) ≤ a ∧ a < ((am_len (am_ref o 15) : Nat) : Int) then some (z1.2 (am_ref o 15) (a : Int).toNat, z1.2) else none) else some (0, z1.2)) else some (0, z1.2))))))
def sp230 : am_F := fun vs μ => am_aR 11 vs fun o vs => am_aI vs fun a vs => am_a0 vs (fn230 o a μ)
theorem e230 (o : Nat) (a : Int) (μ : am_M) : sp230 [.inr (.inr (11, o)), .inl a] μ = fn230 o a μ := am_aR_c.trans (am_aI_c.trans am_a0_c)
theorem sd230 : am_Sd 230 sp230 := by
  refine am_Sd_of (by decide) (fun vs μ μ' x h hv hM => ?_)
  obtain ⟨o, vs0, rfl, h0⟩ := am_aR_s h
  obtain ⟨a, vs1, rfl, h1⟩ := am_aI_s h0
  obtain ⟨rfl, hz⟩ := am_a0_s h1
  refine ⟨Nat.le_of_ble_eq_true rfl, fun X C hG hr => ?_⟩
  have h := hz
  unfold fn230 at h
  exact (show am_W X C 230 _ 0 0 0 [(0, .inr (.inr (11, o))), (1, .inl a)] [] μ from (am_c_aload_n hG (pc := 0) d230_0 rfl (am_c_iconst hG (pc := 1) d230_1 (by decide) (x_put_i hG (pc := 2) d230_2 mo230 f11_83 (by decide) (am_c_iload_n hG (pc := 5) d230_5 rfl (x_if_lt (tgt := 40) hG (pc := 6) d230_6 rfl h (fun h => (am_c_iconst hG (pc := 40) d230_40 (by decide) (xq_iret hG (by decide) hr (pc := 41) d230_41 mr230 (am_q0 h)))) (fun h => (am_c_aload_n hG (pc := 9) d230_9 rfl (x_virtual_i (t := 11) (o := o) (as2 := []) (rest := []) hG (pc := 10) d230_10 mo230 m11_409 (by decide) dp230_181 rfl rfl (Nat.le_of_ble_eq_true rfl) (Nat.le_of_ble_eq_true rfl) rg181 sd181 (e181 _ _) h (fun z1 h => (x_if_eq (tgt := 40) hG (pc := 13) d230_13 rfl h (fun h => (am_c_iconst hG (pc := 40) d230_40 (by decide) (xq_iret hG (by decide) hr (pc := 41) d230_41 mr230 (am_q0 h)))) (fun h => (am_c_aload_n hG (pc := 16) d230_16 rfl (x_get_n (v := .inl (z1.2 o 14)) hG (pc := 17) d230_17 mo230 f11_127 rfl (x_if_ne (tgt := 40) hG (pc := 20) d230_20 rfl h (fun h => (am_c_iconst hG (pc := 40) d230_40 (by decide) (xq_iret hG (by decide) hr (pc := 41) d230_41 mr230 (am_q0 h)))) (fun h => (am_c_iload_n hG (pc := 23) d230_23 rfl (am_c_aload_n hG (pc := 24) d230_24 rfl (x_get_n (v := .inl (z1.2 o 7)) hG (pc := 25) d230_25 mo230 f11_118 rfl (x_icmp_ge (tgt := 40) hG (pc := 28) d230_28 rfl h (fun h => (am_c_iconst hG (pc := 40) d230_40 (by decide) (xq_iret hG (by decide) hr (pc := 41) d230_41 mr230 (am_q0 h)))) (fun h => (am_c_aload_n hG (pc := 31) d230_31 rfl (x_get_n (v := .inr (.inr (16, am_ref o 15))) hG (pc := 32) d230_32 mo230 f11_33 rfl (am_c_iload_n hG (pc := 35) d230_35 rfl (x_iaload hG (pc := 36) d230_36 h (fun h => (x_goto (tgt := 41) hG (pc := 37) d230_37 rfl (xq_iret hG (by decide) hr (pc := 41) d230_41 mr230 (am_q0 h)))))))))))))))))))))))))))))
/-! ChartPressModel.value(I)J -/
theorem D231 (k : Nat) {pc : Nat} {i : Instr} (h : tbi231[k]? = some (pc, i)) (hs : am_isw i = false) {n : Nat} (hn : am_il i = n) : decode (am_mc 231) pc = .ok (i, n) := am_d2 (by decide) (by decide) rfl h hs hn
theorem d231_0 : decode (am_mc 231) 0 = .ok (.aload_n 0, 1) := D231 0 rfl rfl rfl
theorem d231_1 : decode (am_mc 231) 1 = .ok (.iconst 0, 1) := D231 1 rfl rfl rfl
theorem d231_2 : decode (am_mc 231) 2 = .ok (.putfield 83, 3) := D231 2 rfl rfl rfl
theorem d231_5 : decode (am_mc 231) 5 = .ok (.aload_n 0, 1) := D231 3 rfl rfl rfl
theorem d231_6 : decode (am_mc 231) 6 = .ok (.getfield 100, 3) := D231 4 rfl rfl rfl
theorem d231_9 : decode (am_mc 231) 9 = .ok (.ifCond .eq 24, 3) := D231 5 rfl rfl rfl
theorem d231_12 : decode (am_mc 231) 12 = .ok (.iload_n 1, 1) := D231 6 rfl rfl rfl
theorem d231_13 : decode (am_mc 231) 13 = .ok (.ifCond .lt 20, 3) := D231 7 rfl rfl rfl
theorem d231_16 : decode (am_mc 231) 16 = .ok (.iload_n 1, 1) := D231 8 rfl rfl rfl
theorem d231_17 : decode (am_mc 231) 17 = .ok (.aload_n 0, 1) := D231 9 rfl rfl rfl
theorem d231_18 : decode (am_mc 231) 18 = .ok (.getfield 436, 3) := D231 10 rfl rfl rfl
theorem d231_21 : decode (am_mc 231) 21 = .ok (.if_icmp .ge 12, 3) := D231 11 rfl rfl rfl
theorem d231_24 : decode (am_mc 231) 24 = .ok (.aload_n 0, 1) := D231 12 rfl rfl rfl
theorem d231_25 : decode (am_mc 231) 25 = .ok (.getfield 80, 3) := D231 13 rfl rfl rfl
theorem d231_28 : decode (am_mc 231) 28 = .ok (.iload_n 1, 1) := D231 14 rfl rfl rfl
theorem d231_29 : decode (am_mc 231) 29 = .ok (.laload, 1) := D231 15 rfl rfl rfl
theorem d231_30 : decode (am_mc 231) 30 = .ok (.goto 4, 3) := D231 16 rfl rfl rfl
theorem d231_33 : decode (am_mc 231) 33 = .ok (.lconst 0, 1) := D231 17 rfl rfl rfl
theorem d231_34 : decode (am_mc 231) 34 = .ok (.lreturn, 1) := D231 18 rfl rfl rfl
theorem ml231 : ∀ n, n < 2 → n < am_ml 231 := fun _ h => h
theorem mo231 : am_mo 231 = 11 := by decide +kernel
theorem rk231 : am_rk 231 = 2 := by decide +kernel
theorem rg231 : am_rcg 231 = 12 := by decide +kernel
def fn231 (o : Nat) (a : Int) (μ : am_M) : Option (Int × am_M) := (if (am_up μ o 0 0) o 49 = 0 then some (0, am_up μ o 0 0) else (if a < 0 then some (0, am_up μ o 0 0) else (if a < (am_up μ o 0 0) o 52 then (if (0 : Int) ≤ a ∧ a < ((am_len (am_ref o 53) : Nat) : Int) then some ((am_up μ o 0 0) (am_ref o 53) (a : Int).toNat, am_up μ o 0 0) else none) else some (0, am_up μ o 0 0))))
def sp231 : am_F := fun vs μ => am_aR 11 vs fun o vs => am_aI vs fun a vs => am_a0 vs (fn231 o a μ)
theorem e231 (o : Nat) (a : Int) (μ : am_M) : sp231 [.inr (.inr (11, o)), .inl a] μ = fn231 o a μ := am_aR_c.trans (am_aI_c.trans am_a0_c)
theorem sd231 : am_Sd 231 sp231 := by
  refine am_Sd_of (by decide) (fun vs μ μ' x h hv hM => ?_)
  obtain ⟨o, vs0, rfl, h0⟩ := am_aR_s h
  obtain ⟨a, vs1, rfl, h1⟩ := am_aI_s h0
  obtain ⟨rfl, hz⟩ := am_a0_s h1
  refine ⟨Nat.le_of_ble_eq_true rfl, fun X C hG hr => ?_⟩
  have h := hz
  unfold fn231 at h
  exact (show am_W X C 231 _ 0 0 0 [(0, .inr (.inr (11, o))), (1, .inl a)] [] μ from (am_c_aload_n hG (pc := 0) d231_0 rfl (am_c_iconst hG (pc := 1) d231_1 (by decide) (x_put_i hG (pc := 2) d231_2 mo231 f11_83 (by decide) (am_c_aload_n hG (pc := 5) d231_5 rfl (x_get_n (v := .inl ((am_up μ o 0 0) o 49)) hG (pc := 6) d231_6 mo231 f11_100 rfl (x_if_eq (tgt := 33) hG (pc := 9) d231_9 rfl h (fun h => (am_c_lconst hG (pc := 33) d231_33 (xq_lret hG (by decide) hr (pc := 34) d231_34 rk231 (am_q0 h)))) (fun h => (am_c_iload_n hG (pc := 12) d231_12 rfl (x_if_lt (tgt := 33) hG (pc := 13) d231_13 rfl h (fun h => (am_c_lconst hG (pc := 33) d231_33 (xq_lret hG (by decide) hr (pc := 34) d231_34 rk231 (am_q0 h)))) (fun h => (am_c_iload_n hG (pc := 16) d231_16 rfl (am_c_aload_n hG (pc := 17) d231_17 rfl (x_get_n (v := .inl ((am_up μ o 0 0) o 52)) hG (pc := 18) d231_18 mo231 f11_436 rfl (x_icmp_ge (tgt := 33) hG (pc := 21) d231_21 rfl h (fun h => (am_c_lconst hG (pc := 33) d231_33 (xq_lret hG (by decide) hr (pc := 34) d231_34 rk231 (am_q0 h)))) (fun h => (am_c_aload_n hG (pc := 24) d231_24 rfl (x_get_n (v := .inr (.inr (17, am_ref o 53))) hG (pc := 25) d231_25 mo231 f11_80 rfl (am_c_iload_n hG (pc := 28) d231_28 rfl (x_laload hG (pc := 29) d231_29 h (fun h => (x_goto (tgt := 34) hG (pc := 30) d231_30 rfl (xq_lret hG (by decide) hr (pc := 34) d231_34 rk231 (am_q0 h))))))))))))))))))))))))
