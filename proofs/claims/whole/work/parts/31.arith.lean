/-! Numbers: what the machine's operations are on numbers in range. -/
theorem w32_id {x : Int} (h : -2147483648 ≤ x) (h2 : x ≤ 2147483647) : w32 x = x := am_i_of ⟨h, h2⟩
theorem w64_id {x : Int} (h : -9223372036854775808 ≤ x) (h2 : x ≤ 9223372036854775807) : w64 x = x := am_j_of ⟨h, h2⟩
theorem o_i2c_id {x : Int} (h : 0 ≤ x) (h2 : x ≤ 65535) : o_i2c x = x := by
  unfold o_i2c
  rw [pk_char, am_nn h, pk_tn (by omega), nI_toInt (by omega)]
  omega
theorem o_nc_id {x : Int} (h : 0 ≤ x) (h2 : x ≤ 65535) : o_nar .char x = x := by
  unfold o_nar
  rw [vp_nar_char, am_nn h]
  have e : (nI x.toNat).toUInt32.toUInt16.toUInt32.toInt32 = ((nI x.toNat).toUInt32 % 65536).toInt32 := by
    first | rfl | (rw [UInt32.toUInt32_toUInt16]) | simp
  rw [e, pk_char, pk_tn (by omega), nI_toInt (by omega)]
  omega
theorem o_nb_id {x : Int} (h : -128 ≤ x) (h2 : x ≤ 127) : o_nar .byte x = x := by
  unfold o_nar
  rw [vp_nar_byte, Int8.toInt_toInt32, Int32.toInt_toInt8, am_i_of (by unfold am_inI; omega)]
  show Int.bmod x 256 = x
  unfold Int.bmod
  dsimp only
  split <;> omega
theorem o_i2b_id {x : Int} (h : -128 ≤ x) (h2 : x ≤ 127) : o_i2b x = x := o_nb_id h h2
theorem o_nz_0 : o_nar .boolean 0 = 0 := by decide +kernel
theorem o_nz_1 : o_nar .boolean 1 = 1 := by decide +kernel
theorem o_l2i_id {x : Int} (h : -2147483648 ≤ x) (h2 : x ≤ 2147483647) : o_l2i x = x := by
  unfold o_l2i
  rw [Int64.toInt_toInt32, am_j_of (by unfold am_inJ; omega)]
  show Int.bmod x 4294967296 = x
  unfold Int.bmod
  dsimp only
  split <;> omega
theorem o_cmp_lt {a b : Int} : o_cmp a b < 0 ↔ a < b := by unfold o_cmp; split; omega; split <;> omega
theorem o_cmp_gt {a b : Int} : 0 < o_cmp a b ↔ b < a := by unfold o_cmp; split; omega; split <;> omega
theorem o_cmp_eq {a b : Int} : o_cmp a b = 0 ↔ a = b := by unfold o_cmp; split; omega; split <;> omega
theorem o_div_id {a b : Int} (ha : am_inI a) (hb : am_inI b) (h : -2147483648 < a ∨ b ≠ -1) : o_div a b = a.tdiv b := by
  unfold o_div o_2
  rw [Int32.toInt_div, am_i_of ha, am_i_of hb]
  have hq : -2147483648 ≤ a.tdiv b ∧ a.tdiv b ≤ 2147483647 := by
    unfold am_inI at ha hb
    have h1 : (a.tdiv b).natAbs ≤ a.natAbs := by rw [Int.natAbs_tdiv]; exact Nat.div_le_self _ _
    by_cases hb1 : b = -1
    · subst hb1
      rw [show a.tdiv (-1) = -a from by rw [Int.tdiv_neg, Int.tdiv_one]]
      omega
    · by_cases ha2 : a = -2147483648
      · subst ha2
        by_cases hb0 : b = 0
        · subst hb0; simp
        · by_cases hb2 : b = 1
          · subst hb2; simp
          · have h3 : ((-2147483648 : Int).tdiv b).natAbs ≤ 1073741824 := by
              rw [Int.natAbs_tdiv]
              have : 2 ≤ b.natAbs := by omega
              calc (-2147483648 : Int).natAbs / b.natAbs ≤ (-2147483648 : Int).natAbs / 2 := Nat.div_le_div_left this (by decide)
                _ ≤ 1073741824 := by decide
            omega
      · omega
  show Int.bmod _ 4294967296 = _
  unfold Int.bmod
  dsimp only
  split <;> omega
theorem o_div_nn {a b : Int} (ha : 0 ≤ a) (ha2 : a ≤ 2147483647) (hb : 0 < b) (hb2 : b ≤ 2147483647) : o_div a b = a / b := by
  rw [o_div_id ⟨by omega, ha2⟩ ⟨by omega, hb2⟩ (Or.inl (by omega)), Int.tdiv_eq_ediv_of_nonneg ha]
theorem o_rem_nn {a b : Int} (ha : 0 ≤ a) (ha2 : a ≤ 2147483647) (hb : 0 < b) (hb2 : b ≤ 2147483647) : o_rem a b = a % b := by
  obtain ⟨n, rfl⟩ := Int.eq_ofNat_of_zero_le ha
  obtain ⟨k, rfl⟩ := Int.eq_ofNat_of_zero_le (Int.le_of_lt hb)
  unfold o_rem o_2
  have e1 : Int32.ofInt (n : Int) = nI n := rfl
  have e2 : Int32.ofInt (k : Int) = nI k := rfl
  dsimp only
  rw [e1, e2, pk_rem (by omega) (by omega) (by omega), nI_toInt (Nat.lt_of_le_of_lt (Nat.mod_le _ _) (by omega))]
  exact Int.natCast_emod n k
theorem o_divl_nn {a b : Int} (ha : 0 ≤ a) (ha2 : a ≤ 9223372036854775807) (hb : 0 < b) (hb2 : b ≤ 9223372036854775807) : o_divl a b = a / b := by
  obtain ⟨n, rfl⟩ := Int.eq_ofNat_of_zero_le ha
  obtain ⟨k, rfl⟩ := Int.eq_ofNat_of_zero_le (Int.le_of_lt hb)
  unfold o_divl o_2l
  have e1 : Int64.ofInt (n : Int) = lN n := rfl
  have e2 : Int64.ofInt (k : Int) = lN k := rfl
  dsimp only
  rw [e1, e2, pk_lDiv (by omega) (by omega) (by omega), pk_lT (Nat.lt_of_le_of_lt (Nat.div_le_self _ _) (by omega))]
  exact Int.natCast_ediv n k
theorem o_reml_nn {a b : Int} (ha : 0 ≤ a) (ha2 : a ≤ 9223372036854775807) (hb : 0 < b) (hb2 : b ≤ 9223372036854775807) : o_reml a b = a % b := by
  obtain ⟨n, rfl⟩ := Int.eq_ofNat_of_zero_le ha
  obtain ⟨k, rfl⟩ := Int.eq_ofNat_of_zero_le (Int.le_of_lt hb)
  unfold o_reml o_2l
  have e1 : Int64.ofInt (n : Int) = lN n := rfl
  have e2 : Int64.ofInt (k : Int) = lN k := rfl
  dsimp only
  rw [e1, e2, pk_lRem (by omega) (by omega) (by omega), pk_lT (Nat.lt_of_le_of_lt (Nat.mod_le _ _) (by omega))]
  exact Int.natCast_emod n k
theorem o_divl_id {a b : Int} (ha : am_inJ a) (hb : am_inJ b) (hb0 : 0 < b) : o_divl a b = a.tdiv b := by
  unfold o_divl o_2l
  rw [Int64.toInt_div, am_j_of ha, am_j_of hb]
  unfold am_inJ at ha hb
  have hq : -9223372036854775808 ≤ a.tdiv b ∧ a.tdiv b ≤ 9223372036854775807 := by
    rcases Int.le_total 0 a with h | h
    · have h1 : a.tdiv b ≤ a := by rw [Int.tdiv_eq_ediv_of_nonneg h]; exact Int.ediv_le_self b h
      have h2 : 0 ≤ a.tdiv b := Int.tdiv_nonneg h (by omega)
      omega
    · have e : a.tdiv b = -((-a).tdiv b) := by rw [Int.neg_tdiv]; omega
      have h1 : (-a).tdiv b ≤ -a := by rw [Int.tdiv_eq_ediv_of_nonneg (by omega)]; exact Int.ediv_le_self b (by omega)
      have h2 : 0 ≤ (-a).tdiv b := Int.tdiv_nonneg (by omega) (by omega)
      omega
  show Int.bmod _ 18446744073709551616 = _
  unfold Int.bmod
  dsimp only
  split <;> omega
theorem o_shr_nn {a : Int} {k : Nat} (ha : 0 ≤ a) (ha2 : a ≤ 2147483647) (hk : k < 32) : o_shr a (k : Int) = a / 2 ^ k := by
  obtain ⟨n, rfl⟩ := Int.eq_ofNat_of_zero_le ha
  unfold o_shr o_2
  have e1 : Int32.ofInt (n : Int) = nI n := rfl
  have e2 : Int32.ofInt (k : Int) = nI k := rfl
  have hs : ∀ i, i < 32 → ((nI i &&& 31).toBitVec.smod 32).toNat = i := by decide +kernel
  dsimp only
  rw [e1, e2, pk_shrN (by omega) _ k (hs k hk), nI_toInt (Nat.lt_of_le_of_lt (Nat.div_le_self _ _) (by omega))]
  rw [Int.natCast_ediv]
  simp
theorem o_and1_nn {a : Int} (ha : 0 ≤ a) (ha2 : a ≤ 2147483647) : o_and a 1 = a % 2 := by
  obtain ⟨n, rfl⟩ := Int.eq_ofNat_of_zero_le ha
  unfold o_and o_2
  have e1 : Int32.ofInt (n : Int) = nI n := rfl
  have e2 : Int32.ofInt 1 = 1 := rfl
  dsimp only
  rw [e1, e2, pk_andN (by omega) 1 (by decide), nI_toInt (Nat.lt_of_le_of_lt (Nat.mod_le _ _) (by omega))]
  exact Int.natCast_emod n 2
theorem am_op_some {α β : Type} (a : α) (f : α → Option β) : am_op (some a) f = f a := rfl
theorem am_op_none {α β : Type} (f : α → Option β) : am_op none f = none := rfl
theorem am_lp_l {α β γ : Type} (a : α) (f : α → Option γ) (g : β → Option γ) : am_lp (.inl a) f g = f a := rfl
theorem am_lp_r {α β γ : Type} (b : β) (f : α → Option γ) (g : β → Option γ) : am_lp (.inr b) f g = g b := rfl
