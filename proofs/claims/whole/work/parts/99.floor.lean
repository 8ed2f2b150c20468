/-! Division rounded down. -/
theorem o_xor_neg {a b : Int} (ha : am_inJ a) (hb : am_inJ b) : o_2l (fun x y => x ^^^ y) a b < 0 ↔ ¬ ((a < 0) ↔ (b < 0)) := by
  unfold o_2l
  have h1 : (Int64.ofInt a).toInt = a := am_j_of ha
  have h2 : (Int64.ofInt b).toInt = b := am_j_of hb
  generalize Int64.ofInt a = x at *
  generalize Int64.ofInt b = y at *
  have e1 : x.toBitVec.msb = decide (a < 0) := by rw [BitVec.msb_eq_toInt]; exact decide_eq_decide.mpr (by rw [← h1]; rfl)
  have e2 : y.toBitVec.msb = decide (b < 0) := by rw [BitVec.msb_eq_toInt]; exact decide_eq_decide.mpr (by rw [← h2]; rfl)
  have e3 : (x ^^^ y).toBitVec.msb = decide ((x ^^^ y).toInt < 0) := by rw [BitVec.msb_eq_toInt]; rfl
  have e4 : (x ^^^ y).toBitVec = x.toBitVec ^^^ y.toBitVec := Int64.toBitVec_xor x y
  rw [e4, BitVec.msb_xor, e1, e2] at e3
  show (x ^^^ y).toInt < 0 ↔ _
  by_cases p : a < 0 <;> by_cases q : b < 0 <;> by_cases r : (x ^^^ y).toInt < 0 <;> simp [p, q, r] at e3 ⊢
theorem fl_eq {a b k : Int} (hb : 0 < b) (h1 : k * b ≤ a) (h2 : a < (k + 1) * b) : a / b = k := by
  have l1 : k ≤ a / b := (Int.le_ediv_iff_mul_le hb).mpr h1
  have l2 : a / b < k + 1 := (Int.ediv_lt_iff_lt_mul hb).mpr h2
  omega
theorem td_neg {a b : Int} (ha : a < 0) (hb : 0 < b) : a ≤ a.tdiv b * b ∧ a.tdiv b * b < a + b ∧ a.tdiv b ≤ 0 ∧ a ≤ a.tdiv b := by
  have e : a.tdiv b = -((-a) / b) := by
    have : a.tdiv b = -((-a).tdiv b) := by rw [Int.neg_tdiv]; omega
    rw [this, Int.tdiv_eq_ediv_of_nonneg (by omega)]
  have h1 := Int.ediv_mul_le (-a) (show b ≠ 0 by omega)
  have h2 := Int.lt_ediv_add_one_mul_self (-a) hb
  have h3 : 0 ≤ (-a) / b := Int.ediv_nonneg (by omega) (by omega)
  have h4 : (-a) / b ≤ -a := Int.ediv_le_self b (by omega)
  rw [e, Int.neg_mul]
  rw [Int.add_mul] at h2
  omega
theorem fn112_ok {a b : Int} (ha : am_inJ a) (hb : am_inJ b) (hb0 : 0 < b) (μ : am_M) : fn112 a b μ = some (a / b, μ) := by
  have hd := o_divl_id ha hb hb0
  have hx := o_xor_neg ha hb
  unfold am_inJ at ha hb
  unfold fn112
  rw [if_neg (by omega), hd]
  by_cases h : a < 0
  · obtain ⟨t1, t2, t3, t4⟩ := td_neg h hb0
    rw [if_pos (by rw [o_cmp_lt, hx]; omega), w64_id (x := a.tdiv b * b) (by omega) (by omega)]
    by_cases e : a.tdiv b * b = a
    · rw [if_pos (o_cmp_eq.mpr e), fl_eq hb0 (k := a.tdiv b) (by omega) (by rw [Int.add_mul]; omega)]
    · have hne : a.tdiv b ≠ -9223372036854775808 := fun z => by
        rw [z] at t1 t2 e
        have : b = 1 := by
          rcases Int.lt_or_le 1 b with q | q
          · exfalso; omega
          · omega
        rw [this] at t2 e; omega
      rw [if_neg (fun z => e (o_cmp_eq.mp z)), w64_id (by omega) (by omega), fl_eq hb0 (k := a.tdiv b - 1) (by rw [Int.sub_mul]; omega) (by rw [Int.sub_add_cancel]; omega)]
  · rw [if_neg (by rw [o_cmp_lt, hx]; omega), Int.tdiv_eq_ediv_of_nonneg (by omega)]
theorem fn206_ok {a b : Int} (ha : am_inJ a) (hb : am_inJ b) (hb0 : 0 < b) (μ : am_M) : fn206 a b μ = some (a / b, μ) := by
  have hd := o_divl_id ha hb hb0
  unfold am_inJ at ha hb
  unfold fn206
  rw [if_neg (by omega), hd]
  by_cases h : a < 0
  · obtain ⟨t1, t2, t3, t4⟩ := td_neg h hb0
    rw [w64_id (x := a.tdiv b * b) (by omega) (by omega)]
    by_cases e : a.tdiv b * b = a
    · rw [if_neg (fun z => by have := o_cmp_gt.mp z; omega), fl_eq hb0 (k := a.tdiv b) (by omega) (by rw [Int.add_mul]; omega)]
    · have hne : a.tdiv b ≠ -9223372036854775808 := fun z => by
        rw [z] at t1 t2 e
        have : b = 1 := by
          rcases Int.lt_or_le 1 b with q | q
          · exfalso; omega
          · omega
        rw [this] at t2 e; omega
      rw [if_pos (o_cmp_gt.mpr (by omega)), w64_id (by omega) (by omega), fl_eq hb0 (k := a.tdiv b - 1) (by rw [Int.sub_mul]; omega) (by rw [Int.sub_add_cancel]; omega)]
  · have h0 : 0 ≤ a := by omega
    rw [Int.tdiv_eq_ediv_of_nonneg h0]
    have h1 := Int.ediv_mul_le a (show b ≠ 0 by omega)
    have h2 : 0 ≤ a / b := Int.ediv_nonneg h0 (by omega)
    have h3 : 0 ≤ a / b * b := Int.mul_nonneg h2 (by omega)
    rw [w64_id (by omega) (by omega), if_neg (fun z => by have := o_cmp_gt.mp z; omega)]
/-! The step of the ticks. -/
def st_c (i : Nat) : Int := if i % 3 = 0 then 1 else if i % 3 = 1 then 2 else 5
def st_v (i : Nat) : Int := st_c i * pw (i / 3)
theorem st_rng : ∀ i, i < 36 → 1 ≤ st_v i ∧ st_v i ≤ 500000000000 := by decide +kernel
theorem st_35 : st_v 35 = 500000000000 := by decide +kernel
def st_a (lo : Int) (i : Nat) : Int := lo / (st_v i * 27720)
def st_b (hi : Int) (i : Nat) : Int := -((-hi) / (st_v i * 27720))
def st_ok (lo hi tk : Int) (i : Nat) : Bool := decide (st_b hi i - st_a lo i + 1 ≤ tk)
def st_f (ok : Nat → Bool) : Nat → Nat → Nat
  | 0, i => i
  | k + 1, i => if ok i = true then i else st_f ok k (i + 1)
theorem fl_rng {a b : Int} (hb : 0 < b) : a / b * b ≤ a ∧ a < a / b * b + b := by
  have h1 := Int.ediv_mul_le a (show b ≠ 0 by omega)
  have h2 := Int.lt_ediv_add_one_mul_self a hb
  rw [Int.add_mul] at h2
  omega
theorem fl_abs {a b B : Int} (hb : 1 ≤ b) (h1 : -B ≤ a) (h2 : a ≤ B) (hB : 0 ≤ B) : -B - 1 ≤ a / b ∧ a / b ≤ B := by
  constructor
  · refine (Int.le_ediv_iff_mul_le (show 0 < b by omega)).mpr ?_
    have : (-B - 1) * b ≤ (-B - 1) * 1 := Int.mul_le_mul_of_nonpos_left (by omega) (by omega)
    omega
  · have : a / b < B + 1 := (Int.ediv_lt_iff_lt_mul (show 0 < b by omega)).mpr (by
      have : (B + 1) * 1 ≤ (B + 1) * b := Int.mul_le_mul_of_nonneg_left hb (by omega)
      omega)
    omega
theorem st_ok_35 {lo hi tk : Int} (h1 : -9000000000000000 ≤ lo) (h2 : lo ≤ 9000000000000000) (h3 : -9000000000000000 ≤ hi) (h4 : hi ≤ 9000000000000000) (ht : 3 ≤ tk) : st_ok lo hi tk 35 = true := by
  unfold st_ok st_a st_b
  rw [st_35]
  exact decide_eq_true (by omega)
