/-! data and text: eight characters in a long, counted and copied. -/
def am_by (w : Int) (k : Nat) : Int := o_and (o_l2i (o_ushrl w ((8 * k : Nat) : Int))) 255
def am_cb (w : Int) : Nat → Int
  | 0 => 0
  | k + 1 => (if am_by w k = 0 then 0 else 1) + am_cb w k
theorem am_cb_le (w : Int) : ∀ k : Nat, 0 ≤ am_cb w k ∧ am_cb w k ≤ k
  | 0 => ⟨Int.le_refl _, Int.le_refl _⟩
  | k + 1 => by
    have := am_cb_le w k
    unfold am_cb
    split <;> omega
theorem o_and255 (x : Int) : 0 ≤ o_and x 255 ∧ o_and x 255 ≤ 255 := by
  unfold o_and o_2
  dsimp only
  generalize Int32.ofInt x = a
  have h : (a &&& Int32.ofInt 255).toBitVec.toNat ≤ 255 := by
    show (a.toBitVec &&& 255#32).toNat ≤ 255
    rw [BitVec.toNat_and]
    exact Nat.and_le_right
  show 0 ≤ (a &&& Int32.ofInt 255).toBitVec.toInt ∧ (a &&& Int32.ofInt 255).toBitVec.toInt ≤ 255
  rw [BitVec.toInt_eq_toNat_of_lt (by omega)]
  omega
theorem am_by_rng (w : Int) (k : Nat) : 0 ≤ am_by w k ∧ am_by w k ≤ 255 := o_and255 _
theorem o_nc_by {B : Int} (h : 0 ≤ B) (h2 : B ≤ 255) : o_nar .char (o_i2c B) = B := by
  rw [o_i2c_id h (by omega), o_nc_id h (by omega)]
def am_pr (fl B : Int) : Bool := decide ((32 ≤ B ∧ B ≤ 126) ∨ (fl ≠ 0 ∧ (B = 10 ∨ B = 13)))
theorem fn1_pr (l0 : Nat) (B : Int) (μ : am_M) : fn1 l0 B μ = some (if am_pr (μ l0 1) B = true then 1 else 0, μ) := by
  by_cases p : (32 ≤ B ∧ B ≤ 126) ∨ (μ l0 1 ≠ 0 ∧ (B = 10 ∨ B = 13))
  · rw [if_pos (show am_pr (μ l0 1) B = true from decide_eq_true p)]
    unfold fn1
    repeat' split
    all_goals first | rfl | omega
  · rw [if_neg (show ¬ am_pr (μ l0 1) B = true from fun h => p (of_decide_eq_true h))]
    unfold fn1
    repeat' split
    all_goals first | rfl | omega
theorem L2_6_s {l0 n : Nat} {w l3 l4 B l3' l4' : Int} {μ : am_M} (h : 0 ≤ l4) (hB : o_and (o_l2i (o_ushrl w l4)) 255 = B) (h3 : w32 (l3 + 1) = l3') (h4 : w32 (l4 + (-8)) = l4') : L2_6 l0 w (n + 1) l3 l4 μ = if B = 0 then L2_6 l0 w n l3 l4' μ else if am_pr (μ l0 1) B = true then L2_6 l0 w n l3' l4' μ else some (.inl (0, μ)) := by
  rw [L2_6, if_neg (by omega), h3, h4]
  unfold fn0
  rw [am_op_some, hB]
  dsimp only
  by_cases z : B = 0
  · rw [if_pos z, if_pos z]
  · rw [if_neg z, if_neg z, fn1_pr, am_op_some]
    by_cases q : am_pr (μ l0 1) B = true
    · rw [if_pos q, if_pos q]; rfl
    · rw [if_neg q, if_neg q]; rfl
theorem L165_6_s {n : Nat} {w fl l3 l4 B l3' l4' : Int} {μ : am_M} (h : 0 ≤ l4) (hB : o_and (o_l2i (o_ushrl w l4)) 255 = B) (h3 : w32 (l3 + 1) = l3') (h4 : w32 (l4 + (-8)) = l4') : L165_6 w fl (n + 1) l3 l4 μ = if B = 0 then L165_6 w fl n l3 l4' μ else if am_pr fl B = true then L165_6 w fl n l3' l4' μ else some (.inl (-1, μ)) := by
  rw [L165_6, if_neg (by omega), h3, h4]
  unfold fn164 am_pr
  simp only [decide_eq_true_eq]
  rw [hB]
  dsimp only [am_op]
  by_cases z : B = 0
  · simp only [z, if_true]
  · simp only [if_neg z]
    repeat' split
    all_goals first | rfl | omega
theorem am_byL (w l4 : Int) (k : Nat) (e : l4 = 8 * (k : Int)) : o_and (o_l2i (o_ushrl w l4)) 255 = am_by w k := by
  unfold am_by
  rw [show l4 = ((8 * k : Nat) : Int) by omega]
theorem r_count (w fl : Int) (l0 : Nat) (μ ν : am_M) (hf : μ l0 1 = fl) : ∀ k : Nat, k ≤ 8 → ∀ n, k < n → ∀ l3 l4 : Int, 0 ≤ l3 → l3 + k ≤ 1000 → l4 = 8 * (k : Int) - 8 →
    (L2_6 l0 w n l3 l4 μ = some (.inl (0, μ)) ∧ L165_6 w fl n l3 l4 ν = some (.inl (-1, ν))) ∨ (L2_6 l0 w n l3 l4 μ = some (.inr (l3 + am_cb w k, -8, μ)) ∧ L165_6 w fl n l3 l4 ν = some (.inr (l3 + am_cb w k, -8, ν)))
  | 0, _, n, hn, l3, l4, _, _, e => by
    obtain ⟨m, rfl⟩ : ∃ m, n = m + 1 := ⟨n - 1, by omega⟩
    have e : l4 = -8 := by omega
    subst e
    right
    unfold am_cb
    rw [L2_6, L165_6, if_pos (by omega), if_pos (by omega), Int.add_zero]
    exact ⟨rfl, rfl⟩
  | k + 1, hk, n, hn, l3, l4, h1, h2, e => by
    obtain ⟨m, rfl⟩ : ∃ m, n = m + 1 := ⟨n - 1, by omega⟩
    have e8 : l4 = 8 * (k : Int) := by omega
    have hB := am_byL w l4 k e8
    have w4 : w32 (l4 + (-8)) = l4 + (-8) := w32_id (by omega) (by omega)
    have w3 : w32 (l3 + 1) = l3 + 1 := w32_id (by omega) (by omega)
    rw [L2_6_s (by omega) hB w3 w4, L165_6_s (by omega) hB w3 w4, hf]
    unfold am_cb
    by_cases z : am_by w k = 0
    · rw [if_pos z, if_pos z, if_pos z, Int.zero_add]
      exact r_count w fl l0 μ ν hf k (by omega) m (by omega) l3 _ h1 (by omega) (by omega)
    · rw [if_neg z, if_neg z, if_neg z]
      by_cases q : am_pr fl (am_by w k) = true
      · rw [if_pos q, if_pos q, ← Int.add_assoc]
        exact r_count w fl l0 μ ν hf k (by omega) m (by omega) (l3 + 1) _ (by omega) (by omega) (by omega)
      · rw [if_neg q, if_neg q]
        exact Or.inl ⟨rfl, rfl⟩
def am_kp (o s c : Nat) (w : Int) : Nat → am_M → am_M
  | 0, μ => μ
  | k + 1, μ => if am_by w k = 0 then am_kp o s c w k μ else am_kp o s c w k (am_up (am_up μ c (μ o s).toNat (am_by w k)) o s (μ o s + 1))
theorem am_up_at (μ : am_M) (o k : Nat) (x : Int) : am_up μ o k x o k = x := by simp [am_up]
theorem am_up_c (μ : am_M) {o k a b : Nat} (x : Int) (h : a ≠ o) : am_up μ o k x a b = μ a b := by simp [am_up, h]
theorem am_up_s (μ : am_M) {o k a b : Nat} (x : Int) (h : b ≠ k) : am_up μ o k x a b = μ a b := by simp [am_up, h]
theorem cp_fr (o s c : Nat) (w : Int) : ∀ (k : Nat) (μ : am_M) (x y : Nat), ¬ (x = o ∧ y = s) → x ≠ c → am_kp o s c w k μ x y = μ x y
  | 0, _, _, _, _, _ => rfl
  | k + 1, μ, x, y, h, hc => by
    unfold am_kp
    split
    · exact cp_fr o s c w k μ x y h hc
    · rw [cp_fr o s c w k _ x y h hc]
      by_cases e : x = o
      · rw [am_up_s _ _ (fun e2 => h ⟨e, e2⟩), am_up_c _ _ hc]
      · rw [am_up_c _ _ e, am_up_c _ _ hc]
theorem cp_len (o s c : Nat) (w : Int) (hoc : o ≠ c) : ∀ (k : Nat) (μ : am_M), am_kp o s c w k μ o s = μ o s + am_cb w k
  | 0, _ => by unfold am_kp am_cb; omega
  | k + 1, μ => by
    unfold am_kp am_cb
    split
    · rw [cp_len o s c w hoc k μ]; omega
    · rw [cp_len o s c w hoc k _, am_up_at]; omega
theorem cp_rel (o s c o' s' c' : Nat) (w : Int) (hoc : o ≠ c) (hoc' : o' ≠ c') : ∀ (k : Nat) (μ ν : am_M), μ o s = ν o' s' → 0 ≤ ν o' s' → (∀ i : Nat, (i : Int) < ν o' s' → μ c i = ν c' i) →
    ∀ i : Nat, (i : Int) < am_kp o' s' c' w k ν o' s' → am_kp o s c w k μ c i = am_kp o' s' c' w k ν c' i
  | 0, μ, ν, _, _, h, i, hi => h i hi
  | k + 1, μ, ν, e, h0, h, i, hi => by
    unfold am_kp at hi ⊢
    by_cases z : am_by w k = 0
    · rw [if_pos z] at hi ⊢
      rw [if_pos z]
      exact cp_rel o s c o' s' c' w hoc hoc' k μ ν e h0 h i hi
    · rw [if_neg z] at hi ⊢
      rw [if_neg z]
      refine cp_rel o s c o' s' c' w hoc hoc' k _ _ ?_ ?_ ?_ i hi
      · rw [am_up_at, am_up_at, e]
      · rw [am_up_at]; omega
      · intro j hj
        rw [am_up_at] at hj
        rw [am_up_c _ _ (Ne.symm hoc), am_up_c _ _ (Ne.symm hoc')]
        by_cases ej : j = (ν o' s').toNat
        · subst ej
          rw [e, am_up_at, am_up_at]
        · rw [e, am_up_s _ _ ej, am_up_s _ _ ej]
          exact h j (by omega)
theorem L2_64_c (o : Nat) (w : Int) {N : Nat} (hN : am_len (am_ref o 0) = N) (hb : N ≤ 1000) (hoc : o ≠ am_ref o 0) : ∀ k : Nat, k ≤ 8 → ∀ n, k < n → ∀ (l4 : Int) (μ : am_M), l4 = 8 * (k : Int) - 8 → 0 ≤ μ o 2 → μ o 2 + am_cb w k ≤ N → L2_64 o w n l4 μ = some (.inr (-8, am_kp o 2 (am_ref o 0) w k μ))
  | 0, _, n, hn, l4, μ, e, _, _ => by
    obtain ⟨m, rfl⟩ : ∃ m, n = m + 1 := ⟨n - 1, by omega⟩
    have e : l4 = -8 := by omega
    subst e
    rw [L2_64, if_pos (by omega)]
    rfl
  | k + 1, hk, n, hn, l4, μ, e, h0, h1 => by
    obtain ⟨m, rfl⟩ : ∃ m, n = m + 1 := ⟨n - 1, by omega⟩
    have e8 : l4 = 8 * (k : Int) := by omega
    have hB := am_byL w l4 k e8
    have w4 : w32 (l4 + (-8)) = l4 + (-8) := w32_id (by omega) (by omega)
    have hcb := am_cb_le w k
    obtain ⟨r1, r2⟩ := am_by_rng w k
    unfold am_cb at h1
    rw [L2_64, if_neg (by omega)]
    unfold fn0
    rw [am_op_some, hB, w4, hN]
    dsimp only
    unfold am_kp
    by_cases z : am_by w k = 0
    · rw [if_pos z, if_pos z]
      rw [if_pos z] at h1
      exact L2_64_c o w hN hb hoc k (by omega) m (by omega) _ μ (by omega) h0 (by omega)
    · rw [if_neg z, if_neg z]
      rw [if_neg z] at h1
      rw [if_pos (by omega), if_pos (by omega), o_nc_by r1 r2, am_up_c _ _ hoc, w32_id (by omega) (by omega)]
      refine L2_64_c o w hN hb hoc k (by omega) m (by omega) _ _ (by omega) ?_ ?_
      · rw [am_up_at]; omega
      · rw [am_up_at]; omega
theorem L166_33_c (o : Nat) (w : Int) {N : Nat} (hN : am_len (am_ref o 2) = N) (hb : N ≤ 1000) (hoc : o ≠ am_ref o 2) : ∀ k : Nat, k ≤ 8 → ∀ n, k < n → ∀ (l4 : Int) (μ : am_M), l4 = 8 * (k : Int) - 8 → 0 ≤ μ o 1 → μ o 1 + am_cb w k ≤ N → L166_33 o w n l4 μ = some (.inr (-8, am_kp o 1 (am_ref o 2) w k μ))
  | 0, _, n, hn, l4, μ, e, _, _ => by
    obtain ⟨m, rfl⟩ : ∃ m, n = m + 1 := ⟨n - 1, by omega⟩
    have e : l4 = -8 := by omega
    subst e
    rw [L166_33, if_pos (by omega)]
    rfl
  | k + 1, hk, n, hn, l4, μ, e, h0, h1 => by
    obtain ⟨m, rfl⟩ : ∃ m, n = m + 1 := ⟨n - 1, by omega⟩
    have e8 : l4 = 8 * (k : Int) := by omega
    have hB := am_byL w l4 k e8
    have w4 : w32 (l4 + (-8)) = l4 + (-8) := w32_id (by omega) (by omega)
    have hcb := am_cb_le w k
    obtain ⟨r1, r2⟩ := am_by_rng w k
    unfold am_cb at h1
    rw [L166_33, if_neg (by omega)]
    unfold fn164
    rw [am_op_some, hB, w4, hN]
    dsimp only
    unfold am_kp
    by_cases z : am_by w k = 0
    · rw [if_pos z, if_pos z]
      rw [if_pos z] at h1
      exact L166_33_c o w hN hb hoc k (by omega) m (by omega) _ μ (by omega) h0 (by omega)
    · rw [if_neg z, if_neg z, am_op_some]
      rw [if_neg z] at h1
      dsimp only
      rw [if_pos (by omega), o_nc_by r1 r2, am_up_c _ _ hoc, w32_id (by omega) (by omega)]
      refine L166_33_c o w hN hb hoc k (by omega) m (by omega) _ _ (by omega) ?_ ?_
      · rw [am_up_at]; omega
      · rw [am_up_at]; omega
theorem L167_33_c (o : Nat) (w : Int) {N : Nat} (hN : am_len (am_ref o 4) = N) (hb : N ≤ 1000) (hoc : o ≠ am_ref o 4) : ∀ k : Nat, k ≤ 8 → ∀ n, k < n → ∀ (l4 : Int) (μ : am_M), l4 = 8 * (k : Int) - 8 → 0 ≤ μ o 3 → μ o 3 + am_cb w k ≤ N → L167_33 o w n l4 μ = some (.inr (-8, am_kp o 3 (am_ref o 4) w k μ))
  | 0, _, n, hn, l4, μ, e, _, _ => by
    obtain ⟨m, rfl⟩ : ∃ m, n = m + 1 := ⟨n - 1, by omega⟩
    have e : l4 = -8 := by omega
    subst e
    rw [L167_33, if_pos (by omega)]
    rfl
  | k + 1, hk, n, hn, l4, μ, e, h0, h1 => by
    obtain ⟨m, rfl⟩ : ∃ m, n = m + 1 := ⟨n - 1, by omega⟩
    have e8 : l4 = 8 * (k : Int) := by omega
    have hB := am_byL w l4 k e8
    have w4 : w32 (l4 + (-8)) = l4 + (-8) := w32_id (by omega) (by omega)
    have hcb := am_cb_le w k
    obtain ⟨r1, r2⟩ := am_by_rng w k
    unfold am_cb at h1
    rw [L167_33, if_neg (by omega)]
    unfold fn164
    rw [am_op_some, hB, w4, hN]
    dsimp only
    unfold am_kp
    by_cases z : am_by w k = 0
    · rw [if_pos z, if_pos z]
      rw [if_pos z] at h1
      exact L167_33_c o w hN hb hoc k (by omega) m (by omega) _ μ (by omega) h0 (by omega)
    · rw [if_neg z, if_neg z, am_op_some]
      rw [if_neg z] at h1
      dsimp only
      rw [if_pos (by omega), o_nc_by r1 r2, am_up_c _ _ hoc, w32_id (by omega) (by omega)]
      refine L167_33_c o w hN hb hoc k (by omega) m (by omega) _ _ (by omega) ?_ ?_
      · rw [am_up_at]; omega
      · rw [am_up_at]; omega
theorem am_lens3 : am_len 2 = 400 ∧ am_len 4 = 160 ∧ am_len 241 = 400 ∧ am_len 242 = 160 := by decide +kernel
theorem r_data {μ : am_M} (h : am_R μ) (w : Int) : ∃ x μ1 μ2, fn3 0 w μ = some (x, μ1) ∧ fn166 240 w μ1 = some (x, μ2) ∧ am_R μ2 := by
  have h0 := h
  obtain ⟨⟨a1, a2, a3, a4⟩, ⟨b1, b2, b3, b4⟩, ⟨c1, c2⟩, d, e1, f⟩ := h
  have hcb := am_cb_le w 8
  have z3 : ∀ {x : Int} {ν : am_M}, fn2 1 w μ = some (x, ν) → (x = 0 ∨ x = 1) → fn3 0 w μ = some (x, ν) := by
    intro x ν e hx
    unfold fn3
    rw [am_refs.1, e, am_op_some]
    exact if_pos hx
  rcases r_count w 1 1 μ (am_up μ 240 0 0) c1 8 (by omega) am_fuel (Nat.le_of_ble_eq_true rfl) 0 56 (by omega) (by omega) (by omega) with ⟨p1, p2⟩ | ⟨p1, p2⟩
  · refine ⟨0, μ, am_up μ 240 0 0, z3 ?_ (Or.inl rfl), ?_, h0.zero⟩
    · unfold fn2
      rw [p1]
      rfl
    · unfold fn166 fn165
      rw [p2]
      rfl
  · rw [Int.zero_add] at p1 p2
    by_cases hf : 400 < μ 1 2 + am_cb w 8
    · refine ⟨0, μ, am_up μ 240 0 0, z3 ?_ (Or.inl rfl), ?_, h0.zero⟩
      · unfold fn2
        rw [p1, am_op_some, am_lp_r, am_refs.2.2.2.2.2.2.2.2.2.1, am_lens3.1]
        dsimp only
        rw [w32_id (by omega) (by omega)]
        exact if_pos hf
      · unfold fn166 fn165
        rw [p2, am_op_some, am_lp_r, am_op_some]
        dsimp only
        have e : (am_up μ 240 0 0) 240 1 = μ 240 1 := rfl
        rw [if_neg (by omega)]
        exact if_pos (by rw [e, w32_id (by omega) (by omega)]; omega)
    · have q1 := L2_64_c 1 w (N := 400) (by rw [am_refs.2.2.2.2.2.2.2.2.2.1, am_lens3.1]) (by omega) (by rw [am_refs.2.2.2.2.2.2.2.2.2.1]; decide) 8 (by omega) am_fuel (Nat.le_of_ble_eq_true rfl) 56 μ (by omega) (by omega) (by omega)
      rw [am_refs.2.2.2.2.2.2.2.2.2.1] at q1
      have F : ∀ x y, ¬ (x = 1 ∧ y = 2) → x ≠ 2 → am_kp 1 2 2 w 8 μ x y = μ x y := fun x y => cp_fr 1 2 2 w 8 μ x y
      have L1 : am_kp 1 2 2 w 8 μ 1 2 = μ 1 2 + am_cb w 8 := cp_len 1 2 2 w (by decide) 8 μ
      have RL := cp_rel 1 2 2 240 1 241 w (by decide) (by decide) 8 μ (am_up (am_kp 1 2 2 w 8 μ) 240 0 0)
      generalize hμ1 : am_kp 1 2 2 w 8 μ = μ1 at q1 F L1 RL
      have E1 : (am_up μ1 240 0 0) 240 1 = μ 240 1 := by rw [am_up_s _ _ (by decide), F 240 1 (by decide) (by decide)]
      rcases r_count w 1 1 μ (am_up μ1 240 0 0) c1 8 (by omega) am_fuel (Nat.le_of_ble_eq_true rfl) 0 56 (by omega) (by omega) (by omega) with ⟨p3, p4⟩ | ⟨p3, p4⟩
      · rw [p1] at p3; cases p3
      · rw [Int.zero_add] at p4
        have q2 := L166_33_c 240 w (N := 400) (by rw [am_refs.2.2.2.2.2.2.2.2.2.2.2.1, am_lens3.2.2.1]) (by omega) (by rw [am_refs.2.2.2.2.2.2.2.2.2.2.2.1]; decide) 8 (by omega) am_fuel (Nat.le_of_ble_eq_true rfl) 56 (am_up μ1 240 0 0) (by omega) (by rw [E1]; omega) (by rw [E1]; omega)
        rw [am_refs.2.2.2.2.2.2.2.2.2.2.2.1] at q2
        have F2 : ∀ x y, ¬ (x = 240 ∧ y = 1) → x ≠ 241 → am_kp 240 1 241 w 8 (am_up μ1 240 0 0) x y = (am_up μ1 240 0 0) x y := fun x y => cp_fr 240 1 241 w 8 _ x y
        have L2 : am_kp 240 1 241 w 8 (am_up μ1 240 0 0) 240 1 = (am_up μ1 240 0 0) 240 1 + am_cb w 8 := cp_len 240 1 241 w (by decide) 8 _
        generalize hμ2 : am_kp 240 1 241 w 8 (am_up μ1 240 0 0) = μ2 at q2 F2 L2 RL
        rw [E1] at L2 RL
        have G : ∀ x y, ((x ≠ 1 ∨ y ≠ 2) ∧ x ≠ 2 ∧ x ≠ 241 ∧ (x ≠ 240 ∨ (y ≠ 0 ∧ y ≠ 1))) → μ2 x y = μ x y := by
          intro x y hc
          rw [F2 x y (by omega) (by omega)]
          by_cases hx : x = 240
          · rw [am_up_s _ _ (by omega), F x y (by omega) (by omega)]
          · rw [am_up_c _ _ hx, F x y (by omega) (by omega)]
        have G1 : ∀ x y, x ≠ 240 → x ≠ 241 → μ2 x y = μ1 x y := fun x y h1 h2 => by rw [F2 x y (by omega) h2, am_up_c _ _ h1]
        refine ⟨1, μ1, μ2, z3 ?_ (Or.inr rfl), ?_, ?_⟩
        · unfold fn2
          rw [p1, am_op_some, am_lp_r, am_refs.2.2.2.2.2.2.2.2.2.1, am_lens3.1]
          dsimp only
          rw [if_neg (by rw [w32_id (by omega) (by omega)]; exact hf), q1]
          rfl
        · unfold fn166 fn165
          rw [p4, am_op_some, am_lp_r, am_op_some]
          dsimp only
          rw [if_neg (by omega), if_neg (by rw [E1, w32_id (by omega) (by omega)]; omega), q2]
          rfl
        · have g : ∀ x y, ((x ≠ 1 ∨ y ≠ 2) ∧ x ≠ 2 ∧ x ≠ 241 ∧ (x ≠ 240 ∨ (y ≠ 0 ∧ y ≠ 1))) → μ2 x y = μ x y := G
          have RL2 := RL a1 a2 (fun i hi => by rw [am_up_c _ _ (by decide), F 241 i (by omega) (by decide)]; exact a4 i hi)
          refine ⟨⟨?_, ?_, ?_, ?_⟩, ⟨?_, ?_, ?_, ?_⟩, ⟨?_, ?_⟩, ?_, ?_, ?_⟩
          · rw [G1 1 2 (by decide) (by decide), L1, L2]; omega
          · rw [L2]; omega
          · rw [L2]; omega
          · intro i hi
            rw [G1 2 i (by decide) (by decide)]
            exact RL2 i hi
          · rw [g 3 2 (by omega), g 240 3 (by omega)]; exact b1
          · rw [g 240 3 (by omega)]; exact b2
          · rw [g 240 3 (by omega)]; exact b3
          · intro i hi
            rw [g 240 3 (by omega)] at hi
            rw [g 4 i (by omega), g 242 i (by omega)]
            exact b4 i hi
          · rw [g 1 1 (by omega)]; exact c1
          · rw [g 3 1 (by omega), g 183 1 (by omega)]; exact c2
          · rw [g 234 1 (by omega), g 234 2 (by omega), g 240 5 (by omega), g 240 6 (by omega)]; exact d
          · rw [g 0 11 (by omega), g 240 49 (by omega)]; exact e1
          · intro hd
            rw [g 240 49 (by omega)] at hd
            obtain ⟨f1, f2, f3, f4, f5⟩ := f hd
            refine ⟨fun x y hx hy => ?_, fun i hi => ?_, ?_, ?_, fun i hi => ?_⟩
            · rw [g 240 5 (by omega)] at hx
              rw [g 240 6 (by omega)] at hy
              rw [g 235 _ (by omega), g 259 _ (by omega)]
              exact f1 x y hx hy
            · rw [g 238 i (by omega), g 260 i (by omega)]; exact f2 i hi
            · rw [g 238 0 (by omega), g 240 52 (by omega)]; exact f3
            · rw [g 240 52 (by omega)]; exact f4
            · rw [g 240 52 (by omega)] at hi
              rw [g 239 i (by omega), g 261 i (by omega)]; exact f5 i hi
theorem r_text {μ : am_M} (h : am_R μ) (w : Int) : ∃ x μ1 μ2, fn4 0 w μ = some (x, μ1) ∧ fn167 240 w μ1 = some (x, μ2) ∧ am_R μ2 := by
  have h0 := h
  obtain ⟨⟨a1, a2, a3, a4⟩, ⟨b1, b2, b3, b4⟩, ⟨c1, c2⟩, d, e1, f⟩ := h
  have hcb := am_cb_le w 8
  have z3 : ∀ {x : Int} {ν : am_M}, fn2 3 w μ = some (x, ν) → (x = 0 ∨ x = 1) → fn4 0 w μ = some (x, ν) := by
    intro x ν e hx
    unfold fn4
    rw [am_refs.2.1, e, am_op_some]
    exact if_pos hx
  rcases r_count w 0 3 μ (am_up μ 240 0 0) c2.1 8 (by omega) am_fuel (Nat.le_of_ble_eq_true rfl) 0 56 (by omega) (by omega) (by omega) with ⟨p1, p2⟩ | ⟨p1, p2⟩
  · refine ⟨0, μ, am_up μ 240 0 0, z3 ?_ (Or.inl rfl), ?_, h0.zero⟩
    · unfold fn2
      rw [p1]
      rfl
    · unfold fn167 fn165
      rw [p2]
      rfl
  · rw [Int.zero_add] at p1 p2
    by_cases hf : 160 < μ 3 2 + am_cb w 8
    · refine ⟨0, μ, am_up μ 240 0 0, z3 ?_ (Or.inl rfl), ?_, h0.zero⟩
      · unfold fn2
        rw [p1, am_op_some, am_lp_r, am_refs.2.2.2.2.2.2.2.2.2.2.1, am_lens3.2.1]
        dsimp only
        rw [w32_id (by omega) (by omega)]
        exact if_pos hf
      · unfold fn167 fn165
        rw [p2, am_op_some, am_lp_r, am_op_some]
        dsimp only
        have e : (am_up μ 240 0 0) 240 3 = μ 240 3 := rfl
        rw [if_neg (by omega)]
        exact if_pos (by rw [e, w32_id (by omega) (by omega)]; omega)
    · have q1 := L2_64_c 3 w (N := 160) (by rw [am_refs.2.2.2.2.2.2.2.2.2.2.1, am_lens3.2.1]) (by omega) (by rw [am_refs.2.2.2.2.2.2.2.2.2.2.1]; decide) 8 (by omega) am_fuel (Nat.le_of_ble_eq_true rfl) 56 μ (by omega) (by omega) (by omega)
      rw [am_refs.2.2.2.2.2.2.2.2.2.2.1] at q1
      have F : ∀ x y, ¬ (x = 3 ∧ y = 2) → x ≠ 4 → am_kp 3 2 4 w 8 μ x y = μ x y := fun x y => cp_fr 3 2 4 w 8 μ x y
      have L1 : am_kp 3 2 4 w 8 μ 3 2 = μ 3 2 + am_cb w 8 := cp_len 3 2 4 w (by decide) 8 μ
      have RL := cp_rel 3 2 4 240 3 242 w (by decide) (by decide) 8 μ (am_up (am_kp 3 2 4 w 8 μ) 240 0 0)
      generalize hμ1 : am_kp 3 2 4 w 8 μ = μ1 at q1 F L1 RL
      have E1 : (am_up μ1 240 0 0) 240 3 = μ 240 3 := by rw [am_up_s _ _ (by decide), F 240 3 (by decide) (by decide)]
      rcases r_count w 0 3 μ (am_up μ1 240 0 0) c2.1 8 (by omega) am_fuel (Nat.le_of_ble_eq_true rfl) 0 56 (by omega) (by omega) (by omega) with ⟨p3, p4⟩ | ⟨p3, p4⟩
      · rw [p1] at p3; cases p3
      · rw [Int.zero_add] at p4
        have q2 := L167_33_c 240 w (N := 160) (by rw [am_refs.2.2.2.2.2.2.2.2.2.2.2.2, am_lens3.2.2.2]) (by omega) (by rw [am_refs.2.2.2.2.2.2.2.2.2.2.2.2]; decide) 8 (by omega) am_fuel (Nat.le_of_ble_eq_true rfl) 56 (am_up μ1 240 0 0) (by omega) (by rw [E1]; omega) (by rw [E1]; omega)
        rw [am_refs.2.2.2.2.2.2.2.2.2.2.2.2] at q2
        have F2 : ∀ x y, ¬ (x = 240 ∧ y = 3) → x ≠ 242 → am_kp 240 3 242 w 8 (am_up μ1 240 0 0) x y = (am_up μ1 240 0 0) x y := fun x y => cp_fr 240 3 242 w 8 _ x y
        have L2 : am_kp 240 3 242 w 8 (am_up μ1 240 0 0) 240 3 = (am_up μ1 240 0 0) 240 3 + am_cb w 8 := cp_len 240 3 242 w (by decide) 8 _
        generalize hμ2 : am_kp 240 3 242 w 8 (am_up μ1 240 0 0) = μ2 at q2 F2 L2 RL
        rw [E1] at L2 RL
        have G : ∀ x y, ((x ≠ 3 ∨ y ≠ 2) ∧ x ≠ 4 ∧ x ≠ 242 ∧ (x ≠ 240 ∨ (y ≠ 0 ∧ y ≠ 3))) → μ2 x y = μ x y := by
          intro x y hc
          rw [F2 x y (by omega) (by omega)]
          by_cases hx : x = 240
          · rw [am_up_s _ _ (by omega), F x y (by omega) (by omega)]
          · rw [am_up_c _ _ hx, F x y (by omega) (by omega)]
        have G1 : ∀ x y, x ≠ 240 → x ≠ 242 → μ2 x y = μ1 x y := fun x y h1 h2 => by rw [F2 x y (by omega) h2, am_up_c _ _ h1]
        refine ⟨1, μ1, μ2, z3 ?_ (Or.inr rfl), ?_, ?_⟩
        · unfold fn2
          rw [p1, am_op_some, am_lp_r, am_refs.2.2.2.2.2.2.2.2.2.2.1, am_lens3.2.1]
          dsimp only
          rw [if_neg (by rw [w32_id (by omega) (by omega)]; exact hf), q1]
          rfl
        · unfold fn167 fn165
          rw [p4, am_op_some, am_lp_r, am_op_some]
          dsimp only
          rw [if_neg (by omega), if_neg (by rw [E1, w32_id (by omega) (by omega)]; omega), q2]
          rfl
        · have g : ∀ x y, ((x ≠ 3 ∨ y ≠ 2) ∧ x ≠ 4 ∧ x ≠ 242 ∧ (x ≠ 240 ∨ (y ≠ 0 ∧ y ≠ 3))) → μ2 x y = μ x y := G
          have RL2 := RL b1 b2 (fun i hi => by rw [am_up_c _ _ (by decide), F 242 i (by omega) (by decide)]; exact b4 i hi)
          refine ⟨⟨?_, ?_, ?_, ?_⟩, ⟨?_, ?_, ?_, ?_⟩, ⟨?_, ?_⟩, ?_, ?_, ?_⟩
          · rw [g 1 2 (by omega), g 240 1 (by omega)]; exact a1
          · rw [g 240 1 (by omega)]; exact a2
          · rw [g 240 1 (by omega)]; exact a3
          · intro i hi
            rw [g 240 1 (by omega)] at hi
            rw [g 2 i (by omega), g 241 i (by omega)]
            exact a4 i hi
          · rw [G1 3 2 (by decide) (by decide), L1, L2]; omega
          · rw [L2]; omega
          · rw [L2]; omega
          · intro i hi
            rw [G1 4 i (by decide) (by decide)]
            exact RL2 i hi
          · rw [g 1 1 (by omega)]; exact c1
          · rw [g 3 1 (by omega), g 183 1 (by omega)]; exact c2
          · rw [g 234 1 (by omega), g 234 2 (by omega), g 240 5 (by omega), g 240 6 (by omega)]; exact d
          · rw [g 0 11 (by omega), g 240 49 (by omega)]; exact e1
          · intro hd
            rw [g 240 49 (by omega)] at hd
            obtain ⟨f1, f2, f3, f4, f5⟩ := f hd
            refine ⟨fun x y hx hy => ?_, fun i hi => ?_, ?_, ?_, fun i hi => ?_⟩
            · rw [g 240 5 (by omega)] at hx
              rw [g 240 6 (by omega)] at hy
              rw [g 235 _ (by omega), g 259 _ (by omega)]
              exact f1 x y hx hy
            · rw [g 238 i (by omega), g 260 i (by omega)]; exact f2 i hi
            · rw [g 238 0 (by omega), g 240 52 (by omega)]; exact f3
            · rw [g 240 52 (by omega)]; exact f4
            · rw [g 240 52 (by omega)] at hi
              rw [g 239 i (by omega), g 261 i (by omega)]; exact f5 i hi
