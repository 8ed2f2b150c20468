/-! Dates. -/
def sp_lp (y : Int) : Bool := decide (y % 4 = 0 ∧ (y % 100 ≠ 0 ∨ y % 400 = 0))
def sp_dy (y m : Int) : Int := if m = 2 then (if sp_lp y = true then 29 else 28) else if m = 4 ∨ m = 6 ∨ m = 9 ∨ m = 11 then 30 else 31
def sp_sh (g : Nat → Int) (n : Nat) : Prop := n = 10 ∧ sd g n 0 = 4 ∧ g 4 = 45 ∧ sd g n 5 = 2 ∧ g 7 = 45 ∧ sd g n 8 = 2
def sp_ok (y m d : Int) : Prop := 1 ≤ m ∧ m ≤ 12 ∧ 1 ≤ d ∧ d ≤ sp_dy y m
def sp_date (g : Nat → Int) (n : Nat) : Option Int :=
  if n = 10 ∧ sd g n 0 = 4 ∧ g 4 = 45 ∧ sd g n 5 = 2 ∧ g 7 = 45 ∧ sd g n 8 = 2 then
    (if 1 ≤ sd_v g 2 5 0 ∧ sd_v g 2 5 0 ≤ 12 ∧ 1 ≤ sd_v g 2 8 0 ∧ sd_v g 2 8 0 ≤ sp_dy (sd_v g 4 0 0) (sd_v g 2 5 0) then some (sd_v g 4 0 0 * 10000 + sd_v g 2 5 0 * 100 + sd_v g 2 8 0) else none)
  else none
theorem fn35_ok (μ : am_M) {y m : Int} (hy : 0 ≤ y) (hy2 : y ≤ 9999) (hm : 0 ≤ m) (hm2 : m ≤ 99) : fn35 y m μ = some (if 1 ≤ m ∧ m ≤ 12 then sp_dy y m else 0, μ) := by
  have cl : ((am_clen 0 : Nat) : Int) = 12 := by decide
  unfold fn35
  rw [cl, o_rem_nn hy (by omega) (by omega) (by omega), o_rem_nn hy (by omega) (by omega) (by omega), o_rem_nn hy (by omega) (by omega) (by omega)]
  by_cases h1 : m < 1
  · rw [if_pos h1, if_neg (by omega)]
  rw [if_neg h1]
  by_cases h2 : 12 < m
  · rw [if_pos h2, if_neg (by omega)]
  rw [if_neg h2, if_pos (show 1 ≤ m ∧ m ≤ 12 by omega), w32_id (by omega) (by omega)]
  have hlp : ∀ b : Bool, sp_lp y = b → (if b = true then (if (0 : Int) ≤ m - 1 ∧ m - 1 < 12 then (if m = 2 then some (w32 ((am_cst 0 (m - 1).toNat) + 1), μ) else some (w32 ((am_cst 0 (m - 1).toNat) + 0), μ)) else none) else (if (0 : Int) ≤ m - 1 ∧ m - 1 < 12 then (if m = 2 then some (w32 ((am_cst 0 (m - 1).toNat) + 0), μ) else some (w32 ((am_cst 0 (m - 1).toNat) + 0), μ)) else none)) = some (sp_dy y m, μ) := by
    intro b hb
    unfold sp_dy
    rw [hb]
    obtain rfl | rfl | rfl | rfl | rfl | rfl | rfl | rfl | rfl | rfl | rfl | rfl : m = 1 ∨ m = 2 ∨ m = 3 ∨ m = 4 ∨ m = 5 ∨ m = 6 ∨ m = 7 ∨ m = 8 ∨ m = 9 ∨ m = 10 ∨ m = 11 ∨ m = 12 := by omega
    all_goals (cases b <;> rfl)
  by_cases h4 : y % 4 = 0
  · rw [if_pos h4]
    by_cases h100 : y % 100 = 0
    · rw [if_pos h100]
      by_cases h400 : y % 400 = 0
      · rw [if_pos h400]
        exact hlp true (decide_eq_true ⟨h4, Or.inr h400⟩)
      · rw [if_neg h400]
        exact hlp false (decide_eq_false (fun z => by omega))
    · rw [if_neg h100]
      exact hlp true (decide_eq_true ⟨h4, Or.inl h100⟩)
  · rw [if_neg h4]
    exact hlp false (decide_eq_false (fun z => h4 z.1))
theorem fn178_ok (μ : am_M) {y m : Int} (hy : 0 ≤ y) (hy2 : y ≤ 9999) : fn178 y m μ = some (sp_dy y m, μ) := by
  unfold fn178
  rw [o_rem_nn hy (by omega) (by omega) (by omega), o_rem_nn hy (by omega) (by omega) (by omega), o_rem_nn hy (by omega) (by omega) (by omega)]
  have hlp : ∀ b : Bool, sp_lp y = b → (if m = 2 then some ((if b = true then 29 else 28 : Int), μ) else (if m = 4 then some (30, μ) else (if m = 6 then some (30, μ) else (if m = 9 then some (30, μ) else (if m = 11 then some (30, μ) else some (31, μ)))))) = some (sp_dy y m, μ) := by
    intro b hb
    unfold sp_dy
    rw [hb]
    repeat' split
    all_goals first | rfl | omega
  by_cases h4 : y % 4 = 0
  · rw [if_pos h4]
    by_cases h100 : y % 100 = 0
    · rw [if_pos h100]
      by_cases h400 : y % 400 = 0
      · rw [if_pos h400]
        exact hlp true (decide_eq_true ⟨h4, Or.inr h400⟩)
      · rw [if_neg h400]
        exact hlp false (decide_eq_false (fun z => by omega))
    · rw [if_neg h100]
      exact hlp true (decide_eq_true ⟨h4, Or.inl h100⟩)
  · rw [if_neg h4, if_neg (by omega)]
    exact hlp false (decide_eq_false (fun z => h4 z.1))
section DT
variable {o a cap : Nat} {μ : am_M} {l : List Int}
theorem L34_ok (hr : am_ref o 0 = a) (hc : am_len a = cap) (h : Lt μ o a cap l) (hR : Cr l) (a0 b0 : Int) {e : Nat} (he : w32 (a0 + b0) = (e : Nat)) (hem : e ≤ 1000) : ∀ (k N i c : Nat) (v x : Int), k < N → x = i → i + k = e → (∀ j, j < k → 48 ≤ gc l cap (i + j) ∧ gc l cap (i + j) ≤ 57) → 0 ≤ v → v < pw c → c + k ≤ 8 → ∃ x', L34_5 o a0 b0 N v x μ = some (.inr (sd_v (gc l cap) k i v, x', μ))
  | k, 0, _, _, _, _, hN, _, _, _, _, _, _ => absurd hN (by omega)
  | 0, N + 1, i, c, v, x, hN, hx, hk, _, _, _, _ => by
    rw [L34_5, if_neg (by rw [he]; omega)]
    exact ⟨x, rfl⟩
  | k + 1, N + 1, i, c, v, x, hN, hx, hk, hd, h0, h1, h8 => by
    subst hx
    have d := hd 0 (by omega)
    rw [Nat.add_zero] at d
    have p8 : ∀ x, x < 8 → 1 ≤ pw x ∧ pw x ≤ 10000000 := by decide
    have pz := p8 c (by omega)
    rw [L34_5, if_pos (by rw [he]; omega), fn30_at hr hc h hR i rfl, am_op_some]
    dsimp only
    rw [w32_id (x := v * 10) (by omega) (by omega), w32_id (x := gc l cap i - 48) (by omega) (by omega), w32_id (x := v * 10 + (gc l cap i - 48)) (by omega) (by omega), w32_id (by omega) (by omega)]
    exact L34_ok hr hc h hR a0 b0 he hem k N (i + 1) (c + 1) _ _ (by omega) (by omega) (by omega) (fun j hj => by rw [show i + 1 + j = i + (j + 1) by omega]; exact hd (j + 1) (by omega)) (by omega) (by rw [show pw (c + 1) = 10 * pw c from rfl]; omega) (by omega)
theorem fn34_ok (hr : am_ref o 0 = a) (hc : am_len a = cap) (h : Lt μ o a cap l) (hR : Cr l) (i k : Nat) {x y : Int} (hx : x = i) (hy : y = k) (hk : k ≤ 8) (hi : i ≤ 500) (hd : ∀ j, j < k → 48 ≤ gc l cap (i + j) ∧ gc l cap (i + j) ≤ 57) : fn34 o x y μ = some (sd_v (gc l cap) k i 0, μ) := by
  subst hx hy
  unfold fn34
  obtain ⟨x', q⟩ := L34_ok hr hc h hR (i : Int) (k : Int) (e := i + k) (by rw [w32_id (by omega) (by omega)]; omega) (by omega) k am_fuel i 0 0 (i : Int) (by unfold am_fuel; omega) rfl rfl hd (by omega) (by decide) (by omega)
  rw [q, am_op_some, am_lp_r]
theorem sp_rng {g : Nat → Int} {n i k : Nat} (h : sd g n i = k) : (∀ j, j < k → 48 ≤ g (i + j) ∧ g (i + j) ≤ 57) ∧ 0 ≤ sd_v g k i 0 ∧ sd_v g k i 0 < pw k := by
  have d := sd_dig g n n i (by omega)
  rw [h] at d
  have z := sd_v_rng g k i 0 0 d (by omega) (by decide)
  rw [Nat.zero_add] at z
  exact ⟨d, z⟩
/-- isDate -/
theorem fn36_ok (hr : am_ref o 0 = a) (hc : am_len a = cap) (h : Lt μ o a cap l) (hR : Cr l) (hl : l.length ≤ 1000) : fn36 o μ = some (bI (sp_date (gc l cap) l.length).isSome, μ) := by
  unfold fn36 sp_date
  by_cases h1 : l.length = 10
  · rw [if_pos (by rw [h.1]; omega), fn32_ok hr hc h hR hl 0 (x := 0) rfl (by omega), am_op_some]
    dsimp only
    by_cases h2 : sd (gc l cap) l.length 0 = 4
    · rw [if_pos (by omega), fn30_at hr hc h hR 4 (x := 4) rfl, am_op_some]
      dsimp only
      by_cases h3 : gc l cap 4 = 45
      · rw [if_pos h3, fn32_ok hr hc h hR hl 5 (x := 5) rfl (by omega), am_op_some]
        dsimp only
        by_cases h4 : sd (gc l cap) l.length 5 = 2
        · rw [if_pos (by omega), fn30_at hr hc h hR 7 (x := 7) rfl, am_op_some]
          dsimp only
          by_cases h5 : gc l cap 7 = 45
          · rw [if_pos h5, fn32_ok hr hc h hR hl 8 (x := 8) rfl (by omega), am_op_some]
            dsimp only
            by_cases h6 : sd (gc l cap) l.length 8 = 2
            · obtain ⟨y1, y2, y3⟩ := sp_rng h2
              obtain ⟨m1, m2, m3⟩ := sp_rng h4
              obtain ⟨d1, d2, d3⟩ := sp_rng h6
              rw [show pw 4 = 10000 from rfl] at y3
              rw [show pw 2 = 100 from rfl] at m3 d3
              have hs : l.length = 10 ∧ sd (gc l cap) l.length 0 = 4 ∧ gc l cap 4 = 45 ∧ sd (gc l cap) l.length 5 = 2 ∧ gc l cap 7 = 45 ∧ sd (gc l cap) l.length 8 = 2 := ⟨h1, h2, h3, h4, h5, h6⟩
              rw [if_pos (by omega), fn34_ok hr hc h hR 8 2 (x := 8) (y := 2) rfl rfl (by omega) (by omega) d1, am_op_some, if_pos hs]
              dsimp only
              by_cases h7 : sd_v (gc l cap) 2 8 0 < 1
              · rw [if_pos h7, if_neg (by omega)]; rfl
              · rw [if_neg h7, fn34_ok hr hc h hR 0 4 (x := 0) (y := 4) rfl rfl (by omega) (by omega) y1, am_op_some]
                dsimp only
                rw [fn34_ok hr hc h hR 5 2 (x := 5) (y := 2) rfl rfl (by omega) (by omega) m1, am_op_some]
                dsimp only
                rw [fn35_ok _ y2 (by omega) m2 (by omega), am_op_some]
                dsimp only
                by_cases h8 : 1 ≤ sd_v (gc l cap) 2 5 0 ∧ sd_v (gc l cap) 2 5 0 ≤ 12
                · rw [if_pos h8]
                  by_cases h9 : sp_dy (sd_v (gc l cap) 4 0 0) (sd_v (gc l cap) 2 5 0) < sd_v (gc l cap) 2 8 0
                  · rw [if_pos h9, if_neg (by omega)]; rfl
                  · rw [if_neg h9, if_pos (by omega)]; rfl
                · rw [if_neg h8, if_pos (by omega), if_neg (by omega)]; rfl
            · rw [if_neg (by omega), if_neg (fun z => h6 z.2.2.2.2.2)]; rfl
          · rw [if_neg h5, if_neg (fun z => h5 z.2.2.2.2.1)]; rfl
        · rw [if_neg (by omega), if_neg (fun z => h4 z.2.2.2.1)]; rfl
      · rw [if_neg h3, if_neg (fun z => h3 z.2.2.1)]; rfl
    · rw [if_neg (by omega), if_neg (fun z => h2 z.2.1)]; rfl
  · rw [if_neg (by rw [h.1]; omega), if_neg (fun z => h1 z.1)]; rfl
/-- day, of a date -/
theorem fn39_ok (hr : am_ref o 0 = a) (hc : am_len a = cap) (h : Lt μ o a cap l) (hR : Cr l) {v : Int} (hv : sp_date (gc l cap) l.length = some v) : fn39 o μ = some (v, μ) := by
  unfold sp_date at hv
  split at hv
  · rename_i hs
    obtain ⟨h1, h2, h3, h4, h5, h6⟩ := hs
    split at hv
    · cases hv
      obtain ⟨y1, y2, y3⟩ := sp_rng h2
      obtain ⟨m1, m2, m3⟩ := sp_rng h4
      obtain ⟨d1, d2, d3⟩ := sp_rng h6
      rw [show pw 4 = 10000 from rfl] at y3
      rw [show pw 2 = 100 from rfl] at m3 d3
      unfold fn39
      rw [fn34_ok hr hc h hR 0 4 (x := 0) (y := 4) rfl rfl (by omega) (by omega) y1, am_op_some]
      dsimp only
      rw [fn34_ok hr hc h hR 5 2 (x := 5) (y := 2) rfl rfl (by omega) (by omega) m1, am_op_some]
      dsimp only
      rw [fn34_ok hr hc h hR 8 2 (x := 8) (y := 2) rfl rfl (by omega) (by omega) d1, am_op_some]
      dsimp only
      generalize sd_v (gc l cap) 4 0 0 = y at *
      generalize sd_v (gc l cap) 2 5 0 = m at *
      generalize sd_v (gc l cap) 2 8 0 = d at *
      rw [w64_id (x := y * 10000) (by omega) (by omega), w64_id (x := m * 100) (by omega) (by omega), w64_id (x := y * 10000 + m * 100) (by omega) (by omega), w64_id (by omega) (by omega)]
    · cases hv
  · cases hv
end DT
/-! Dates: the reference. -/
theorem L177_ok {μ : am_M} {ind : Int} {p n : Nat} {g : Nat → Int} (h : Sp μ ind p n g) (l1 l2 : Int) {e : Nat} (he : w32 (l1 + l2) = ((p + e : Nat) : Int)) (hen : e ≤ n) : ∀ (k N i c : Nat) (v x : Int), k + 1 < N → x = ((p + i : Nat) : Int) → i + k = e → 0 ≤ v → v < pw c → c + k ≤ 8 →
    ∃ x', L177_6 240 l1 l2 ind N v x μ = some (.inr ((if ∀ j, j < k → 48 ≤ g (i + j) ∧ g (i + j) ≤ 57 then sd_v g k i v else -1), x', μ))
  | k, 0, _, _, _, _, hN, _, _, _, _, _ => absurd hN (by omega)
  | 0, N + 1, i, c, v, x, hN, hx, hk, _, _, _ => by
    rw [L177_6, if_neg (by rw [he]; omega), if_pos (fun j hj => by omega)]
    exact ⟨x, rfl⟩
  | k + 1, N + 1, i, c, v, x, hN, hx, hk, h0, h1, h8 => by
    have hle := h.le
    subst hx
    have p8 : ∀ x, x < 8 → 1 ≤ pw x ∧ pw x ≤ 10000000 := by decide
    have pz := p8 c (by omega)
    rw [L177_6, if_pos (by rw [he]; omega), if_neg (by omega), fn174_at h (i := i) (by omega) rfl, am_op_some, fn175_e, am_op_some]
    dsimp only
    by_cases hd : 48 ≤ g i ∧ g i ≤ 57
    · rw [if_pos hd, if_neg (by decide), w32_id (x := 10 * v) (by omega) (by omega), w32_id (x := 10 * v + g i) (by omega) (by omega), w32_id (x := 10 * v + g i - 48) (by omega) (by omega), w32_id (by omega) (by omega)]
      obtain ⟨x', q⟩ := L177_ok h l1 l2 he hen k N (i + 1) (c + 1) (10 * v + g i - 48) (((p + i : Nat) : Int) + 1) (by omega) (by omega) (by omega) (by omega) (by rw [show pw (c + 1) = 10 * pw c from rfl]; omega) (by omega)
      refine ⟨x', ?_⟩
      rw [q]
      congr 3
      by_cases ha : ∀ j, j < k + 1 → 48 ≤ g (i + j) ∧ g (i + j) ≤ 57
      · rw [if_pos ha, if_pos (fun j hj => by rw [show i + 1 + j = i + (j + 1) by omega]; exact ha (j + 1) (by omega)), show 10 * v + g i - 48 = v * 10 + (g i - 48) by omega]
        rfl
      · rw [if_neg ha, if_neg (fun z => ha (fun j hj => by
          cases j with
          | zero => exact hd
          | succ j => rw [show i + (j + 1) = i + 1 + j by omega]; exact z j (by omega)))]
    · rw [if_neg hd, if_pos rfl, w32_id (by omega) (by omega)]
      obtain ⟨N, rfl⟩ : ∃ N', N = N' + 1 := ⟨N - 1, by omega⟩
      rw [if_neg (fun z => hd (z 0 (by omega))), L177_6]
      by_cases hx : (((p + i : Nat) : Int) + 1) < w32 (l1 + l2)
      · rw [if_pos hx, if_pos (by decide)]
        exact ⟨_, rfl⟩
      · rw [if_neg hx]
        exact ⟨_, rfl⟩
theorem fn177_ok {μ : am_M} {ind : Int} {p n : Nat} {g : Nat → Int} (h : Sp μ ind p n g) (i k : Nat) (hk : k ≤ 8) (hik : i + k ≤ n) {x y : Int} (hx : x = ((p + i : Nat) : Int)) (hy : y = k) : fn177 240 x y ind μ = some ((if ∀ j, j < k → 48 ≤ g (i + j) ∧ g (i + j) ≤ 57 then sd_v g k i 0 else -1), μ) := by
  have hle := h.le
  subst hx hy
  unfold fn177
  obtain ⟨x', q⟩ := L177_ok h ((p + i : Nat) : Int) (k : Int) (e := i + k) (by rw [w32_id (by omega) (by omega)]; omega) hik k am_fuel i 0 0 ((p + i : Nat) : Int) (by unfold am_fuel; omega) rfl rfl (by omega) (by decide) (by omega)
  rw [q, am_op_some, am_lp_r]
theorem sd_is {g : Nat → Int} {n : Nat} : ∀ (k i : Nat), i + k ≤ n → (∀ j, j < k → 48 ≤ g (i + j) ∧ g (i + j) ≤ 57) → (i + k = n ∨ ¬ (48 ≤ g (i + k) ∧ g (i + k) ≤ 57)) → sd g n i = k
  | 0, i, h1, _, h3 => by
    rw [Nat.add_zero] at h3
    exact sd_no (by omega)
  | k + 1, i, h1, h2, h3 => by
    have d := h2 0 (by omega)
    rw [Nat.add_zero] at d
    rw [sd_yes (by omega) d.1 d.2, sd_is k (i + 1) (by omega) (fun j hj => by rw [show i + 1 + j = i + (j + 1) by omega]; exact h2 (j + 1) (by omega)) (by rw [show i + 1 + k = i + (k + 1) by omega]; exact h3)]
/-- dateAt -/
theorem fn179_ok {μ : am_M} {ind : Int} {p n : Nat} {g : Nat → Int} (h : Sp μ ind p n g) {a b : Int} (ha : a = p) (hb : b = n) : fn179 240 a b ind μ = some (sp_v (sp_date g n), μ) := by
  have hle := h.le
  subst ha hb
  unfold fn179 sp_date
  by_cases h1 : n = 10
  · subst h1
    rw [if_pos (by decide), w32_id (x := (p : Int) + 4) (by omega) (by omega), fn174_at h (i := 4) (by omega) (by omega), am_op_some]
    dsimp only
    by_cases h3 : g 4 = 45
    · rw [if_pos h3, w32_id (x := (p : Int) + 7) (by omega) (by omega), fn174_at h (i := 7) (by omega) (by omega), am_op_some]
      dsimp only
      by_cases h5 : g 7 = 45
      · rw [if_pos h5, fn177_ok h 0 4 (x := (p : Int)) (y := 4) (by omega) (by omega) (by omega) rfl, am_op_some]
        dsimp only
        rw [w32_id (x := (p : Int) + 5) (by omega) (by omega), fn177_ok h 5 2 (x := (p : Int) + 5) (y := 2) (by omega) (by omega) (by omega) rfl, am_op_some]
        dsimp only
        rw [w32_id (x := (p : Int) + 8) (by omega) (by omega), fn177_ok h 8 2 (x := (p : Int) + 8) (y := 2) (by omega) (by omega) (by omega) rfl, am_op_some]
        dsimp only
        by_cases q1 : ∀ j, j < 4 → 48 ≤ g (0 + j) ∧ g (0 + j) ≤ 57
        · have s1 : sd g 10 0 = 4 := sd_is 4 0 (by omega) q1 (Or.inr (by rw [show 0 + 4 = 4 from rfl, h3]; decide))
          by_cases q2 : ∀ j, j < 2 → 48 ≤ g (5 + j) ∧ g (5 + j) ≤ 57
          · have s2 : sd g 10 5 = 2 := sd_is 2 5 (by omega) q2 (Or.inr (by rw [show 5 + 2 = 7 from rfl, h5]; decide))
            by_cases q3 : ∀ j, j < 2 → 48 ≤ g (8 + j) ∧ g (8 + j) ≤ 57
            · have s3 : sd g 10 8 = 2 := sd_is 2 8 (by omega) q3 (Or.inl rfl)
              obtain ⟨-, y2, y3⟩ := sp_rng s1
              obtain ⟨-, m2, m3⟩ := sp_rng s2
              obtain ⟨-, d2, d3⟩ := sp_rng s3
              rw [show pw 4 = 10000 from rfl] at y3
              rw [show pw 2 = 100 from rfl] at m3 d3
              have hs : (10 : Nat) = 10 ∧ sd g 10 0 = 4 ∧ g 4 = 45 ∧ sd g 10 5 = 2 ∧ g 7 = 45 ∧ sd g 10 8 = 2 := ⟨rfl, s1, h3, s2, h5, s3⟩
              rw [if_pos q1, if_pos q2, if_pos q3, if_pos hs]
              rw [fn178_ok μ y2 (by omega)]
              generalize sd_v g 4 0 0 = y at *
              generalize sd_v g 2 5 0 = m at *
              generalize sd_v g 2 8 0 = d at *
              rw [if_neg (by omega)]
              by_cases k1 : m < 1
              · rw [if_pos k1, if_neg (by omega)]; rfl
              rw [if_neg k1]
              by_cases k2 : 12 < m
              · rw [if_pos k2, if_neg (by omega)]; rfl
              rw [if_neg k2]
              by_cases k3 : d < 1
              · rw [if_pos k3, if_neg (by omega)]; rfl
              rw [if_neg k3, am_op_some]
              dsimp only
              by_cases k4 : sp_dy y m < d
              · rw [if_pos k4, if_neg (by omega)]; rfl
              · rw [if_neg k4, if_pos (by omega), w64_id (x := 10000 * y) (by omega) (by omega), w64_id (x := 100 * m) (by omega) (by omega), w64_id (x := 10000 * y + 100 * m) (by omega) (by omega), w64_id (by omega) (by omega)]
                show some (10000 * y + 100 * m + d, μ) = some (y * 10000 + m * 100 + d, μ)
                rw [Int.mul_comm 10000 y, Int.mul_comm 100 m]
            · rw [if_neg q3, if_neg (show ¬ ((10 : Nat) = 10 ∧ sd g 10 0 = 4 ∧ g 4 = 45 ∧ sd g 10 5 = 2 ∧ g 7 = 45 ∧ sd g 10 8 = 2) from fun z => q3 (sp_rng z.2.2.2.2.2).1)]
              by_cases k0 : (if ∀ j, j < 4 → 48 ≤ g (0 + j) ∧ g (0 + j) ≤ 57 then sd_v g 4 0 0 else -1) < 0
              · rw [if_pos k0]; rfl
              rw [if_neg k0]
              by_cases k1 : (if ∀ j, j < 2 → 48 ≤ g (5 + j) ∧ g (5 + j) ≤ 57 then sd_v g 2 5 0 else -1) < 1
              · rw [if_pos k1]; rfl
              rw [if_neg k1]
              by_cases k2 : 12 < (if ∀ j, j < 2 → 48 ≤ g (5 + j) ∧ g (5 + j) ≤ 57 then sd_v g 2 5 0 else -1)
              · rw [if_pos k2]; rfl
              rw [if_neg k2, if_pos (by decide)]; rfl
          · rw [if_neg q2, if_neg (show ¬ ((10 : Nat) = 10 ∧ sd g 10 0 = 4 ∧ g 4 = 45 ∧ sd g 10 5 = 2 ∧ g 7 = 45 ∧ sd g 10 8 = 2) from fun z => q2 (sp_rng z.2.2.2.1).1)]
            by_cases k0 : (if ∀ j, j < 4 → 48 ≤ g (0 + j) ∧ g (0 + j) ≤ 57 then sd_v g 4 0 0 else -1) < 0
            · rw [if_pos k0]; rfl
            rw [if_neg k0, if_pos (by decide)]; rfl
        · rw [if_neg q1, if_neg (show ¬ ((10 : Nat) = 10 ∧ sd g 10 0 = 4 ∧ g 4 = 45 ∧ sd g 10 5 = 2 ∧ g 7 = 45 ∧ sd g 10 8 = 2) from fun z => q1 (sp_rng z.2.1).1), if_pos (by decide)]; rfl
      · rw [if_neg h5, if_neg (show ¬ ((10 : Nat) = 10 ∧ sd g 10 0 = 4 ∧ g 4 = 45 ∧ sd g 10 5 = 2 ∧ g 7 = 45 ∧ sd g 10 8 = 2) from fun z => h5 z.2.2.2.2.1)]; rfl
    · rw [if_neg h3, if_neg (show ¬ ((10 : Nat) = 10 ∧ sd g 10 0 = 4 ∧ g 4 = 45 ∧ sd g 10 5 = 2 ∧ g 7 = 45 ∧ sd g 10 8 = 2) from fun z => h3 z.2.2.1)]; rfl
  · rw [if_neg (by omega), if_neg (fun z => h1 z.1)]; rfl
theorem sp_date_gc (l : List Int) : sp_date (gc l 12) l.length = sp_date (fun i => l.getD i 0) l.length := by
  by_cases h : l.length = 10
  · have hg : ∀ i, i < l.length → gc l 12 i = (fun i => l.getD i 0) i := fun i hi => by unfold gc; rw [if_pos (by omega)]
    have hs : ∀ i, sd (gc l 12) l.length i = sd (fun i => l.getD i 0) l.length i := fun i => sd_congr hg _ i
    unfold sp_date
    rw [hs 0, hs 5, hs 8, hg 4 (by omega), hg 7 (by omega), sd_v_congr (g' := fun i => l.getD i 0) 4 0 0 (fun j hj => hg _ (by omega)), sd_v_congr (g' := fun i => l.getD i 0) 2 5 0 (fun j hj => hg _ (by omega)), sd_v_congr (g' := fun i => l.getD i 0) 2 8 0 (fun j hj => hg _ (by omega))]
  · unfold sp_date
    rw [if_neg (fun z => h z.1), if_neg (fun z => h z.1)]
