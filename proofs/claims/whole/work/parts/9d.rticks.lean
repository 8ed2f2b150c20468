/-! The ticks: reference. -/
def uM (a b : Int) (z : am_M) : am_M := (am_up (am_up (am_up z 240 42 (w64 (a * (z 240 41)))) 240 43 (w64 ((w64 (-b)) * ((am_up z 240 42 (w64 (a * (z 240 41)))) 240 41)))) 240 44 (w32 ((o_l2i (w64 ((w64 (-b)) - a))) + 1)))
def uC (a b : Int) (z : am_M) : Int := o_cmp (w64 ((w64 ((w64 (-b)) - a)) + 1)) ((am_up (am_up z 240 42 (w64 (a * (z 240 41)))) 240 43 (w64 ((w64 (-b)) * ((am_up z 240 42 (w64 (a * (z 240 41)))) 240 41)))) 240 30)
def uV (l1 : Int) (n : Nat) (l3 a b : Int) (z : am_M) : Option ((Int × am_M) ⊕ (Int × Int × Int × am_M)) := (if 0 < uC a b z then (if l3 = 2 then (if l3 = 2 then (L207_7 240 n (w64 (l1 * 10)) 0 1 (uM a b z)) else (L207_7 240 n (w64 (l1 * 10)) (w32 (l3 + 1)) 1 (uM a b z))) else (if l3 = 2 then (L207_7 240 n l1 0 1 (uM a b z)) else (L207_7 240 n l1 (w32 (l3 + 1)) 1 (uM a b z)))) else (if l3 = 2 then (if l3 = 2 then (L207_7 240 n (w64 (l1 * 10)) 0 0 (uM a b z)) else (L207_7 240 n (w64 (l1 * 10)) (w32 (l3 + 1)) 0 (uM a b z))) else (if l3 = 2 then (L207_7 240 n l1 0 0 (uM a b z)) else (L207_7 240 n l1 (w32 (l3 + 1)) 0 (uM a b z)))))
def uT (l1 : Int) (n : Nat) (l3 f : Int) (μ : am_M) : Option ((Int × am_M) ⊕ (Int × Int × Int × am_M)) := (am_op (fn206 ((am_up μ 240 41 (w64 (l1 * f))) 240 39) (w64 (((am_up μ 240 41 (w64 (l1 * f))) 240 41) * 27720)) (am_up μ 240 41 (w64 (l1 * f)))) (fun y1 => (am_op (fn206 (w64 (-(y1.2 240 40))) (w64 ((y1.2 240 41) * 27720)) y1.2) (fun y2 => uV l1 n l3 y1.1 y2.1 y2.2))))
/-- step, first, last and how many -/
def RS (lo hi tk : Int) (μ : am_M) : Prop := μ 240 41 = st_v (sc_i lo hi tk) ∧ μ 240 42 = st_a lo (sc_i lo hi tk) * st_v (sc_i lo hi tk) ∧ μ 240 43 = st_b hi (sc_i lo hi tk) * st_v (sc_i lo hi tk) ∧ μ 240 44 = st_b hi (sc_i lo hi tk) - st_a lo (sc_i lo hi tk) + 1
def RSi (lo hi : Int) (i : Nat) (μ : am_M) : Prop := μ 240 41 = st_v i ∧ μ 240 42 = st_a lo i * st_v i ∧ μ 240 43 = st_b hi i * st_v i ∧ (st_b hi i - st_a lo i ≤ 100 → μ 240 44 = st_b hi i - st_a lo i + 1)
theorem uT_ok {lo hi tk : Int} (h1 : -5000000000000000 ≤ lo) (h2 : lo < hi) (h3 : hi ≤ 5000000000000000) (ht : 3 ≤ tk ∧ tk ≤ 9) {i N : Nat} (hi35 : i ≤ 35) {μ : am_M} (h39 : μ 240 39 = lo) (h40 : μ 240 40 = hi) (h30 : μ 240 30 = tk) {l3 : Int} (hl3 : l3 = ((i % 3 : Nat) : Int)) : ∃ μ' a, uT (pw (i / 3)) N l3 (st_c i) μ = L207_7 240 N a (((i + 1) % 3 : Nat) : Int) (if st_ok lo hi tk i = true then 0 else 1) μ' ∧ (i < 35 → a = pw ((i + 1) / 3)) ∧ RSi lo hi i μ' ∧ ∀ c t, ¬ (c = 240 ∧ 41 ≤ t ∧ t ≤ 44) → μ' c t = μ c t := by
  obtain ⟨p1, p2, p3, p4⟩ := st_pw i (by omega)
  have hs := st_rng i (by omega)
  obtain ⟨f1, f2, f3, f4, f5, f6, f7⟩ := st_fc h1 h2 h3 (i := i) (by omega)
  have ev : pw (i / 3) * st_c i = st_v i := by unfold st_v; exact Int.mul_comm _ _
  unfold uT
  rw [ev, w64_id (x := st_v i) (by omega) (by omega)]
  have g0 : ∀ c t, ¬ (c = 240 ∧ t = 41) → am_up μ 240 41 (st_v i) c t = μ c t := fun c t hc => up_ne hc
  have g2 : am_up μ 240 41 (st_v i) 240 41 = st_v i := am_up_at _ _ _ _
  generalize am_up μ 240 41 (st_v i) = μ1 at *
  have l0 : μ1 240 39 = lo := by rw [g0 _ _ (by omega)]; exact h39
  have l1 : μ1 240 40 = hi := by rw [g0 _ _ (by omega)]; exact h40
  have ea : lo / (st_v i * 27720) = st_a lo i := rfl
  have eb : (-hi) / (st_v i * 27720) = -(st_b hi i) := by unfold st_b; rw [Int.neg_neg]
  have hq : -500000000000000000 ≤ st_b hi i ∧ st_b hi i ≤ 500000000000000000 := by
    have := fl_abs (a := -hi) (b := st_v i * 27720) (B := 5000000000000000) (by omega) (by omega) (by omega) (by omega)
    unfold st_b; omega
  rw [g2, l0, w64_id (x := st_v i * 27720) (by omega) (by omega), fn206_ok (a := lo) (b := st_v i * 27720) ⟨by omega, by omega⟩ ⟨by omega, by omega⟩ (by omega), am_op_some]
  dsimp only
  rw [g2, l1, w64_id (x := st_v i * 27720) (by omega) (by omega), w64_id (x := -hi) (by omega) (by omega), fn206_ok (a := -hi) (b := st_v i * 27720) ⟨by omega, by omega⟩ ⟨by omega, by omega⟩ (by omega), am_op_some]
  dsimp only
  have g3 : ∀ v c t, ¬ (c = 240 ∧ t = 42) → am_up μ1 240 42 v c t = μ1 c t := fun v c t hc => up_ne hc
  have w1 : w64 (-(-(st_b hi i))) = st_b hi i := by rw [Int.neg_neg, w64_id (by omega) (by omega)]
  have w2 : w64 (st_a lo i * μ1 240 41) = st_a lo i * st_v i := by rw [g2, w64_id (by omega) (by omega)]
  have w3 : w64 (st_b hi i * μ1 240 41) = st_b hi i * st_v i := by rw [g2, w64_id (by omega) (by omega)]
  have w4 : w64 (st_b hi i - st_a lo i) = st_b hi i - st_a lo i := w64_id (by omega) (by omega)
  rw [ea, eb]
  have R : RSi lo hi i (uM (st_a lo i) (-(st_b hi i)) μ1) := by
    unfold uM
    refine ⟨?_, ?_, ?_, fun hle => ?_⟩
    · rw [up_ne (by omega), up_ne (by omega), up_ne (by omega)]; exact g2
    · rw [up_ne (by omega), up_ne (by omega), am_up_at, w2]
    · rw [up_ne (by omega), am_up_at, w1, g3 _ _ _ (by omega), w3]
    · rw [am_up_at, w1, w4, o_l2i_id (by omega) (by omega), w32_id (by omega) (by omega)]
  have F : ∀ c t, ¬ (c = 240 ∧ 41 ≤ t ∧ t ≤ 44) → uM (st_a lo i) (-(st_b hi i)) μ1 c t = μ c t := fun c t hc => by
    unfold uM
    rw [up_ne (by omega), up_ne (by omega), up_ne (by omega), g0 c t (by omega)]
  have hok : st_ok lo hi tk i = true ↔ ¬ (0 < uC (st_a lo i) (-(st_b hi i)) μ1) := by
    unfold st_ok uC
    rw [decide_eq_true_iff, o_cmp_gt, w1, w4, w64_id (x := st_b hi i - st_a lo i + 1) (by omega) (by omega), up_ne (by omega), up_ne (by omega), g0 _ _ (by omega), h30]; omega
  unfold uV
  by_cases c2 : l3 = 2
  · have e1 : (i + 1) % 3 = 0 := by omega
    have ep : i < 35 → w64 (pw (i / 3) * 10) = pw ((i + 1) / 3) := fun hlt => by
      obtain ⟨w1, w2, _, _⟩ := st_pw (i + 1) (by omega)
      rw [p4, if_pos (by omega)] at w1 ⊢
      rw [w64_id (by omega) (by omega)]
    rw [if_pos c2, if_pos c2, if_pos c2, if_pos c2, e1]
    by_cases c : 0 < uC (st_a lo i) (-(st_b hi i)) μ1
    · rw [if_pos c, if_neg (fun z => (hok.mp z) c)]
      exact ⟨_, _, rfl, ep, R, F⟩
    · rw [if_neg c, if_pos (hok.mpr c)]
      exact ⟨_, _, rfl, ep, R, F⟩
  · have e1 : w32 (l3 + 1) = (((i + 1) % 3 : Nat) : Int) := by rw [w32_id (by omega) (by omega)]; omega
    have ep : pw (i / 3) = pw ((i + 1) / 3) := by rw [p4, if_neg (by omega)]
    rw [if_neg c2, if_neg c2, if_neg c2, if_neg c2, e1]
    by_cases c : 0 < uC (st_a lo i) (-(st_b hi i)) μ1
    · rw [if_pos c, if_neg (fun z => (hok.mp z) c)]
      exact ⟨_, _, rfl, fun _ => ep, R, F⟩
    · rw [if_neg c, if_pos (hok.mpr c)]
      exact ⟨_, _, rfl, fun _ => ep, R, F⟩
theorem L207_ok {lo hi tk : Int} (h1 : -5000000000000000 ≤ lo) (h2 : lo < hi) (h3 : hi ≤ 5000000000000000) (ht : 3 ≤ tk ∧ tk ≤ 9) : ∀ (k N i : Nat) (μ : am_M) (l1 l3 : Int), k < N → i + k = 36 → i ≤ 35 → l1 = pw (i / 3) → l3 = ((i % 3 : Nat) : Int) → μ 240 39 = lo → μ 240 40 = hi → μ 240 30 = tk → ∃ a b c μ', L207_7 240 N l1 l3 1 μ = some (.inr (a, b, c, μ')) ∧ RSi lo hi (st_f (st_ok lo hi tk) k i) μ' ∧ ∀ c t, ¬ (c = 240 ∧ 41 ≤ t ∧ t ≤ 44) → μ' c t = μ c t
  | k, 0, _, _, _, _, hN, _, _, _, _, _, _, _ => absurd hN (by omega)
  | 0, N + 1, i, μ, _, _, hN, hk, hi35, _, _, _, _, _ => absurd hk (by omega)
  | k + 1, N + 1, i, μ, l1, l3, hN, hk, hi35, hl1, hl3, h39, h40, h30 => by
    obtain ⟨μ1, a, q1, q2, q3, q4⟩ := uT_ok h1 h2 h3 ht (N := N) hi35 h39 h40 h30 hl3
    have es : L207_7 240 (N + 1) l1 l3 1 μ = uT (pw (i / 3)) N l3 (st_c i) μ := by
      rw [L207_7, if_neg (by decide), hl1]
      unfold st_c
      by_cases c0 : i % 3 = 0
      · rw [if_pos (by omega), if_pos c0]; rfl
      · rw [if_neg (by omega), if_neg c0]
        by_cases c1 : i % 3 = 1
        · rw [if_pos (by omega), if_pos c1]; rfl
        · rw [if_neg (by omega), if_neg c1]; rfl
    rw [es, q1]
    unfold st_f
    by_cases hok : st_ok lo hi tk i = true
    · rw [if_pos hok, if_pos hok]
      cases N with
      | zero => omega
      | succ N =>
        rw [L207_7, if_pos rfl]
        exact ⟨_, _, _, _, rfl, q3, q4⟩
    · rw [if_neg hok, if_neg hok]
      have hi34 : i < 35 := by
        refine Nat.lt_of_not_le (fun hle => hok ?_)
        have : i = 35 := by omega
        rw [this]
        exact st_ok_35 (by omega) (by omega) (by omega) (by omega) (by omega)
      obtain ⟨b1, b2, b3, μ2, r1, r2, r3⟩ := L207_ok h1 h2 h3 ht k N (i + 1) μ1 a (((i + 1) % 3 : Nat) : Int) (by omega) (by omega) (by omega) (q2 hi34) rfl (by rw [q4 _ _ (by omega)]; exact h39) (by rw [q4 _ _ (by omega)]; exact h40) (by rw [q4 _ _ (by omega)]; exact h30)
      exact ⟨b1, b2, b3, μ2, r1, r2, fun c t hc => by rw [r3 c t hc, q4 c t hc]⟩
/-- facts of the step found -/
theorem sc_fc {lo hi tk : Int} (h1 : -5000000000000000 ≤ lo) (h2 : lo < hi) (h3 : hi ≤ 5000000000000000) (ht : 3 ≤ tk ∧ tk ≤ 9) : sc_i lo hi tk ≤ 35 ∧ st_b hi (sc_i lo hi tk) - st_a lo (sc_i lo hi tk) + 1 ≤ tk := by
  obtain ⟨a, _, c⟩ := st_f_ok (ok := st_ok lo hi tk) (st_ok_35 (by omega) (by omega) (by omega) (by omega) ht.1) 36 0 rfl (by omega)
  unfold st_ok at a
  rw [decide_eq_true_iff] at a
  exact ⟨c, a⟩
theorem fn207_ok {lo hi tk : Int} (h1 : -5000000000000000 ≤ lo) (h2 : lo < hi) (h3 : hi ≤ 5000000000000000) (ht : 3 ≤ tk ∧ tk ≤ 9) {μ : am_M} (h39 : μ 240 39 = lo) (h40 : μ 240 40 = hi) (h30 : μ 240 30 = tk) : ∃ μ', fn207 240 μ = some (0, μ') ∧ RS lo hi tk μ' ∧ ∀ c t, ¬ (c = 240 ∧ 41 ≤ t ∧ t ≤ 44) → μ' c t = μ c t := by
  obtain ⟨a, b, c, μ1, q1, q2, q3⟩ := L207_ok h1 h2 h3 ht 36 am_fuel 0 μ 1 0 (by unfold am_fuel; omega) rfl (by omega) (by decide) rfl h39 h40 h30
  have := sc_fc h1 h2 h3 ht
  unfold fn207
  rw [q1, am_op_some, am_lp_r]
  exact ⟨μ1, rfl, ⟨q2.1, q2.2.1, q2.2.2.1, q2.2.2.2 (by unfold sc_i at this; omega)⟩, q3⟩
