/-! The scale in numbers: step, first, last, how many. -/
def SN (st fi la : Int) (n : Nat) (lo hi : Int) : Prop := (1 ≤ st ∧ st ≤ 500000000000) ∧ (2 ≤ n ∧ n ≤ 9) ∧ la - fi = ((n : Int) - 1) * st ∧ (-1000000000000 ≤ fi ∧ la ≤ 1000000000000) ∧ (fi * 27720 ≤ lo ∧ hi ≤ la * 27720) ∧ (1 ≤ la - fi ∧ (la - fi) * 27720 ≤ 40000000000000000)
theorem sc_SN {lo hi tk : Int} (h1 : -5000000000000000 ≤ lo) (h2 : lo < hi) (h3 : hi ≤ 5000000000000000) (ht : 3 ≤ tk ∧ tk ≤ 9) : SN (st_v (sc_i lo hi tk)) (st_a lo (sc_i lo hi tk) * st_v (sc_i lo hi tk)) (st_b hi (sc_i lo hi tk) * st_v (sc_i lo hi tk)) (st_b hi (sc_i lo hi tk) - st_a lo (sc_i lo hi tk) + 1).toNat lo hi := by
  obtain ⟨a, b⟩ := sc_fc h1 h2 h3 ht
  have hs := st_rng (sc_i lo hi tk) (by omega)
  obtain ⟨f1, f2, f3, f4, f5, f6, f7⟩ := st_fc h1 h2 h3 (i := sc_i lo hi tk) (by omega)
  generalize sc_i lo hi tk = i at *
  refine ⟨hs, by omega, ?_, by omega, ⟨f1, f3⟩, ?_, by omega⟩
  · rw [f5]; congr 1; omega
  · rw [f5]
    have := Int.mul_le_mul_of_nonneg_right f6 (show 0 ≤ st_v i by omega)
    omega
section ST
variable {st fi la lo hi : Int} {n : Nat}
def tv (st fi : Int) (k : Nat) : Int := fi + (k : Int) * st
theorem tv_rng (h : SN st fi la n lo hi) {k : Nat} (hk : k < n) : fi ≤ tv st fi k ∧ tv st fi k ≤ la ∧ 0 ≤ (k : Int) * st := by
  obtain ⟨a, b, c, d, e, f, g⟩ := h
  have h1 := Int.mul_le_mul_of_nonneg_right (show (0 : Int) ≤ k by omega) (show 0 ≤ st by omega)
  have h2 := Int.mul_le_mul_of_nonneg_right (show (k : Int) ≤ (n : Int) - 1 by omega) (show 0 ≤ st by omega)
  unfold tv
  omega
/-- class -/
def C3 (st fi la : Int) (μ : am_M) : Prop := μ 230 2 = st ∧ μ 230 3 = fi ∧ μ 230 4 = la
theorem C3.fr {μ μ' : am_M} (h : C3 st fi la μ) (g : ∀ t, μ' 230 t = μ 230 t) : C3 st fi la μ' := by unfold C3; rw [g, g, g]; exact h
theorem fn115_ok (h : SN st fi la n lo hi) {μ : am_M} (hc : C3 st fi la μ) : fn115 230 μ = some ((n : Int), μ) := by
  obtain ⟨a, b, c, d, e, f, g⟩ := h
  obtain ⟨c2, c3, c4⟩ := hc
  unfold fn115
  have e1 : o_divl (w64 (μ 230 4 - μ 230 3)) (μ 230 2) = (n : Int) - 1 := by
    rw [c2, c3, c4, w64_id (by omega) (by omega), o_divl_nn (by omega) (by omega) (by omega) (by omega), c, Int.mul_ediv_cancel _ (by omega)]
  rw [if_pos (by rw [c2]; exact o_cmp_gt.mpr (by omega)), if_neg (by rw [c2]; omega), e1, o_l2i_id (by omega) (by omega), w32_id (by omega) (by omega)]
  congr 2
  omega
theorem fn116_ok (h : SN st fi la n lo hi) {μ : am_M} (hc : C3 st fi la μ) {k : Nat} (hk : k < n) {x : Int} (hx : x = k) : fn116 230 x μ = some (tv st fi k, μ) := by
  have r := tv_rng h hk
  obtain ⟨a, b, c, d, e, f, g⟩ := h
  obtain ⟨c2, c3, c4⟩ := hc
  unfold fn116
  rw [c2, c3, hx, w64_id (x := (k : Int) * st) (by unfold tv at r; omega) (by unfold tv at r; omega)]
  rw [w64_id (by unfold tv at r; omega) (by unfold tv at r; omega)]
  rfl
/-- the longest label of the first k -/
def mxl (st fi : Int) : Nat → Int
  | 0 => 0
  | k + 1 => max (mxl st fi k) (((n_l (tv st fi k)).length : Nat) : Int)
theorem mxl_rng (st fi : Int) : ∀ k, 0 ≤ mxl st fi k ∧ mxl st fi k ≤ 18 ∧ (1 ≤ k → 1 ≤ mxl st fi k)
  | 0 => ⟨by unfold mxl; omega, by unfold mxl; omega, fun h => absurd h (by omega)⟩
  | k + 1 => by
    have := mxl_rng st fi k
    have l := n_l_len (tv st fi k)
    unfold mxl
    omega
theorem mxl_ge (st fi : Int) : ∀ n k, k < n → (((n_l (tv st fi k)).length : Nat) : Int) ≤ mxl st fi n
  | 0, k, h => absurd h (by omega)
  | n + 1, k, h => by
    unfold mxl
    by_cases e : k = n
    · rw [e]; omega
    · have := mxl_ge st fi n k (by omega); omega
theorem rf_14 : am_ref 236 0 = 237 ∧ am_len 237 = 24 ∧ am_ref 0 4 = 196 ∧ am_ref 0 5 = 230 ∧ am_ref 0 6 = 231 ∧ am_ref 0 7 = 234 ∧ am_ref 0 8 = 236 ∧ am_ref 231 0 = 232 ∧ am_len 232 = 8 ∧ am_ref 231 1 = 233 ∧ am_len 233 = 8 ∧ am_ref 234 0 = 235 ∧ am_len 235 = 6144 ∧ am_ref 0 3 = 141 ∧ am_ref 0 2 = 5 ∧ am_ref 0 1 = 3 ∧ am_ref 0 0 = 1 := by decide +kernel
theorem L122_ok (h : SN st fi la n lo hi) : ∀ (k N i : Nat) (μ : am_M) (m y : Int), k < N → y = i → i + k = n → C3 st fi la μ → m = (if i = 0 then 0 else 4 * mxl st fi i - 1) → ∃ y' μ', L122_4 230 236 N m y μ = some (.inr (4 * mxl st fi n - 1, y', μ')) ∧ ∀ c t, c ≠ 236 → c ≠ 237 → μ' c t = μ c t
  | k, 0, _, _, _, _, hN, _, _, _, _ => absurd hN (by omega)
  | 0, N + 1, i, μ, m, y, hN, hy, hk, hC, hm => by
    have hn := h.2.1
    rw [L122_4, fn115_ok h hC, am_op_some]
    dsimp only
    rw [if_neg (by omega), hm, if_neg (by omega), show i = n by omega]
    exact ⟨_, _, rfl, fun _ _ _ _ => rfl⟩
  | k + 1, N + 1, i, μ, m, y, hN, hy, hk, hC, hm => by
    have hn := h.2.1
    have r := tv_rng h (k := i) (by omega)
    have d := h.2.2.2.1
    have mr := mxl_rng st fi i
    have l := n_l_len (tv st fi i)
    obtain ⟨μ1, q1, q2, q3⟩ := fn119_ok rf_14.1 rf_14.2.1 (by decide) (v := tv st fi i) (by omega) (by omega) μ
    rw [L122_4, fn115_ok h hC, am_op_some]
    dsimp only
    rw [if_pos (by omega), fn116_ok h hC (k := i) (by omega) hy, am_op_some]
    dsimp only
    rw [q1, am_op_some]
    dsimp only
    unfold fn120
    rw [am_op_some]
    dsimp only
    rw [q2.1, w32_id (x := 4 * _) (by omega) (by omega), w32_id (x := 4 * _ - 1) (by omega) (by omega), w32_id (x := y + 1) (by omega) (by omega)]
    have e121 : fn121 m (4 * (((n_l (tv st fi i)).length : Nat) : Int) - 1) μ1 = some (4 * mxl st fi (i + 1) - 1, μ1) := by
      unfold fn121 mxl
      by_cases c : m < 4 * (((n_l (tv st fi i)).length : Nat) : Int) - 1
      · rw [if_pos c]; congr 2
        split at hm
        · next e => rw [e]; show _ = 4 * max 0 _ - 1; rw [e] at l; omega
        · omega
      · rw [if_neg c]; congr 2
        split at hm
        · omega
        · omega
    rw [e121, am_op_some]
    dsimp only
    obtain ⟨y', μ2, r1, r2⟩ := L122_ok h k N (i + 1) μ1 (4 * mxl st fi (i + 1) - 1) (y + 1) (by omega) (by omega) (by omega) (hC.fr (fun t => q3 _ _ (by omega) (by omega))) (by rw [if_neg (by omega)])
    exact ⟨y', μ2, r1, fun c t h1 h2 => by rw [r2 c t h1 h2, q3 c t (by omega) h2]⟩
theorem fn122_ok (h : SN st fi la n lo hi) {μ : am_M} (hC : C3 st fi la μ) : ∃ μ', fn122 230 236 μ = some (4 * mxl st fi n - 1, μ') ∧ ∀ c t, c ≠ 236 → c ≠ 237 → μ' c t = μ c t := by
  obtain ⟨y', μ1, q1, q2⟩ := L122_ok h n am_fuel 0 μ 0 0 (by unfold am_fuel; have := h.2.1; omega) rfl (by omega) hC (by rw [if_pos rfl])
  unfold fn122
  rw [q1, am_op_some, am_lp_r]
  exact ⟨_, rfl, q2⟩
/-- reference -/
def R3 (st fi la : Int) (n : Nat) (μ : am_M) : Prop := μ 240 41 = st ∧ μ 240 42 = fi ∧ μ 240 43 = la ∧ μ 240 44 = (n : Int)
theorem R3.fr {μ μ' : am_M} (h : R3 st fi la n μ) (g : ∀ t, 41 ≤ t → t ≤ 44 → μ' 240 t = μ 240 t) : R3 st fi la n μ' := by unfold R3; rw [g _ (by omega) (by omega), g _ (by omega) (by omega), g _ (by omega) (by omega), g _ (by omega) (by omega)]; exact h
theorem r_tv (h : SN st fi la n lo hi) {μ : am_M} (hc : R3 st fi la n μ) {k : Nat} (hk : k < n) {x : Int} (hx : x = k) : w64 (μ 240 42 + w64 (x * μ 240 41)) = tv st fi k := by
  have r := tv_rng h hk
  obtain ⟨a, b, c, d, e, f, g⟩ := h
  obtain ⟨c1, c2, c3, c4⟩ := hc
  rw [c1, c2, hx, w64_id (x := (k : Int) * st) (by unfold tv at r; omega) (by unfold tv at r; omega)]
  rw [w64_id (by unfold tv at r; omega) (by unfold tv at r; omega)]
  rfl
theorem L216_4_ok (h : SN st fi la n lo hi) : ∀ (k N i : Nat) (μ : am_M) (m y : Int), k < N → y = i → i + k = n → R3 st fi la n μ → m = mxl st fi i → ∃ y' μ', L216_4 240 N m y μ = some (.inr (mxl st fi n, y', μ')) ∧ F8 μ μ'
  | k, 0, _, _, _, _, hN, _, _, _, _ => absurd hN (by omega)
  | 0, N + 1, i, μ, m, y, hN, hy, hk, hC, hm => by
    rw [L216_4, if_neg (by rw [hC.2.2.2]; omega), hm, show i = n by omega]
    exact ⟨_, _, rfl, F8.refl _⟩
  | k + 1, N + 1, i, μ, m, y, hN, hy, hk, hC, hm => by
    have hn := h.2.1
    have r := tv_rng h (k := i) (by omega)
    have d := h.2.2.2.1
    obtain ⟨μ1, q1, q2, q3⟩ := fn208_ok (v := tv st fi i) (by omega) (by omega) (r_tv h hC (k := i) (by omega) hy)
    rw [L216_4, if_pos (by rw [hC.2.2.2]; omega), q1, am_op_some]
    dsimp only
    rw [w32_id (x := y + 1) (by omega) (by omega)]
    have go : ∀ m', m' = mxl st fi (i + 1) → ∃ y' μ', L216_4 240 N m' (y + 1) μ1 = some (.inr (mxl st fi n, y', μ')) ∧ F8 μ μ' := fun m' hm' => by
      obtain ⟨y', μ2, r1, r2⟩ := L216_4_ok h k N (i + 1) μ1 m' (y + 1) (by omega) (by omega) (by omega) (hC.fr (fun t _ _ => q3 _ _ (by omega))) hm'
      exact ⟨y', μ2, r1, q3.trans r2⟩
    by_cases c : m < (((n_l (tv st fi i)).length : Nat) : Int)
    · rw [if_pos c]; exact go _ (by unfold mxl; omega)
    · rw [if_neg c]; exact go _ (by unfold mxl; omega)
end ST
