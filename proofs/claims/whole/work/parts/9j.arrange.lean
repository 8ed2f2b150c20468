/-! Which labels are written. -/
section SR
variable {W Lf A : Int} {c : Nat} {ln : Nat → Nat}
def fr1 (W Lf A : Int) (c : Nat) (ln : Nat → Nat) (k i : Nat) : Bool := decide (i % k ≠ 0 ∨ i < k ∨ l_s W Lf A c ln (i - k) + l_w ln (i - k) + 1 ≤ l_s W Lf A c ln i)
def frr (W Lf A : Int) (c : Nat) (ln : Nat → Nat) (k : Nat) : Nat → Bool
  | 0 => true
  | i + 1 => frr W Lf A c ln k i && fr1 W Lf A c ln k i
theorem frr_lt {k : Nat} : ∀ i, i ≤ k → frr W Lf A c ln k i = true
  | 0, _ => rfl
  | i + 1, h => by
    unfold frr
    rw [frr_lt i (by omega)]
    exact decide_eq_true (Or.inr (Or.inl (by omega)))
theorem frr_skip {k a : Nat} : ∀ d, (∀ j, a ≤ j → j < a + d → j % k ≠ 0) → frr W Lf A c ln k (a + d) = frr W Lf A c ln k a
  | 0, _ => rfl
  | d + 1, h => by
    rw [← Nat.add_assoc]
    show (frr W Lf A c ln k (a + d) && fr1 W Lf A c ln k (a + d)) = _
    rw [frr_skip d (fun j h1 h2 => h j h1 (by omega)), show fr1 W Lf A c ln k (a + d) = true from decide_eq_true (Or.inl (h _ (by omega) (by omega))), Bool.and_true]
/-- between two multiples there is none -/
theorem no_mul {k i j : Nat} (hi : i % k = 0) (h1 : i < j) (h2 : j < i + k) : j % k ≠ 0 := by
  obtain ⟨d, rfl⟩ : ∃ d, j = i + d := ⟨j - i, by omega⟩
  rw [Nat.add_mod, hi, Nat.zero_add, Nat.mod_mod, Nat.mod_eq_of_lt (by omega)]
  omega
def srd (W Lf A : Int) (c : Nat) (ln : Nat → Nat) : Nat := st_f (fun k => frr W Lf A c ln k c) (c - 1) 1
theorem srd_rng (hc : 1 ≤ c) : 1 ≤ srd W Lf A c ln ∧ srd W Lf A c ln ≤ c := by
  have := st_f_le (fun k => frr W Lf A c ln k c) (c - 1) 1
  unfold srd; omega
theorem L130_ok {μ : am_M} (hL : LSt W Lf A c ln c μ) (hc : c ≤ 8) (hln : ∀ i, i < c → 1 ≤ ln i ∧ ln i ≤ 12 ∧ l_w ln i ≤ W) (hW : W ≤ 96) (h4 : μ 231 4 = (c : Int)) {k : Nat} (hk1 : 1 ≤ k) {kk : Int} (hkk : kk = k) : ∀ (m N i : Nat) (b : Bool) (y : Int), m < N → y = i → i + m = c → k ≤ i → b = frr W Lf A c ln k i → ∃ y', L130_4 231 kk N (bI b) y μ = some (.inr (bI (frr W Lf A c ln k c), y', μ))
  | m, 0, _, _, _, hN, _, _, _, _ => absurd hN (by omega)
  | 0, N + 1, i, b, y, hN, hy, hm, hki, hb => by
    rw [L130_4, if_neg (by rw [h4]; omega), hb, show i = c by omega]
    exact ⟨_, rfl⟩
  | m + 1, N + 1, i, b, y, hN, hy, hm, hki, hb => by
    have go := fun b' hb' => L130_ok hL hc hln hW h4 hk1 hkk m N (i + 1) b' (y + 1) (by omega) (by omega) (by omega) (by omega) hb'
    obtain ⟨l1, l2⟩ := hL i (by omega)
    obtain ⟨l3, l4⟩ := hL (i - k) (by omega)
    obtain ⟨n1, n12, n2⟩ := hln (i - k) (by omega)
    have rs := l_s_rng (Lf := Lf) (A := A) (c := c) n1 n2
    have em : o_rem y kk = ((i % k : Nat) : Int) := by rw [o_rem_nn (by omega) (by omega) (by omega) (by omega), hy, hkk]; rfl
    have lw : 3 ≤ l_w ln (i - k) := by unfold l_w; omega
    have hf : frr W Lf A c ln k (i + 1) = (b && fr1 W Lf A c ln k i) := by rw [hb]; rfl
    rw [L130_4, rf_14.2.2.2.2.2.2.2.1, rf_14.2.2.2.2.2.2.2.2.1, rf_14.2.2.2.2.2.2.2.2.2.1, rf_14.2.2.2.2.2.2.2.2.2.2.1, if_pos (by rw [h4]; omega), if_pos (by omega), if_pos (by omega), if_neg (by omega), em, w32_id (x := y + 1) (by omega) (by omega), w32_id (x := y - kk) (by omega) (by omega), show y.toNat = i by omega, show (y - kk).toNat = i - k by omega]
    by_cases c0 : i % k = 0
    · rw [if_pos (by omega)]
      cases hbb : b with
      | false =>
        rw [if_pos (show bI false = 0 from rfl)]
        exact go false (by rw [hf, hbb]; rfl)
      | true =>
        rw [hbb, Bool.true_and] at hf
        rw [if_neg (by decide), if_pos (by omega), if_pos (by omega), l4, w32_id (x := l_s W Lf A c ln (i - k) + l_w ln (i - k) - 1 + 2) (by omega) (by omega)]
        by_cases q : l_s W Lf A c ln (i - k) + l_w ln (i - k) + 1 ≤ l_s W Lf A c ln i
        · rw [if_neg (by rw [l1]; omega)]
          exact go true (by rw [hf]; exact (decide_eq_true (Or.inr (Or.inr q))).symm)
        · rw [if_pos (by rw [l1]; omega)]
          exact go false (by rw [hf]; exact (decide_eq_false (by omega)).symm)
    · rw [if_neg (by omega)]
      exact go b (by rw [hf, show fr1 W Lf A c ln k i = true from decide_eq_true (Or.inl c0), Bool.and_true])
theorem fn130_ok {μ : am_M} (hL : LSt W Lf A c ln c μ) (hc : c ≤ 8) (hln : ∀ i, i < c → 1 ≤ ln i ∧ ln i ≤ 12 ∧ l_w ln i ≤ W) (hW : W ≤ 96) (h4 : μ 231 4 = (c : Int)) {k : Nat} (hk1 : 1 ≤ k) (hkc : k ≤ c) {kk : Int} (hkk : kk = k) : fn130 231 kk μ = some (bI (frr W Lf A c ln k c), μ) := by
  obtain ⟨y', q⟩ := L130_ok hL hc hln hW h4 hk1 hkk (c - k) am_fuel k true kk (by unfold am_fuel; omega) hkk (by omega) (Nat.le_refl _) (frr_lt k (Nat.le_refl _)).symm
  unfold fn130
  rw [show L130_4 231 kk am_fuel 1 kk μ = _ from q, am_op_some, am_lp_r]
  dsimp only
  rw [if_pos (by cases frr W Lf A c ln k c <;> decide)]
theorem L131_ok (hc : c ≤ 8) (hln : ∀ i, i < c → 1 ≤ ln i ∧ ln i ≤ 12 ∧ l_w ln i ≤ W) (hW : W ≤ 96) : ∀ (m N i : Nat) (μ : am_M), m < N → i + m = c → 1 ≤ i → LSt W Lf A c ln c μ → μ 231 4 = (c : Int) → μ 231 5 = (i : Int) → ∃ μ', L131_5 231 N μ = some (.inr μ') ∧ μ' 231 5 = ((st_f (fun k => frr W Lf A c ln k c) m i : Nat) : Int) ∧ ∀ c t, ¬ (c = 231 ∧ t = 5) → μ' c t = μ c t
  | m, 0, _, _, hN, _, _, _, _, _ => absurd hN (by omega)
  | 0, N + 1, i, μ, hN, hm, h1, hL, h4, h5 => by
    rw [L131_5, if_neg (by rw [h4, h5]; omega)]
    exact ⟨_, rfl, h5, fun _ _ _ => rfl⟩
  | m + 1, N + 1, i, μ, hN, hm, h1, hL, h4, h5 => by
    rw [L131_5, if_pos (by rw [h4, h5]; omega), h5, fn130_ok hL hc hln hW h4 h1 (by omega) rfl, am_op_some]
    dsimp only
    unfold st_f
    cases hb : frr W Lf A c ln i c with
    | true =>
      rw [if_neg (by decide), if_pos rfl]
      exact ⟨_, rfl, h5, fun _ _ _ => rfl⟩
    | false =>
      rw [if_pos (show bI false = 0 from rfl), if_neg (by decide), h5, w32_id (by omega) (by omega)]
      obtain ⟨μ', r1, r2, r3⟩ := L131_ok hc hln hW m N (i + 1) (am_up μ 231 5 ((i : Int) + 1)) (by omega) (by omega) (by omega) (fun j hj => by rw [up_ne (by omega), up_ne (by omega)]; exact hL j hj) (by rw [up_ne (by omega)]; exact h4) (by rw [am_up_at]; omega)
      exact ⟨μ', r1, r2, fun c t h => by rw [r3 c t h, up_ne h]⟩
theorem fn131_ok (hc1 : 1 ≤ c) (hc : c ≤ 8) (hln : ∀ i, i < c → 1 ≤ ln i ∧ ln i ≤ 12 ∧ l_w ln i ≤ W) (hW : W ≤ 96) {μ : am_M} (hL : LSt W Lf A c ln c μ) (h4 : μ 231 4 = (c : Int)) : ∃ μ', fn131 231 μ = some (0, μ') ∧ μ' 231 5 = ((srd W Lf A c ln : Nat) : Int) ∧ ∀ c t, ¬ (c = 231 ∧ t = 5) → μ' c t = μ c t := by
  obtain ⟨μ', r1, r2, r3⟩ := L131_ok hc hln hW (c - 1) am_fuel 1 (am_up μ 231 5 1) (by unfold am_fuel; omega) (by omega) (Nat.le_refl _) (fun j hj => by rw [up_ne (by omega), up_ne (by omega)]; exact hL j hj) (by rw [up_ne (by omega)]; exact h4) (am_up_at _ _ _ _)
  unfold fn131
  rw [r1, am_op_some, am_lp_r]
  exact ⟨μ', rfl, r2, fun c t h => by rw [r3 c t h, up_ne h]⟩
/-! The class arranges. -/
/-- left, area, bands and labels as arranged -/
def LYC (W Lf A : Int) (c : Nat) (ln : Nat → Nat) (μ : am_M) : Prop := BC Lf A c μ ∧ LSt W Lf A c ln c μ ∧ μ 231 5 = ((srd W Lf A c ln : Nat) : Int)
theorem fn132_ok {st fi la lo hi W : Int} {n : Nat} (hS : SN st fi la n lo hi) {M S : Nat} {seg : Nat → Nat → Int} {lab : Nat → List Int} {O : List Nat} {ln : Nat → Nat} {μ : am_M} (hC3 : C3 st fi la μ) (hG : GC M S seg lab O μ) (hM : M ≤ 12) (hO1 : 1 ≤ O.length) (hO8 : O.length ≤ 8) (hOm : ∀ g ∈ O, g < M) (hl : ∀ g, g < M → (lab g).length ≤ 12) (hln : ∀ i, i < O.length → ln i = (lab (O.getD i 0)).length ∧ 1 ≤ ln i ∧ ln i ≤ 12) (h1 : μ 234 1 = W) (hW0 : 20 ≤ W) (hW : W ≤ 96) :
    ∃ b μ', fn132 231 196 230 234 236 μ = some (bI b, μ') ∧ b = (decide (2 * ((O.length : Nat) : Int) ≤ W - 1 - (4 * mxl st fi n + 2)) && ftb W ln O.length) ∧ (b = true → LYC W (4 * mxl st fi n + 2) (W - 1 - (4 * mxl st fi n + 2)) O.length ln μ') ∧ ∀ c t, ¬ (231 ≤ c ∧ c ≤ 233) → c ≠ 236 → c ≠ 237 → μ' c t = μ c t := by
  have hn := hS.2.1
  have mr := mxl_rng st fi n
  have mr1 := mr.2.2 (by omega)
  unfold fn132 fn101
  rw [am_op_some, hG.2.1]
  dsimp only
  obtain ⟨μ1, q1, q2⟩ := fn122_ok hS (μ := am_up μ 231 4 ((O.length : Nat) : Int)) (hC3.fr (fun t => up_ne (by omega)))
  rw [q1, am_op_some]
  dsimp only
  rw [w32_id (x := 4 * mxl st fi n - 1 + 3) (by omega) (by omega), show 4 * mxl st fi n - 1 + 3 = 4 * mxl st fi n + 2 by omega]
  have G1 : ∀ c t, ¬ (c = 231 ∧ t = 4) → c ≠ 236 → c ≠ 237 → μ1 c t = μ c t := fun c t a b d => by rw [q2 c t b d, up_ne a]
  have g4 : μ1 231 4 = ((O.length : Nat) : Int) := by rw [q2 _ _ (by omega) (by omega), am_up_at]
  have k2 : am_up μ1 231 2 (4 * mxl st fi n + 2) 231 2 = 4 * mxl st fi n + 2 := am_up_at _ _ _ _
  have K2 : ∀ c t, ¬ (c = 231 ∧ t = 2) → am_up μ1 231 2 (4 * mxl st fi n + 2) c t = μ1 c t := fun c t a => up_ne a
  generalize am_up μ1 231 2 (4 * mxl st fi n + 2) = μ2 at *
  unfold fn123
  rw [am_op_some]
  dsimp only
  have e3 : w32 (w32 (w32 (μ2 234 1 - 2) - μ2 231 2) + 1) = W - 1 - (4 * mxl st fi n + 2) := by
    rw [k2, K2 _ _ (by omega), G1 _ _ (by omega) (by omega) (by omega), h1, w32_id (x := W - 2) (by omega) (by omega), w32_id (x := W - 2 - (4 * mxl st fi n + 2)) (by omega) (by omega), w32_id (by omega) (by omega)]
    omega
  rw [e3]
  have k3 : am_up μ2 231 3 (W - 1 - (4 * mxl st fi n + 2)) 231 3 = W - 1 - (4 * mxl st fi n + 2) := am_up_at _ _ _ _
  have K3 : ∀ c t, ¬ (c = 231 ∧ t = 3) → am_up μ2 231 3 (W - 1 - (4 * mxl st fi n + 2)) c t = μ2 c t := fun c t a => up_ne a
  generalize am_up μ2 231 3 (W - 1 - (4 * mxl st fi n + 2)) = μ3 at *
  have G3 : ∀ c t, ¬ (c = 231) → c ≠ 236 → c ≠ 237 → μ3 c t = μ c t := fun c t a b d => by rw [K3 c t (by omega), K2 c t (by omega), G1 c t (by omega) b d]
  have hB : BC (4 * mxl st fi n + 2) (W - 1 - (4 * mxl st fi n + 2)) O.length μ3 := ⟨by rw [K3 _ _ (by omega)]; exact k2, k3, by rw [K3 _ _ (by omega), K2 _ _ (by omega)]; exact g4⟩
  generalize hL : 4 * mxl st fi n + 2 = Lf at *
  generalize hA : W - 1 - Lf = A at *
  rw [if_neg (by rw [hB.2.2]; omega)]
  by_cases c1 : A < 2 * ((O.length : Nat) : Int)
  · rw [if_pos (by rw [hB.2.1, hB.2.2, w32_id (by omega) (by omega)]; exact c1)]
    refine ⟨false, μ3, rfl, ?_, fun h => absurd h (by decide), fun c t a b d => G3 c t (by omega) b d⟩
    rw [decide_eq_false (by omega)]; rfl
  · rw [if_neg (by rw [hB.2.1, hB.2.2, w32_id (by omega) (by omega)]; exact c1), decide_eq_true (by omega), Bool.true_and]
    have hG3 : GC M S seg lab O μ3 := hG.fr hM (fun c t _ _ => G3 c t (by omega) (by omega) (by omega))
    obtain ⟨y', r1⟩ := L132_ok hG3 hM (by omega) hOm hl (fun i hi => (hln i hi).1) hB.2.2 (show μ3 234 1 = W by rw [G3 _ _ (by omega) (by omega) (by omega)]; exact h1) O.length am_fuel 0 true 0 (by unfold am_fuel; omega) rfl (by omega) rfl
    rw [show L132_64 231 196 234 am_fuel 1 0 μ3 = _ from r1, am_op_some, am_lp_r]
    dsimp only
    cases hf : ftb W ln O.length with
    | false =>
      rw [if_pos (show bI false = 0 from rfl), if_pos (by decide)]
      exact ⟨false, μ3, rfl, rfl, fun h => absurd h (by decide), fun c t a b d => G3 c t (by omega) b d⟩
    | true =>
      have hft := ftb_all _ hf
      have hBD : BD Lf A O.length := ⟨by omega, by omega, hO1, hO8⟩
      rw [if_neg (by decide)]
      unfold fn125
      rw [am_op_some]
      dsimp only
      obtain ⟨y2, μ4, s1, s2, s3⟩ := L129_ok hBD hM hOm hl (fun i hi => ⟨(hln i hi).1, (hln i hi).2.1, hft i hi⟩) (by omega) hW O.length am_fuel 0 μ3 0 (by unfold am_fuel; omega) rfl (by omega) hG3 hB (fun j hj => absurd hj (by omega))
      have e129 : fn129 231 196 (μ3 234 1) μ3 = some (0, μ4) := by
        unfold fn129
        rw [show μ3 234 1 = W by rw [G3 _ _ (by omega) (by omega) (by omega)]; exact h1, s1, am_op_some, am_lp_r]
      rw [e129, am_op_some]
      dsimp only
      obtain ⟨μ5, u1, u2, u3⟩ := fn131_ok (W := W) (Lf := Lf) (A := A) (ln := ln) hO1 hO8 (fun i hi => ⟨(hln i hi).2.1, (hln i hi).2.2, hft i hi⟩) hW s2 (by rw [s3 _ _ (by omega) (by omega)]; exact hB.2.2)
      rw [u1, am_op_some]
      dsimp only
      rw [if_pos (by decide)]
      refine ⟨true, μ5, rfl, rfl, fun _ => ⟨?_, fun j hj => ?_, u2⟩, fun c t a b d => by rw [u3 c t (by omega), s3 c t (by omega) (by omega), G3 c t (by omega) b d]⟩
      · refine hB.fr (fun t _ _ => ?_)
        rw [u3 _ _ (by omega), s3 _ _ (by omega) (by omega)]
      · rw [u3 _ _ (by omega), u3 _ _ (by omega)]; exact s2 j hj
end SR
