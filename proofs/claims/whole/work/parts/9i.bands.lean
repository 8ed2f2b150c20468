/-! Bands and labels. -/
def b_s (Lf A : Int) (c i : Nat) : Int := Lf + (i : Int) * A / (c : Int)
def b_e (Lf A : Int) (c i : Nat) : Int := b_s Lf A c (i + 1) - 1
def b_m (Lf A : Int) (c i : Nat) : Int := (b_s Lf A c i + b_e Lf A c i) / 2
/-- left, width of the area, how many -/
def BD (Lf A : Int) (c : Nat) : Prop := (0 ≤ Lf ∧ Lf ≤ 96) ∧ (2 * (c : Int) ≤ A ∧ A ≤ 96) ∧ 1 ≤ c ∧ c ≤ 8
section BA
variable {Lf A : Int} {c : Nat}
theorem b_mul (h : BD Lf A c) {i : Nat} (hi : i ≤ c) : 0 ≤ (i : Int) * A ∧ (i : Int) * A ≤ 768 ∧ (i : Int) * A ≤ (c : Int) * A := by
  obtain ⟨h1, h2, h3, h4⟩ := h
  have a := Int.mul_nonneg (show (0 : Int) ≤ i by omega) (show 0 ≤ A by omega)
  have b := Int.mul_le_mul_of_nonneg_right (show (i : Int) ≤ c by omega) (show 0 ≤ A by omega)
  have d := Int.mul_le_mul_of_nonneg_right (show (c : Int) ≤ 8 by omega) (show 0 ≤ A by omega)
  omega
theorem b_s_rng (h : BD Lf A c) {i : Nat} (hi : i ≤ c) : Lf ≤ b_s Lf A c i ∧ b_s Lf A c i ≤ Lf + A := by
  have m := b_mul h hi
  obtain ⟨h1, h2, h3, h4⟩ := h
  unfold b_s
  have a := Int.ediv_nonneg m.1 (show (0 : Int) ≤ c by omega)
  have b := Int.ediv_le_ediv (c := (c : Int)) (by omega) m.2.2
  rw [Int.mul_ediv_cancel_left _ (show (c : Int) ≠ 0 by omega)] at b
  omega
theorem b_s_2 (h : BD Lf A c) {i : Nat} (hi : i < c) : b_s Lf A c i + 2 ≤ b_s Lf A c (i + 1) := by
  obtain ⟨h1, h2, h3, h4⟩ := h
  unfold b_s
  have e : ((i + 1 : Nat) : Int) * A = (i : Int) * A + A := by rw [Int.natCast_add, Int.add_mul, show ((1 : Nat) : Int) * A = A by omega]
  have b := Int.ediv_le_ediv (c := (c : Int)) (by omega) (show (i : Int) * A + 2 * (c : Int) ≤ ((i + 1 : Nat) : Int) * A by rw [e]; omega)
  rw [Int.add_mul_ediv_right _ _ (show (c : Int) ≠ 0 by omega)] at b
  omega
theorem b_m_rng (h : BD Lf A c) {i : Nat} (hi : i < c) : b_s Lf A c i ≤ b_m Lf A c i ∧ b_m Lf A c i ≤ b_e Lf A c i ∧ Lf ≤ b_s Lf A c i ∧ b_e Lf A c i ≤ Lf + A - 1 ∧ b_s Lf A c i + 1 ≤ b_e Lf A c i := by
  have a := b_s_rng h (i := i) (by omega)
  have b := b_s_rng h (i := i + 1) (by omega)
  have d := b_s_2 h hi
  unfold b_m b_e
  omega
theorem b_m_inc (h : BD Lf A c) {i : Nat} (hi : i + 1 < c) : b_m Lf A c i < b_m Lf A c (i + 1) := by
  have a := b_m_rng h (i := i) (by omega)
  have b := b_m_rng h (i := i + 1) (by omega)
  unfold b_e at a
  omega
/-- class -/
def BC (Lf A : Int) (c : Nat) (μ : am_M) : Prop := μ 231 2 = Lf ∧ μ 231 3 = A ∧ μ 231 4 = (c : Int)
theorem BC.fr {μ μ' : am_M} (h : BC Lf A c μ) (g : ∀ t, 2 ≤ t → t ≤ 4 → μ' 231 t = μ 231 t) : BC Lf A c μ' := by unfold BC; rw [g _ (by omega) (by omega), g _ (by omega) (by omega), g _ (by omega) (by omega)]; exact h
theorem fn126_ok (h : BD Lf A c) {μ : am_M} (hC : BC Lf A c μ) {i : Nat} (hi : i ≤ c) {x : Int} (hx : x = i) : fn126 231 x μ = some (b_s Lf A c i, μ) := by
  have m := b_mul h hi
  have r := b_s_rng h hi
  obtain ⟨h1, h2, h3, h4⟩ := h
  obtain ⟨c2, c3, c4⟩ := hC
  have e : w32 (μ 231 2 + o_div (w32 (x * μ 231 3)) (μ 231 4)) = b_s Lf A c i := by
    rw [c2, c3, c4, hx, w32_id (x := (i : Int) * A) (by omega) (by omega), o_div_nn (by omega) (by omega) (by omega) (by omega)]
    exact w32_id (by unfold b_s at r; omega) (by unfold b_s at r; omega)
  unfold fn126
  rw [if_pos (by rw [c4]; omega), if_neg (by rw [c4]; omega), e]
theorem fn127_ok (h : BD Lf A c) {μ : am_M} (hC : BC Lf A c μ) {i : Nat} (hi : i < c) {x : Int} (hx : x = i) : fn127 231 x μ = some (b_e Lf A c i, μ) := by
  have r := b_s_rng h (i := i + 1) (by omega)
  have h1 := h.1; have h2 := h.2.1; have h3 := h.2.2
  unfold fn127
  rw [w32_id (by omega) (by omega), fn126_ok h hC (i := i + 1) (by omega) (by omega), am_op_some]
  dsimp only
  rw [w32_id (by omega) (by omega)]
  rfl
theorem fn128_ok (h : BD Lf A c) {μ : am_M} (hC : BC Lf A c μ) {i : Nat} (hi : i < c) {x : Int} (hx : x = i) : fn128 231 x μ = some (b_m Lf A c i, μ) := by
  have r := b_m_rng h hi
  have h1 := h.1; have h2 := h.2.1; have h3 := h.2.2
  unfold fn128
  rw [fn126_ok h hC (by omega) hx, am_op_some]
  dsimp only
  rw [fn127_ok h hC hi hx, am_op_some]
  dsimp only
  rw [w32_id (by omega) (by omega), o_div_nn (by omega) (by omega) (by omega) (by omega)]
  rfl
/-- reference -/
def BR (W Lf A : Int) (c : Nat) (μ : am_M) : Prop := μ 240 5 = W ∧ μ 240 45 = Lf ∧ μ 240 47 = (c : Int) ∧ W - 1 - Lf = A ∧ 0 ≤ W ∧ W ≤ 96
theorem BR.fr {W : Int} {μ μ' : am_M} (h : BR W Lf A c μ) (g : ∀ t, t = 5 ∨ t = 45 ∨ t = 47 → μ' 240 t = μ 240 t) : BR W Lf A c μ' := by unfold BR; rw [g _ (by omega), g _ (by omega), g _ (by omega)]; exact h
theorem fn209_ok {W : Int} {μ : am_M} (hC : BR W Lf A c μ) (h0 : 0 ≤ Lf) (h1 : Lf ≤ 96) : fn209 240 μ = some (A, μ) := by
  obtain ⟨c1, c2, c3, c4, c5, c6⟩ := hC
  unfold fn209
  rw [c1, c2, w32_id (x := W - 1) (by omega) (by omega), w32_id (by omega) (by omega), c4]
theorem fn211_ok {W : Int} (h : BD Lf A c) {μ : am_M} (hC : BR W Lf A c μ) {i : Nat} (hi : i ≤ c) {x : Int} (hx : x = i) : fn211 240 x μ = some (b_s Lf A c i, μ) := by
  have m := b_mul h hi
  have r := b_s_rng h hi
  have h1 := h.1; have h2 := h.2.1; have h3 := h.2.2
  unfold fn211
  rw [fn209_ok hC h1.1 h1.2, am_op_some]
  dsimp only
  have e : w32 (μ 240 45 + o_div (w32 (x * A)) (μ 240 47)) = b_s Lf A c i := by
    rw [hC.2.1, hC.2.2.1, hx, w32_id (x := (i : Int) * A) (by omega) (by omega), o_div_nn (by omega) (by omega) (by omega) (by omega)]
    exact w32_id (by unfold b_s at r; omega) (by unfold b_s at r; omega)
  rw [if_neg (by rw [hC.2.2.1]; omega), e]
theorem fn212_ok {W : Int} (h : BD Lf A c) {μ : am_M} (hC : BR W Lf A c μ) {i : Nat} (hi : i < c) {x : Int} (hx : x = i) : fn212 240 x μ = some (b_e Lf A c i, μ) := by
  have r := b_s_rng h (i := i + 1) (by omega)
  have h1 := h.1; have h2 := h.2.1; have h3 := h.2.2
  unfold fn212
  rw [w32_id (by omega) (by omega), fn211_ok h hC (i := i + 1) (by omega) (by omega), am_op_some]
  dsimp only
  rw [w32_id (by omega) (by omega)]
  rfl
theorem fn213_ok {W : Int} (h : BD Lf A c) {μ : am_M} (hC : BR W Lf A c μ) {i : Nat} (hi : i < c) {x : Int} (hx : x = i) : fn213 240 x μ = some (b_m Lf A c i, μ) := by
  have r := b_m_rng h hi
  have h1 := h.1; have h2 := h.2.1; have h3 := h.2.2
  unfold fn213
  rw [fn211_ok h hC (by omega) hx, am_op_some]
  dsimp only
  rw [fn212_ok h hC hi hx, am_op_some]
  dsimp only
  rw [w32_id (by omega) (by omega), o_div_nn (by omega) (by omega) (by omega) (by omega)]
  rfl
/-- where a label begins -/
def l_w (ln : Nat → Nat) (i : Nat) : Int := 4 * ((ln i : Nat) : Int) - 1
def l_s (W Lf A : Int) (c : Nat) (ln : Nat → Nat) (i : Nat) : Int := max 0 (min (b_m Lf A c i - l_w ln i / 2) (W - l_w ln i))
theorem l_s_rng {W : Int} {ln : Nat → Nat} {i : Nat} (h1 : 1 ≤ ln i) (h2 : l_w ln i ≤ W) : 0 ≤ l_s W Lf A c ln i ∧ l_s W Lf A c ln i + l_w ln i ≤ W := by
  unfold l_s
  unfold l_w at *
  omega
end BA
/-! Labels: class. -/
section LA
variable {Lf A W : Int} {M S : Nat} {seg : Nat → Nat → Int} {lab : Nat → List Int} {O : List Nat} {ln : Nat → Nat}
theorem fn124_ok {μ : am_M} (hG : GC M S seg lab O μ) (hM : M ≤ 12) (hO : O.length ≤ 12) (hOm : ∀ g ∈ O, g < M) {i : Nat} (hi : i < O.length) {x : Int} (hx : x = i) : fn124 196 x μ = some (((201 + 2 * O.getD i 0 : Nat) : Int), μ) := by
  have hg := Om (hO := hOm) hi
  unfold fn124
  rw [fn104_ok hG hO hi hx, am_op_some]
  dsimp only
  rw [rf_10.2.2.2.2.2.2.1, rf_10.2.2.2.2.2.2.2.1, if_pos (by omega), Int.toNat_natCast, (rf_11 _ (by omega)).1]
theorem fn120_ok {μ : am_M} {o b cap : Nat} {l : List Int} (h : Lt μ o b cap l) (hl : l.length ≤ 1000) : fn120 o μ = some (4 * ((l.length : Nat) : Int) - 1, μ) := by
  unfold fn120
  rw [h.1, w32_id (x := 4 * _) (by omega) (by omega), w32_id (by omega) (by omega)]
/-- the labels fit -/
def ftb (W : Int) (ln : Nat → Nat) : Nat → Bool
  | 0 => true
  | i + 1 => ftb W ln i && decide (l_w ln i ≤ W)
theorem ftb_all {W : Int} {ln : Nat → Nat} : ∀ n, ftb W ln n = true → ∀ i, i < n → l_w ln i ≤ W
  | 0, _, i, hi => absurd hi (by omega)
  | n + 1, h, i, hi => by
    unfold ftb at h
    rw [Bool.and_eq_true, decide_eq_true_iff] at h
    by_cases e : i = n
    · rw [e]; exact h.2
    · exact ftb_all n h.1 i (by omega)
theorem L132_ok {μ : am_M} (hG : GC M S seg lab O μ) (hM : M ≤ 12) (hO : O.length ≤ 12) (hOm : ∀ g ∈ O, g < M) (hl : ∀ g, g < M → (lab g).length ≤ 12) (hln : ∀ i, i < O.length → ln i = (lab (O.getD i 0)).length) (h4 : μ 231 4 = ((O.length : Nat) : Int)) (hW : μ 234 1 = W) : ∀ (k N i : Nat) (b : Bool) (y : Int), k < N → y = i → i + k = O.length → b = ftb W ln i → ∃ y', L132_64 231 196 234 N (bI b) y μ = some (.inr (bI (ftb W ln O.length), y', μ))
  | k, 0, _, _, _, hN, _, _, _ => absurd hN (by omega)
  | 0, N + 1, i, b, y, hN, hy, hk, hb => by
    rw [L132_64, if_neg (by rw [h4]; omega), hb, show i = O.length by omega]
    exact ⟨_, rfl⟩
  | k + 1, N + 1, i, b, y, hN, hy, hk, hb => by
    have hg := Om (hO := hOm) (i := i) (by omega)
    have ll := hl _ hg
    have el := hln i (by omega)
    have go := fun b' hb' => L132_ok hG hM hO hOm hl hln h4 hW k N (i + 1) b' (y + 1) (by omega) (by omega) (by omega) hb'
    rw [L132_64, if_pos (by rw [h4]; omega), w32_id (x := y + 1) (by omega) (by omega)]
    cases hbb : b with
    | false =>
      rw [if_pos (show bI false = 0 from rfl)]
      exact go false (by unfold ftb; rw [← hb, hbb]; rfl)
    | true =>
      rw [if_neg (by decide), fn124_ok hG hM hO hOm (i := i) (by omega) hy, am_op_some]
      dsimp only
      rw [Int.toNat_natCast, fn120_ok (hG.2.2.2 _ hg).2.2 (by omega), am_op_some]
      dsimp only
      unfold fn125
      rw [am_op_some]
      dsimp only
      have hf : ftb W ln (i + 1) = decide (l_w ln i ≤ W) := by show (ftb W ln i && _) = _; rw [← hb, hbb]; rfl
      by_cases q : W < l_w ln i
      · rw [if_pos (by rw [hW]; unfold l_w at q; rw [el] at q; exact q)]
        exact go false (by rw [hf]; exact (decide_eq_false (by omega)).symm)
      · rw [if_neg (by rw [hW]; unfold l_w at q; rw [el] at q; exact q)]
        exact go true (by rw [hf]; exact (decide_eq_true (by omega)).symm)
def LSt (W Lf A : Int) (c : Nat) (ln : Nat → Nat) (n : Nat) (μ : am_M) : Prop := ∀ j, j < n → μ 232 j = l_s W Lf A c ln j ∧ μ 233 j = l_s W Lf A c ln j + l_w ln j - 1
theorem L129_ok (h : BD Lf A O.length) (hM : M ≤ 12) (hOm : ∀ g ∈ O, g < M) (hl : ∀ g, g < M → (lab g).length ≤ 12) (hln : ∀ i, i < O.length → ln i = (lab (O.getD i 0)).length ∧ 1 ≤ ln i ∧ l_w ln i ≤ W) (hW0 : 0 ≤ W) (hW : W ≤ 96) : ∀ (k N i : Nat) (μ : am_M) (y : Int), k < N → y = i → i + k = O.length → GC M S seg lab O μ → BC Lf A O.length μ → LSt W Lf A O.length ln i μ → ∃ y' μ', L129_2 231 196 W N y μ = some (.inr (y', μ')) ∧ LSt W Lf A O.length ln O.length μ' ∧ ∀ c t, c ≠ 232 → c ≠ 233 → μ' c t = μ c t
  | k, 0, _, _, _, hN, _, _, _, _, _ => absurd hN (by omega)
  | 0, N + 1, i, μ, y, hN, hy, hk, hG, hB, hL => by
    rw [L129_2, if_neg (by rw [hB.2.2]; omega)]
    rw [show i = O.length by omega] at hL
    exact ⟨_, _, rfl, hL, fun _ _ _ _ => rfl⟩
  | k + 1, N + 1, i, μ, y, hN, hy, hk, hG, hB, hL => by
    have hO8 := h.2.2.2
    have hg := Om (hO := hOm) (i := i) (by omega)
    have ll := hl _ hg
    obtain ⟨el, l1, l2⟩ := hln i (by omega)
    have r := b_m_rng h (i := i) (by omega)
    have h1 := h.1; have h2 := h.2.1
    have rs := l_s_rng (Lf := Lf) (A := A) (c := O.length) l1 l2
    have b8 : (0 : Int) ≤ y ∧ y < ((8 : Nat) : Int) := by omega
    rw [L129_2, rf_14.2.2.2.2.2.2.2.1, rf_14.2.2.2.2.2.2.2.2.1, rf_14.2.2.2.2.2.2.2.2.2.1, rf_14.2.2.2.2.2.2.2.2.2.2.1, if_pos (by rw [hB.2.2]; omega), if_pos (by omega), fn124_ok hG hM (by omega) hOm (i := i) (by omega) hy, am_op_some]
    dsimp only
    rw [Int.toNat_natCast, fn120_ok (hG.2.2.2 _ hg).2.2 (by omega), am_op_some]
    dsimp only
    rw [fn128_ok h hB (i := i) (by omega) hy, am_op_some]
    dsimp only
    have ew : 4 * (((lab (O.getD i 0)).length : Nat) : Int) - 1 = l_w ln i := by unfold l_w; rw [el]
    have lw : 3 ≤ l_w ln i ∧ l_w ln i ≤ 47 := by rw [← ew]; omega
    have e78 : ∀ a b (m : am_M), fn78 a b m = some (min a b, m) := fun a b m => by
      unfold fn78
      by_cases q : b < a
      · rw [if_pos q, show min a b = b by omega]
      · rw [if_neg q, show min a b = a by omega]
    have e121 : ∀ a b (m : am_M), fn121 a b m = some (max a b, m) := fun a b m => by
      unfold fn121
      by_cases q : a < b
      · rw [if_pos q, show max a b = b by omega]
      · rw [if_neg q, show max a b = a by omega]
    rw [ew, o_div_nn (by omega) (by omega) (by omega) (by omega), w32_id (x := b_m Lf A O.length i - l_w ln i / 2) (by omega) (by omega), w32_id (x := W - l_w ln i) (by omega) (by omega), e78, am_op_some]
    dsimp only
    rw [e121, am_op_some]
    dsimp only
    have els : max 0 (min (b_m Lf A O.length i - l_w ln i / 2) (W - l_w ln i)) = l_s W Lf A O.length ln i := rfl
    rw [els, if_pos b8, if_pos b8, w32_id (x := l_s W Lf A O.length ln i + l_w ln i) (by omega) (by omega), w32_id (x := l_s W Lf A O.length ln i + l_w ln i - 1) (by omega) (by omega), w32_id (x := y + 1) (by omega) (by omega), show y.toNat = i by omega]
    have F : ∀ c t, c ≠ 232 → c ≠ 233 → am_up (am_up μ 232 i (l_s W Lf A O.length ln i)) 233 i (l_s W Lf A O.length ln i + l_w ln i - 1) c t = μ c t := fun c t a b => by rw [up_ne (by omega), up_ne (by omega)]
    obtain ⟨y', μ', r1, r2, r3⟩ := L129_ok h hM hOm hl hln hW0 hW k N (i + 1) (am_up (am_up μ 232 i (l_s W Lf A O.length ln i)) 233 i (l_s W Lf A O.length ln i + l_w ln i - 1)) (y + 1) (by omega) (by omega) (by omega) (hG.fr hM (fun c t _ _ => F c t (by omega) (by omega))) (hB.fr (fun t _ _ => F _ _ (by omega) (by omega))) (fun j hj => by
      by_cases e : j = i
      · rw [e, up_ne (by omega), am_up_at, am_up_at]; exact ⟨rfl, rfl⟩
      · rw [up_ne (by omega), up_ne (by omega), up_ne (by omega), up_ne (by omega)]; exact hL j (by omega))
    exact ⟨y', μ', r1, r2, fun c t a b => by rw [r3 c t a b, F c t a b]⟩
end LA
