/-! The canvas. -/
abbrev Dot := Int × Int × Int
abbrev Cv := Nat → Nat → Int
def dt (P : Cv) (d : Dot) : Cv := fun a b => if (a : Int) = d.1 ∧ (b : Int) = d.2.1 then d.2.2 else P a b
def dts (P : Cv) : List Dot → Cv
  | [] => P
  | d :: l => dts (dt P d) l
theorem dts_app : ∀ (l r : List Dot) (P : Cv), dts P (l ++ r) = dts (dts P l) r
  | [], _, _ => rfl
  | d :: l, r, P => dts_app l r (dt P d)
section CV
variable {W H : Int}
/-- class -/
def PC (W H : Int) (P : Cv) (μ : am_M) : Prop := μ 234 1 = W ∧ μ 234 2 = H ∧ ∀ a b : Nat, (a : Int) < W → (b : Int) < H → μ 235 (96 * b + a) = P a b
def Fc (μ μ' : am_M) : Prop := ∀ c t, c ≠ 235 → μ' c t = μ c t
theorem Fc.trans {μ μ1 μ2 : am_M} (h : Fc μ μ1) (h2 : Fc μ1 μ2) : Fc μ μ2 := fun c t h3 => by rw [h2 c t h3, h c t h3]
theorem Fc.refl (μ : am_M) : Fc μ μ := fun _ _ _ => rfl
theorem PC.fr {P : Cv} {μ μ' : am_M} (h : PC W H P μ) (g : ∀ c t, c = 234 ∨ c = 235 → μ' c t = μ c t) : PC W H P μ' := ⟨by rw [g _ _ (by omega)]; exact h.1, by rw [g _ _ (by omega)]; exact h.2.1, fun a b ha hb => by rw [g _ _ (by omega)]; exact h.2.2 a b ha hb⟩
theorem fn137_ok (hW : W ≤ 96) (hH : H ≤ 64) {x y v : Int} (hv : 0 ≤ v ∧ v ≤ 100) {P : Cv} {μ : am_M} (h : PC W H P μ) : ∃ μ', fn137 234 x y v μ = some (0, μ') ∧ PC W H (dt P (x, y, v)) μ' ∧ Fc μ μ' := by
  obtain ⟨h1, h2, h3⟩ := h
  have out : ¬ (0 ≤ x ∧ x < W ∧ 0 ≤ y ∧ y < H) → PC W H (dt P (x, y, v)) μ := fun z => ⟨h1, h2, fun a b ha hb => by
    unfold dt
    rw [if_neg (by intro q; dsimp only at q; omega)]
    exact h3 a b ha hb⟩
  unfold fn137 fn9
  by_cases c1 : x < 0
  · rw [if_pos c1, am_op_some]; exact ⟨μ, if_pos rfl, out (by omega), Fc.refl _⟩
  rw [if_neg c1]
  by_cases c2 : x < W
  · rw [if_pos (by rw [h1]; exact c2)]
    by_cases c3 : y < 0
    · rw [if_pos c3, am_op_some]; exact ⟨μ, if_pos rfl, out (by omega), Fc.refl _⟩
    rw [if_neg c3]
    by_cases c4 : y < H
    · rw [if_pos (by rw [h2]; exact c4), am_op_some, rf_14.2.2.2.2.2.2.2.2.2.2.2.1, rf_14.2.2.2.2.2.2.2.2.2.2.2.2.1]
      dsimp only
      have e : w32 (w32 (y * 96) + x) = y * 96 + x := by rw [w32_id (x := y * 96) (by omega) (by omega), w32_id (by omega) (by omega)]
      rw [if_neg (by decide), if_pos (by rw [e]; omega), e, o_i2b_id (by omega) (by omega), o_nb_id (by omega) (by omega)]
      refine ⟨_, rfl, ⟨by rw [up_ne (by omega)]; exact h1, by rw [up_ne (by omega)]; exact h2, fun a b ha hb => ?_⟩, fun c t hc => up_ne (by omega)⟩
      unfold dt
      by_cases q : (a : Int) = x ∧ (b : Int) = y
      · rw [if_pos q, show 96 * b + a = (y * 96 + x).toNat by omega, am_up_at]
      · rw [if_neg q, up_ne (by omega)]; exact h3 a b ha hb
    · rw [if_neg (by rw [h2]; exact c4), am_op_some]; exact ⟨μ, if_pos rfl, out (by omega), Fc.refl _⟩
  · rw [if_neg (by rw [h1]; exact c2), am_op_some]; exact ⟨μ, if_pos rfl, out (by omega), Fc.refl _⟩
/-- reference -/
def PR (W H : Int) (P : Cv) (μ : am_M) : Prop := μ 240 5 = W ∧ μ 240 6 = H ∧ ∀ a b : Nat, (a : Int) < W → (b : Int) < H → μ 259 (96 * b + a) = P a b
def F9 (μ μ' : am_M) : Prop := ∀ c t, c ≠ 259 → μ' c t = μ c t
theorem F9.trans {μ μ1 μ2 : am_M} (h : F9 μ μ1) (h2 : F9 μ1 μ2) : F9 μ μ2 := fun c t h3 => by rw [h2 c t h3, h c t h3]
theorem F9.refl (μ : am_M) : F9 μ μ := fun _ _ _ => rfl
theorem PR.fr {P : Cv} {μ μ' : am_M} (h : PR W H P μ) (g : ∀ c t, c = 240 ∧ (t = 5 ∨ t = 6) ∨ c = 259 → μ' c t = μ c t) : PR W H P μ' := ⟨by rw [g _ _ (by omega)]; exact h.1, by rw [g _ _ (by omega)]; exact h.2.1, fun a b ha hb => by rw [g _ _ (by omega)]; exact h.2.2 a b ha hb⟩
theorem rf_15 : am_ref 240 50 = 259 ∧ am_len 259 = 6144 := by decide +kernel
def inn (W H : Int) (x y : Int) : Prop := (0 ≤ x ∧ x < W) ∧ 0 ≤ y ∧ y < H
theorem fn217_ok (hW : W ≤ 96) (hH : H ≤ 64) {x y : Int} (hi : inn W H x y) (v : Int) {P : Cv} {μ : am_M} (h : PR W H P μ) : ∃ μ', fn217 240 x y v μ = some (0, μ') ∧ PR W H (dt P (x, y, v)) μ' ∧ F9 μ μ' := by
  obtain ⟨h1, h2, h3⟩ := h
  obtain ⟨⟨i1, i2⟩, i3, i4⟩ := hi
  have e : w32 (w32 (96 * y) + x) = 96 * y + x := by rw [w32_id (x := 96 * y) (by omega) (by omega), w32_id (by omega) (by omega)]
  unfold fn217
  rw [rf_15.1, rf_15.2, e, if_pos (by omega)]
  refine ⟨_, rfl, ⟨by rw [up_ne (by omega)]; exact h1, by rw [up_ne (by omega)]; exact h2, fun a b ha hb => ?_⟩, fun c t hc => up_ne (by omega)⟩
  unfold dt
  by_cases q : (a : Int) = x ∧ (b : Int) = y
  · rw [if_pos q, show 96 * b + a = (96 * y + x).toNat by omega, am_up_at]
  · rw [if_neg q, up_ne (by omega)]; exact h3 a b ha hb
/-! Rows and blocks. -/
def hln (y v : Int) : Nat → Int → List Dot
  | 0, _ => []
  | n + 1, x => (x, y, v) :: hln y v n (x + 1)
def blk (x v : Int) (nx : Nat) : Nat → Int → List Dot
  | 0, _ => []
  | n + 1, y => hln y v nx x ++ blk x v nx n (y + 1)
theorem L138_13_ok (hW : W ≤ 96) (hH : H ≤ 64) {a b d e y : Int} (he : 0 ≤ e ∧ e ≤ 100) (hb : b ≤ 100000) : ∀ (n N : Nat) (P : Cv) (μ : am_M) (x : Int), n < N → n = (b + 1 - x).toNat → -100000 ≤ x → PC W H P μ → ∃ y' μ', L138_13 234 a b d e y N x μ = some (.inr (y', μ')) ∧ PC W H (dts P (hln y e n x)) μ' ∧ Fc μ μ'
  | n, 0, _, _, _, hN, _, _, _ => absurd hN (by omega)
  | 0, N + 1, P, μ, x, hN, hn, hx, hP => by
    rw [L138_13, if_pos (by omega)]
    exact ⟨_, _, rfl, hP, Fc.refl _⟩
  | n + 1, N + 1, P, μ, x, hN, hn, hx, hP => by
    obtain ⟨μ1, q1, q2, q3⟩ := fn137_ok hW hH (x := x) (y := y) he hP
    rw [L138_13, if_neg (by omega), q1, am_op_some]
    dsimp only
    rw [w32_id (by omega) (by omega)]
    obtain ⟨y', μ2, r1, r2, r3⟩ := L138_13_ok hW hH he hb n N _ μ1 (x + 1) (by omega) (by omega) (by omega) q2
    exact ⟨y', μ2, r1, r2, q3.trans r3⟩
theorem L138_3_ok (hW : W ≤ 96) (hH : H ≤ 64) {a b d e : Int} (he : 0 ≤ e ∧ e ≤ 100) (ha : -1000 ≤ a ∧ a ≤ 1000) (hb : -1000 ≤ b ∧ b ≤ 1000) (hd : d ≤ 100000) : ∀ (n N : Nat) (P : Cv) (μ : am_M) (y : Int), n < N → n = (d + 1 - y).toNat → -100000 ≤ y → PC W H P μ → ∃ y' μ', L138_3 234 a b d e N y μ = some (.inr (y', μ')) ∧ PC W H (dts P (blk a e (b + 1 - a).toNat n y)) μ' ∧ Fc μ μ'
  | n, 0, _, _, _, hN, _, _, _ => absurd hN (by omega)
  | 0, N + 1, P, μ, y, hN, hn, hy, hP => by
    rw [L138_3, if_pos (by omega)]
    exact ⟨_, _, rfl, hP, Fc.refl _⟩
  | n + 1, N + 1, P, μ, y, hN, hn, hy, hP => by
    obtain ⟨x', μ1, q1, q2, q3⟩ := L138_13_ok hW hH (a := a) (b := b) (d := d) (e := e) (y := y) he (by omega) (b + 1 - a).toNat am_fuel P μ a (by unfold am_fuel; omega) rfl (by omega) hP
    rw [L138_3, if_neg (by omega), q1, am_op_some, am_lp_r]
    dsimp only
    rw [w32_id (by omega) (by omega)]
    obtain ⟨y', μ2, r1, r2, r3⟩ := L138_3_ok hW hH he ha hb hd n N _ μ1 (y + 1) (by omega) (by omega) (by omega) q2
    rw [← dts_app] at r2
    exact ⟨y', μ2, r1, r2, q3.trans r3⟩
theorem fn138_ok (hW : W ≤ 96) (hH : H ≤ 64) {a b c d e : Int} (he : 0 ≤ e ∧ e ≤ 100) (ha : -1000 ≤ a ∧ a ≤ 1000) (hb : -1000 ≤ b ∧ b ≤ 1000) (hc : -1000 ≤ c ∧ c ≤ 1000) (hd : -1000 ≤ d ∧ d ≤ 1000) {P : Cv} {μ : am_M} (hP : PC W H P μ) : ∃ μ', fn138 234 a b c d e μ = some (0, μ') ∧ PC W H (dts P (blk a e (b + 1 - a).toNat (d + 1 - c).toNat c)) μ' ∧ Fc μ μ' := by
  obtain ⟨y', μ1, q1, q2, q3⟩ := L138_3_ok hW hH (a := a) (b := b) (d := d) (e := e) he ha hb (by omega) (d + 1 - c).toNat am_fuel P μ c (by unfold am_fuel; omega) rfl (by omega) hP
  unfold fn138
  rw [q1, am_op_some, am_lp_r]
  exact ⟨_, rfl, q2, q3⟩
/-! Letters. -/
def gly (x y b : Int) : Nat → Nat → List Dot
  | 0, _ => []
  | n + 1, k => if o_and (o_shr b (k : Int)) 1 = 1 then (x + ((k % 3 : Nat) : Int), y + ((k / 3 : Nat) : Int), 2) :: gly x y b n (k + 1) else gly x y b n (k + 1)
theorem gly_app (x y b : Int) : ∀ m n k, gly x y b (m + n) k = gly x y b m k ++ gly x y b n (k + m)
  | 0, n, k => by rw [Nat.zero_add]; rfl
  | m + 1, n, k => by
    rw [show m + 1 + n = m + n + 1 by omega]
    show (if o_and (o_shr b (k : Int)) 1 = 1 then (x + ((k % 3 : Nat) : Int), y + ((k / 3 : Nat) : Int), 2) :: gly x y b (m + n) (k + 1) else gly x y b (m + n) (k + 1)) = (if o_and (o_shr b (k : Int)) 1 = 1 then (x + ((k % 3 : Nat) : Int), y + ((k / 3 : Nat) : Int), 2) :: gly x y b m (k + 1) else gly x y b m (k + 1)) ++ gly x y b n (k + (m + 1))
    rw [gly_app x y b m n (k + 1), show k + 1 + m = k + (m + 1) by omega]
    split <;> rfl
def bts (ch : Int) : Int := o_shr (w32 (ch * 7919)) 3
def wrl (y : Int) : Int → List Int → List Dot
  | _, [] => []
  | x, ch :: r => gly x y (bts ch) 15 0 ++ wrl y (x + 4) r
theorem L143_21_ok (hW : W ≤ 96) (hH : H ≤ 64) {x y b : Int} (hx : -1000 ≤ x ∧ x ≤ 1000) (hy : -1000 ≤ y ∧ y ≤ 1000) {j : Nat} (hj : j < 5) {jj : Int} (hjj : jj = j) : ∀ (n N i : Nat) (P : Cv) (μ : am_M) (ii : Int), n < N → ii = i → i + n = 3 → PC W H P μ → ∃ y' μ', L143_21 234 x y b jj N ii μ = some (.inr (y', μ')) ∧ PC W H (dts P (gly x y b n (3 * j + i))) μ' ∧ Fc μ μ'
  | n, 0, _, _, _, _, hN, _, _, _ => absurd hN (by omega)
  | 0, N + 1, i, P, μ, ii, hN, hi, hn, hP => by
    rw [L143_21, if_neg (by omega)]
    exact ⟨_, _, rfl, hP, Fc.refl _⟩
  | n + 1, N + 1, i, P, μ, ii, hN, hi, hn, hP => by
    have ek : w32 (w32 (3 * jj) + ii) = ((3 * j + i : Nat) : Int) := by rw [w32_id (x := 3 * jj) (by omega) (by omega), w32_id (by omega) (by omega)]; omega
    have e1 : w32 (x + ii) = x + (((3 * j + i) % 3 : Nat) : Int) := by rw [w32_id (by omega) (by omega)]; omega
    have e2 : w32 (y + jj) = y + (((3 * j + i) / 3 : Nat) : Int) := by rw [w32_id (by omega) (by omega)]; omega
    rw [L143_21, if_pos (by omega), ek, e1, e2, w32_id (x := ii + 1) (by omega) (by omega)]
    unfold gly
    by_cases c : o_and (o_shr b ((3 * j + i : Nat) : Int)) 1 = 1
    · obtain ⟨μ1, q1, q2, q3⟩ := fn137_ok hW hH (x := x + (((3 * j + i) % 3 : Nat) : Int)) (y := y + (((3 * j + i) / 3 : Nat) : Int)) (v := 2) (by omega) hP
      rw [if_pos c, if_pos c, q1, am_op_some]
      obtain ⟨y', μ2, r1, r2, r3⟩ := L143_21_ok hW hH hx hy hj hjj n N (i + 1) _ μ1 (ii + 1) (by omega) (by omega) (by omega) q2
      exact ⟨y', μ2, r1, r2, q3.trans r3⟩
    · rw [if_neg c, if_neg c]
      exact L143_21_ok hW hH hx hy hj hjj n N (i + 1) P μ (ii + 1) (by omega) (by omega) (by omega) hP
theorem L143_12_ok (hW : W ≤ 96) (hH : H ≤ 64) {x y b : Int} (hx : -1000 ≤ x ∧ x ≤ 1000) (hy : -1000 ≤ y ∧ y ≤ 1000) : ∀ (n N j : Nat) (P : Cv) (μ : am_M) (jj : Int), n < N → jj = j → j + n = 5 → PC W H P μ → ∃ y' μ', L143_12 234 x y b N jj μ = some (.inr (y', μ')) ∧ PC W H (dts P (gly x y b (3 * n) (3 * j))) μ' ∧ Fc μ μ'
  | n, 0, _, _, _, _, hN, _, _, _ => absurd hN (by omega)
  | 0, N + 1, j, P, μ, jj, hN, hj, hn, hP => by
    rw [L143_12, if_neg (by omega)]
    exact ⟨_, _, rfl, hP, Fc.refl _⟩
  | n + 1, N + 1, j, P, μ, jj, hN, hj, hn, hP => by
    obtain ⟨x', μ1, q1, q2, q3⟩ := L143_21_ok hW hH (b := b) hx hy (j := j) (by omega) hj 3 am_fuel 0 P μ 0 (by unfold am_fuel; omega) rfl rfl hP
    rw [L143_12, if_pos (by omega), q1, am_op_some, am_lp_r]
    dsimp only
    rw [w32_id (by omega) (by omega)]
    obtain ⟨y', μ2, r1, r2, r3⟩ := L143_12_ok hW hH hx hy n N (j + 1) _ μ1 (jj + 1) (by omega) (by omega) (by omega) q2
    refine ⟨y', μ2, r1, ?_, q3.trans r3⟩
    rw [show 3 * (n + 1) = 3 + 3 * n by omega, gly_app, dts_app]
    exact r2
theorem fn143_ok (hW : W ≤ 96) (hH : H ≤ 64) {x y ch : Int} (hx : -1000 ≤ x ∧ x ≤ 1000) (hy : -1000 ≤ y ∧ y ≤ 1000) {P : Cv} {μ : am_M} (hP : PC W H P μ) : ∃ μ', fn143 234 ch x y μ = some (0, μ') ∧ PC W H (dts P (gly x y (bts ch) 15 0)) μ' ∧ Fc μ μ' := by
  obtain ⟨x', μ1, q1, q2, q3⟩ := L143_12_ok hW hH (b := bts ch) hx hy 5 am_fuel 0 P μ 0 (by unfold am_fuel; omega) rfl rfl hP
  unfold fn143
  rw [show L143_12 234 x y (o_shr (w32 (ch * 7919)) 3) am_fuel 0 μ = _ from q1, am_op_some, am_lp_r]
  exact ⟨_, rfl, q2, q3⟩
theorem L220_ok (hW : W ≤ 96) (hH : H ≤ 64) {x y b : Int} (hx : 0 ≤ x ∧ x + 2 < W) (hy : 0 ≤ y ∧ y + 4 < H) : ∀ (n N k : Nat) (P : Cv) (μ : am_M) (kk : Int), n < N → kk = k → k + n = 15 → PR W H P μ → ∃ y' μ', L220_12 240 x y b N kk μ = some (.inr (y', μ')) ∧ PR W H (dts P (gly x y b n k)) μ' ∧ F9 μ μ'
  | n, 0, _, _, _, _, hN, _, _, _ => absurd hN (by omega)
  | 0, N + 1, k, P, μ, kk, hN, hk, hn, hP => by
    rw [L220_12, if_neg (by omega)]
    exact ⟨_, _, rfl, hP, F9.refl _⟩
  | n + 1, N + 1, k, P, μ, kk, hN, hk, hn, hP => by
    have e1 : w32 (x + o_rem kk 3) = x + ((k % 3 : Nat) : Int) := by rw [o_rem_nn (by omega) (by omega) (by omega) (by omega), w32_id (by omega) (by omega)]; omega
    have e2 : w32 (y + o_div kk 3) = y + ((k / 3 : Nat) : Int) := by rw [o_div_nn (by omega) (by omega) (by omega) (by omega), w32_id (by omega) (by omega)]; omega
    rw [L220_12, if_pos (by omega), e1, e2, w32_id (x := kk + 1) (by omega) (by omega), hk]
    unfold gly
    by_cases c : o_and (o_shr b (k : Int)) 1 = 1
    · obtain ⟨μ1, q1, q2, q3⟩ := fn217_ok hW hH (x := x + ((k % 3 : Nat) : Int)) (y := y + ((k / 3 : Nat) : Int)) ⟨by omega, by omega⟩ 2 hP
      rw [if_pos c, if_pos c, q1, am_op_some]
      obtain ⟨y', μ2, r1, r2, r3⟩ := L220_ok hW hH hx hy n N (k + 1) _ μ1 ((k : Int) + 1) (by omega) (by omega) (by omega) q2
      exact ⟨y', μ2, r1, r2, q3.trans r3⟩
    · rw [if_neg c, if_neg c]
      exact L220_ok hW hH hx hy n N (k + 1) P μ ((k : Int) + 1) (by omega) (by omega) (by omega) hP
theorem fn220_ok (hW : W ≤ 96) (hH : H ≤ 64) {x y ch : Int} (hx : 0 ≤ x ∧ x + 2 < W) (hy : 0 ≤ y ∧ y + 4 < H) {P : Cv} {μ : am_M} (hP : PR W H P μ) : ∃ μ', fn220 240 x y ch μ = some (0, μ') ∧ PR W H (dts P (gly x y (bts ch) 15 0)) μ' ∧ F9 μ μ' := by
  obtain ⟨x', μ1, q1, q2, q3⟩ := L220_ok hW hH (b := bts ch) hx hy 15 am_fuel 0 P μ 0 (by unfold am_fuel; omega) rfl rfl hP
  unfold fn220
  rw [show L220_12 240 x y (o_shr (w32 (ch * 7919)) 3) am_fuel 0 μ = _ from q1, am_op_some, am_lp_r]
  exact ⟨_, rfl, q2, q3⟩
end CV
