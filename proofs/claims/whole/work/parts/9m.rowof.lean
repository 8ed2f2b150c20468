/-! Rows of values. -/
def rw_ (H fi la v : Int) : Int := H - 9 - (2 * ((v - fi * 27720) * (H - 10)) + (la - fi) * 27720) / (2 * ((la - fi) * 27720))
section RW
variable {st fi la lo hi H : Int} {n : Nat}
theorem rw_fc (h : SN st fi la n lo hi) (hH : 18 ≤ H ∧ H ≤ 64) {v : Int} (h1 : fi * 27720 ≤ v) (h2 : v ≤ la * 27720) : 0 ≤ (v - fi * 27720) * (H - 10) ∧ (v - fi * 27720) * (H - 10) ≤ 2160000000000000000 ∧ 0 ≤ (2 * ((v - fi * 27720) * (H - 10)) + (la - fi) * 27720) / (2 * ((la - fi) * 27720)) ∧ (2 * ((v - fi * 27720) * (H - 10)) + (la - fi) * 27720) / (2 * ((la - fi) * 27720)) ≤ H - 10 := by
  obtain ⟨a, b, c, d, e, f, g⟩ := h
  have u0 : 0 ≤ v - fi * 27720 := by omega
  have u1 : v - fi * 27720 ≤ (la - fi) * 27720 := by omega
  have a1 := Int.mul_nonneg u0 (show 0 ≤ H - 10 by omega)
  have a2 := Int.mul_le_mul_of_nonneg_right u1 (show 0 ≤ H - 10 by omega)
  have a3 := Int.mul_le_mul_of_nonneg_left (show H - 10 ≤ 54 by omega) (show 0 ≤ (la - fi) * 27720 by omega)
  have e2 : (H - 10 + 1) * (2 * ((la - fi) * 27720)) = 2 * ((la - fi) * 27720 * (H - 10)) + 2 * ((la - fi) * 27720) := by
    rw [Int.add_mul, Int.one_mul, Int.mul_comm (H - 10), Int.mul_assoc]
  refine ⟨a1, by omega, Int.ediv_nonneg (by omega) (by omega), ?_⟩
  have := Int.ediv_lt_of_lt_mul (a := 2 * ((v - fi * 27720) * (H - 10)) + (la - fi) * 27720) (b := H - 10 + 1) (c := 2 * ((la - fi) * 27720)) (by omega) (by rw [e2]; omega)
  omega
theorem rw_rng (h : SN st fi la n lo hi) (hH : 18 ≤ H ∧ H ≤ 64) {v : Int} (h1 : fi * 27720 ≤ v) (h2 : v ≤ la * 27720) : 1 ≤ rw_ H fi la v ∧ rw_ H fi la v ≤ H - 9 := by
  have := rw_fc h hH h1 h2
  unfold rw_
  omega
theorem fn140_ok (h : SN st fi la n lo hi) (hH : 18 ≤ H ∧ H ≤ 64) {μ : am_M} (hC : C3 st fi la μ) {v : Int} (h1 : fi * 27720 ≤ v) (h2 : v ≤ la * 27720) : fn140 230 v H μ = some (rw_ H fi la v, μ) := by
  have q := rw_fc h hH h1 h2
  obtain ⟨a, b, c, d, e, f, g⟩ := h
  obtain ⟨c2, c3, c4⟩ := hC
  have e1 : w64 (w64 (μ 230 4 - μ 230 3) * 27720) = (la - fi) * 27720 := by rw [c3, c4, w64_id (x := la - fi) (by omega) (by omega), w64_id (by omega) (by omega)]
  have e2 : w64 (μ 230 3 * 27720) = fi * 27720 := by rw [c3, w64_id (by omega) (by omega)]
  have e3 : 2 * (v - fi * 27720) * (H - 10) = 2 * ((v - fi * 27720) * (H - 10)) := Int.mul_assoc _ _ _
  unfold fn140
  rw [if_pos (by rw [e1]; exact o_cmp_gt.mpr (by omega)), e1, e2, w32_id (x := H - 9) (by omega) (by omega), w32_id (x := H - 9 - 1) (by omega) (by omega), show H - 9 - 1 = H - 10 by omega, w64_id (x := v - fi * 27720) (by omega) (by omega), w64_id (x := 2 * (v - fi * 27720)) (by omega) (by omega), e3, w64_id (x := 2 * ((v - fi * 27720) * (H - 10))) (by omega) (by omega), w64_id (x := 2 * ((v - fi * 27720) * (H - 10)) + (la - fi) * 27720) (by omega) (by omega), w64_id (x := 2 * ((la - fi) * 27720)) (by omega) (by omega), fn112_ok ⟨by omega, by omega⟩ ⟨by omega, by omega⟩ (by omega), am_op_some]
  dsimp only
  rw [o_l2i_id (by omega) (by omega), w32_id (by omega) (by omega)]
  rfl
theorem fn218_ok (h : SN st fi la n lo hi) (hH : 18 ≤ H ∧ H ≤ 64) {μ : am_M} (hC : R3 st fi la n μ) (h6 : μ 240 6 = H) {v : Int} (h1 : fi * 27720 ≤ v) (h2 : v ≤ la * 27720) : fn218 240 v μ = some (rw_ H fi la v, μ) := by
  have q := rw_fc h hH h1 h2
  obtain ⟨a, b, c, d, e, f, g⟩ := h
  obtain ⟨c1, c2, c3, c4⟩ := hC
  have e1 : w64 (w64 (μ 240 43 - μ 240 42) * 27720) = (la - fi) * 27720 := by rw [c2, c3, w64_id (x := la - fi) (by omega) (by omega), w64_id (by omega) (by omega)]
  have e2 : w64 (μ 240 42 * 27720) = fi * 27720 := by rw [c2, w64_id (by omega) (by omega)]
  unfold fn218
  rw [e1, e2, h6, w64_id (x := 2 * ((la - fi) * 27720)) (by omega) (by omega), if_neg (by omega), w32_id (x := H - 9) (by omega) (by omega), w32_id (x := H - 10) (by omega) (by omega), w64_id (x := v - fi * 27720) (by omega) (by omega), w64_id (x := (v - fi * 27720) * (H - 10)) (by omega) (by omega), w64_id (x := 2 * ((v - fi * 27720) * (H - 10))) (by omega) (by omega), w64_id (x := 2 * ((v - fi * 27720) * (H - 10)) + (la - fi) * 27720) (by omega) (by omega), o_divl_nn (by omega) (by omega) (by omega) (by omega), o_l2i_id (by omega) (by omega), w32_id (by omega) (by omega)]
  rfl
/-- a tick's row -/
def tr (H st fi la : Int) (k : Nat) : Int := rw_ H fi la (tv st fi k * 27720)
theorem tv_in (h : SN st fi la n lo hi) {k : Nat} (hk : k < n) : fi * 27720 ≤ tv st fi k * 27720 ∧ tv st fi k * 27720 ≤ la * 27720 ∧ w64 (tv st fi k * 27720) = tv st fi k * 27720 := by
  have r := tv_rng h hk
  have d := h.2.2.2.1
  exact ⟨by omega, by omega, w64_id (by omega) (by omega)⟩
theorem tr_rng (h : SN st fi la n lo hi) (hH : 18 ≤ H ∧ H ≤ 64) {k : Nat} (hk : k < n) : 1 ≤ tr H st fi la k ∧ tr H st fi la k ≤ H - 9 := by
  obtain ⟨a, b, _⟩ := tv_in h hk
  exact rw_rng h hH a b
theorem fn141_ok (h : SN st fi la n lo hi) (hH : 18 ≤ H ∧ H ≤ 64) {μ : am_M} (hC : C3 st fi la μ) (h2 : μ 234 2 = H) {k : Nat} (hk : k < n) {x : Int} (hx : x = k) : fn141 0 x μ = some (tr H st fi la k, μ) := by
  obtain ⟨a, b, e⟩ := tv_in h hk
  unfold fn141
  rw [rf_14.2.2.2.1, rf_14.2.2.2.2.2.1, fn116_ok h hC hk hx, am_op_some]
  unfold fn139
  dsimp only
  rw [am_op_some]
  dsimp only
  rw [e, h2, fn140_ok h hH hC a b, am_op_some]
  rfl
theorem r_tr (h : SN st fi la n lo hi) (hH : 18 ≤ H ∧ H ≤ 64) {μ : am_M} (hC : R3 st fi la n μ) (h6 : μ 240 6 = H) {k : Nat} (hk : k < n) {x : Int} (hx : x = k) : fn218 240 (w64 (w64 (μ 240 42 + w64 (x * μ 240 41)) * 27720)) μ = some (tr H st fi la k, μ) := by
  obtain ⟨a, b, e⟩ := tv_in h hk
  rw [r_tv h hC hk hx, e, fn218_ok h hH hC h6 a b]
  rfl
end RW
/-! Words. -/
theorem drop_c {l : List Int} {i : Nat} (h : i < l.length) : l.drop i = l.getD i 0 :: l.drop (i + 1) := by
  rw [List.drop_eq_getElem_cons h, List.getD_eq_getElem?_getD, List.getElem?_eq_getElem h]; rfl
section WD
variable {W H : Int}
theorem L144_ok (hW : W ≤ 96) (hH : H ≤ 64) {o a cap : Nat} {l : List Int} (hr : am_ref o 0 = a) (hc : am_len a = cap) (hl : l.length ≤ cap) (hcap : cap ≤ 24) (hR : Cr l) (ho : o ≠ 235) (ha : a ≠ 235) {x y : Int} (hx : -200 ≤ x ∧ x ≤ 200) (hy : -1000 ≤ y ∧ y ≤ 1000) : ∀ (n N i : Nat) (P : Cv) (μ : am_M) (ii : Int), n < N → ii = i → i + n = l.length → Lt μ o a cap l → PC W H P μ → ∃ y' μ', L144_3 234 o x y N ii μ = some (.inr (y', μ')) ∧ PC W H (dts P (wrl y (x + 4 * i) (l.drop i))) μ' ∧ Fc μ μ'
  | n, 0, _, _, _, _, hN, _, _, _, _ => absurd hN (by omega)
  | 0, N + 1, i, P, μ, ii, hN, hi, hn, hL, hP => by
    rw [L144_3]
    unfold fn21
    rw [am_op_some]
    dsimp only
    rw [if_neg (by rw [hL.1]; omega), List.drop_eq_nil_of_le (by omega)]
    exact ⟨_, _, rfl, hP, Fc.refl _⟩
  | n + 1, N + 1, i, P, μ, ii, hN, hi, hn, hL, hP => by
    obtain ⟨μ1, q1, q2, q3⟩ := fn143_ok hW hH (x := x + 4 * (i : Int)) (y := y) (ch := l.getD i 0) (by omega) hy hP
    have eg : gc l cap i = l.getD i 0 := by unfold gc; rw [if_pos (by omega)]
    rw [L144_3]
    unfold fn21
    rw [am_op_some]
    dsimp only
    rw [if_pos (by rw [hL.1]; omega), fn30_at hr hc hL hR i hi, am_op_some]
    dsimp only
    rw [eg, w32_id (x := 4 * ii) (by omega) (by omega), w32_id (x := x + 4 * ii) (by omega) (by omega), hi, q1, am_op_some]
    dsimp only
    rw [w32_id (by omega) (by omega)]
    obtain ⟨y', μ2, r1, r2, r3⟩ := L144_ok hW hH hr hc hl hcap hR ho ha hx hy n N (i + 1) _ μ1 ((i : Int) + 1) (by omega) (by omega) (by omega) (hL.fr (q3 _ _ ho) (fun _ => q3 _ _ ha)) q2
    refine ⟨y', μ2, r1, ?_, q3.trans r3⟩
    rw [drop_c (show i < l.length by omega)]
    unfold wrl
    rw [dts_app, show x + 4 * (i : Int) + 4 = x + 4 * ((i + 1 : Nat) : Int) by omega]
    exact r2
theorem fn144_ok (hW : W ≤ 96) (hH : H ≤ 64) {o a cap : Nat} {l : List Int} (hr : am_ref o 0 = a) (hc : am_len a = cap) (hl : l.length ≤ cap) (hcap : cap ≤ 24) (hR : Cr l) (ho : o ≠ 235) (ha : a ≠ 235) {x y : Int} (hx : -200 ≤ x ∧ x ≤ 200) (hy : -1000 ≤ y ∧ y ≤ 1000) {P : Cv} {μ : am_M} (hL : Lt μ o a cap l) (hP : PC W H P μ) : ∃ μ', fn144 234 o x y μ = some (0, μ') ∧ PC W H (dts P (wrl y x l)) μ' ∧ Fc μ μ' := by
  obtain ⟨y', μ1, q1, q2, q3⟩ := L144_ok hW hH hr hc hl hcap hR ho ha hx hy l.length am_fuel 0 P μ 0 (by unfold am_fuel; omega) rfl (by omega) hL hP
  unfold fn144
  rw [q1, am_op_some, am_lp_r]
  refine ⟨_, rfl, ?_, q3⟩
  rw [show x + 4 * ((0 : Nat) : Int) = x by omega] at q2
  exact q2
theorem L221_76_ok (hW : W ≤ 96) (hH : H ≤ 64) {l : List Int} (hl : l.length ≤ 24) {l2 r Lf x : Int} {ll : Int} (hll : ll = l.length) (hLf : 0 ≤ Lf ∧ Lf ≤ 96) (hxe : x = Lf - 2 - (4 * ((l.length : Nat) : Int) - 1)) (hx0 : 0 ≤ x) (hx1 : Lf ≤ W) (hr : 2 ≤ r ∧ r + 2 < H) : ∀ (n N i : Nat) (P : Cv) (μ : am_M) (ii : Int), n < N → ii = i → i + n = l.length → Dg μ l → μ 240 45 = Lf → PR W H P μ → ∃ y' μ', L221_76 240 l2 r ll N ii μ = some (.inr (y', μ')) ∧ PR W H (dts P (wrl (r - 2) (x + 4 * i) (l.drop i))) μ' ∧ F9 μ μ'
  | n, 0, _, _, _, _, hN, _, _, _, _, _ => absurd hN (by omega)
  | 0, N + 1, i, P, μ, ii, hN, hi, hn, hL, h45, hP => by
    rw [L221_76, if_neg (by omega), List.drop_eq_nil_of_le (by omega)]
    exact ⟨_, _, rfl, hP, F9.refl _⟩
  | n + 1, N + 1, i, P, μ, ii, hN, hi, hn, hL, h45, hP => by
    obtain ⟨μ1, q1, q2, q3⟩ := fn220_ok hW hH (x := x + 4 * (i : Int)) (y := r - 2) (ch := l.getD i 0) (by omega) (by omega) hP
    have ex : w32 (w32 (w32 (w32 (μ 240 45 - 3) - w32 (w32 (4 * ll) - 1)) + 1) + w32 (4 * ii)) = x + 4 * (i : Int) := by
      rw [h45, w32_id (x := Lf - 3) (by omega) (by omega), w32_id (x := 4 * ll) (by omega) (by omega), w32_id (x := 4 * ll - 1) (by omega) (by omega), w32_id (x := Lf - 3 - (4 * ll - 1)) (by omega) (by omega), w32_id (x := Lf - 3 - (4 * ll - 1) + 1) (by omega) (by omega), w32_id (x := 4 * ii) (by omega) (by omega), w32_id (by omega) (by omega)]
      omega
    rw [L221_76, rf_13.1, rf_13.2, if_pos (by omega), if_pos (by omega), ex, w32_id (x := r - 2) (by omega) (by omega), show ii.toNat = i by omega, hL i (by omega), q1, am_op_some]
    dsimp only
    rw [w32_id (by omega) (by omega)]
    obtain ⟨y', μ2, r1, r2, r3⟩ := L221_76_ok hW hH hl hll hLf hxe hx0 hx1 hr n N (i + 1) _ μ1 (ii + 1) (by omega) (by omega) (by omega) (fun j hj => by rw [q3 _ _ (by omega)]; exact hL j hj) (by rw [q3 _ _ (by omega)]; exact h45) q2
    refine ⟨y', μ2, r1, ?_, q3.trans r3⟩
    rw [drop_c (show i < l.length by omega)]
    unfold wrl
    rw [dts_app, show x + 4 * (i : Int) + 4 = x + 4 * ((i + 1 : Nat) : Int) by omega]
    exact r2
end WD
/-- a label's letters are letters -/
theorem Cr_app {l r : List Int} (h1 : Cr l) (h2 : Cr r) : Cr (l ++ r) := fun i => by
  rw [gA]
  split
  · exact h1 i
  · exact h2 _
theorem Cr_1 {v : Int} (h : 0 ≤ v ∧ v ≤ 65535) : Cr [v] := Cr_cons h Cr_nil
theorem n_d_Cr {w : Int} (h : 0 ≤ w) : ∀ m, Cr (n_d w m)
  | 0 => Cr_1 (by omega)
  | m + 1 => Cr_cons (by omega) (n_d_Cr h m)
theorem n_f_Cr : ∀ k r, k ≤ 2 → 0 ≤ r → r < 1000 → Cr (n_f k r)
  | 0, r, _, h0, h1 => by
    unfold n_f
    split
    · exact Cr_nil
    · exact Cr_1 (by rw [show pw 0 = 1 from rfl, Int.ediv_one]; omega)
  | k + 1, r, hk, h0, h1 => by
    have p := pw_12 (k + 1) (by omega)
    unfold n_f
    split
    · exact Cr_nil
    · have a := Int.ediv_nonneg h0 (show 0 ≤ pw (k + 1) by omega)
      have b := Int.ediv_le_self (pw (k + 1)) h0
      have c := Int.emod_nonneg r (show pw (k + 1) ≠ 0 by omega)
      have d : r % pw (k + 1) ≤ r := by
        have e1 := Int.mul_ediv_add_emod r (pw (k + 1))
        have e2 := Int.mul_nonneg (show 0 ≤ pw (k + 1) by omega) a
        omega
      exact Cr_cons (by omega) (n_f_Cr k _ (by omega) c (by omega))
theorem n_l_Cr (v : Int) : Cr (n_l v) := by
  have ha : 0 ≤ n_a v := by unfold n_a; split <;> omega
  unfold n_l
  refine Cr_app (Cr_app ?_ (n_d_Cr (by omega) _)) ?_
  · split
    · exact Cr_1 (by omega)
    · exact Cr_nil
  · split
    · exact Cr_nil
    · exact Cr_cons (by omega) (n_f_Cr 2 _ (by omega) (by omega) (by omega))
