/-! Axes and labels. -/
def tkl (H st fi la Lf : Int) : Nat → Nat → List Dot
  | 0, _ => []
  | m + 1, i => (Lf - 2, tr H st fi la i, 1) :: tkl H st fi la Lf m (i + 1)
def axl (W H st fi la Lf : Int) (n : Nat) : List Dot := blk (Lf - 1) 1 1 (H - 9).toNat 1 ++ (hln (H - 8) 1 (W - Lf).toNat (Lf - 1) ++ tkl H st fi la Lf n 0)
def tlx (st fi Lf : Int) (i : Nat) : Int := Lf - 2 - (4 * (((n_l (tv st fi i)).length : Nat) : Int) - 1)
def tlb (H st fi la Lf : Int) : Nat → Nat → Int → List Dot
  | 0, _, _ => []
  | m + 1, i, f => if 2 ≤ tr H st fi la i ∧ tr H st fi la i + 2 < f then wrl (tr H st fi la i - 2) (tlx st fi Lf i) (n_l (tv st fi i)) ++ tlb H st fi la Lf m (i + 1) (tr H st fi la i - 3) else tlb H st fi la Lf m (i + 1) f
def Fy (μ μ' : am_M) : Prop := ∀ c t, ¬ (235 ≤ c ∧ c ≤ 237) → μ' c t = μ c t
theorem Fy.trans {μ μ1 μ2 : am_M} (h : Fy μ μ1) (h2 : Fy μ1 μ2) : Fy μ μ2 := fun c t h3 => by rw [h2 c t h3, h c t h3]
theorem Fy.refl (μ : am_M) : Fy μ μ := fun _ _ _ => rfl
theorem Fc.k {μ μ' : am_M} (h : Fc μ μ') : Fy μ μ' := fun c t h3 => h c t (by omega)
def Fz (μ μ' : am_M) : Prop := ∀ c t, ¬ (c = 258 ∨ c = 259) → μ' c t = μ c t
theorem Fz.trans {μ μ1 μ2 : am_M} (h : Fz μ μ1) (h2 : Fz μ1 μ2) : Fz μ μ2 := fun c t h3 => by rw [h2 c t h3, h c t h3]
theorem Fz.refl (μ : am_M) : Fz μ μ := fun _ _ _ => rfl
theorem F9.z {μ μ' : am_M} (h : F9 μ μ') : Fz μ μ' := fun c t h3 => h c t (by omega)
theorem F8.z {μ μ' : am_M} (h : F8 μ μ') : Fz μ μ' := fun c t h3 => h c t (by omega)
section AX
variable {W H st fi la lo hi Lf A : Int} {n c : Nat}
theorem L142_ok (hW : W ≤ 96) (hH : 18 ≤ H ∧ H ≤ 64) (hS : SN st fi la n lo hi) {l1 : Int} (hl1 : l1 = Lf) (hLf : 0 ≤ Lf ∧ Lf ≤ 96) : ∀ (m N i : Nat) (P : Cv) (μ : am_M) (y : Int), m < N → y = i → i + m = n → C3 st fi la μ → PC W H P μ → ∃ y' μ', L142_68 0 l1 N y μ = some (.inr (y', μ')) ∧ PC W H (dts P (tkl H st fi la Lf m i)) μ' ∧ Fc μ μ'
  | m, 0, _, _, _, _, hN, _, _, _, _ => absurd hN (by omega)
  | 0, N + 1, i, P, μ, y, hN, hy, hm, hC, hP => by
    rw [L142_68, rf_14.2.2.2.1, fn115_ok hS hC, am_op_some]
    dsimp only
    rw [if_neg (by omega)]
    exact ⟨_, _, rfl, hP, Fc.refl _⟩
  | m + 1, N + 1, i, P, μ, y, hN, hy, hm, hC, hP => by
    have hn := hS.2.1
    obtain ⟨μ1, q1, q2, q3⟩ := fn137_ok hW hH.2 (x := Lf - 2) (y := tr H st fi la i) (v := 1) (by omega) hP
    rw [L142_68, rf_14.2.2.2.1, rf_14.2.2.2.2.2.1, fn115_ok hS hC, am_op_some]
    dsimp only
    rw [if_pos (by omega), fn141_ok hS hH hC hP.2.1 (k := i) (by omega) hy, am_op_some]
    dsimp only
    rw [hl1, w32_id (x := Lf - 2) (by omega) (by omega), q1, am_op_some]
    dsimp only
    rw [w32_id (x := y + 1) (by omega) (by omega)]
    obtain ⟨y', μ2, r1, r2, r3⟩ := L142_ok hW hH hS hl1 hLf m N (i + 1) _ μ1 (y + 1) (by omega) (by omega) (by omega) (hC.fr (fun t => q3 _ _ (by omega))) q2
    rw [hl1] at r1
    exact ⟨y', μ2, r1, r2, q3.trans r3⟩
theorem fn142_ok (hW : W ≤ 96) (hH : 18 ≤ H ∧ H ≤ 64) (hS : SN st fi la n lo hi) (hLf : 0 ≤ Lf ∧ Lf ≤ 96) (hW0 : 0 ≤ W) {P : Cv} {μ : am_M} (hC : C3 st fi la μ) (h2 : μ 231 2 = Lf) (hP : PC W H P μ) : ∃ μ', fn142 0 μ = some (0, μ') ∧ PC W H (dts P (axl W H st fi la Lf n)) μ' ∧ Fc μ μ' := by
  have hn := hS.2.1
  obtain ⟨p1, p2, p3⟩ := hP
  obtain ⟨μ1, q1, q2, q3⟩ := fn138_ok hW hH.2 (a := Lf - 1) (b := Lf - 1) (c := 1) (d := H - 9) (e := 1) (by omega) (by omega) (by omega) (by omega) (by omega) ⟨p1, p2, p3⟩
  obtain ⟨μ2, r1, r2, r3⟩ := fn138_ok hW hH.2 (a := Lf - 1) (b := W - 2) (c := H - 8) (d := H - 8) (e := 1) (by omega) (by omega) (by omega) (by omega) (by omega) q2
  have hC2 : C3 st fi la μ2 := hC.fr (fun t => by rw [r3 _ _ (by omega), q3 _ _ (by omega)])
  obtain ⟨y', μ3, s1, s2, s3⟩ := L142_ok hW hH hS (l1 := Lf) rfl hLf n am_fuel 0 _ μ2 0 (by unfold am_fuel; omega) rfl (by omega) hC2 r2
  unfold fn142
  rw [rf_14.2.2.2.2.1, rf_14.2.2.2.2.2.1]
  unfold fn135 fn136 fn123
  rw [am_op_some, am_op_some]
  dsimp only
  rw [h2, p2, w32_id (x := Lf - 1) (by omega) (by omega), w32_id (x := H - 9) (by omega) (by omega), q1, am_op_some, am_op_some, am_op_some, am_op_some]
  dsimp only
  rw [q2.1, q2.2.1, w32_id (x := W - 2) (by omega) (by omega), w32_id (x := H - 9) (by omega) (by omega), w32_id (x := H - 9 + 1) (by omega) (by omega), show H - 9 + 1 = H - 8 by omega, r1, am_op_some]
  dsimp only
  rw [s1, am_op_some, am_lp_r]
  refine ⟨_, rfl, ?_, q3.trans (r3.trans s3)⟩
  unfold axl
  rw [dts_app, dts_app]
  rw [show (Lf - 1 + 1 - (Lf - 1)).toNat = 1 by omega, show (H - 9 + 1 - 1).toNat = (H - 9).toNat by omega, show (W - 2 + 1 - (Lf - 1)).toNat = (W - Lf).toNat by omega, show (H - 8 + 1 - (H - 8)).toNat = 1 by omega] at s2
  have e : blk (Lf - 1) 1 (W - Lf).toNat 1 (H - 8) = hln (H - 8) 1 (W - Lf).toNat (Lf - 1) := by unfold blk blk; rw [List.append_nil]
  rw [e] at s2
  exact s2
theorem tlx_rng (i : Nat) (hi : i < n) (hLf : Lf = 4 * mxl st fi n + 2) : 1 ≤ tlx st fi Lf i ∧ tlx st fi Lf i + 2 < Lf := by
  have := mxl_ge st fi n i hi
  have l := n_l_len (tv st fi i)
  have := mxl_rng st fi n
  unfold tlx
  omega
theorem L145_ok (hW : W ≤ 96) (hH : 18 ≤ H ∧ H ≤ 64) (hS : SN st fi la n lo hi) (hLf : Lf = 4 * mxl st fi n + 2) : ∀ (m N i : Nat) (P : Cv) (μ : am_M) (y f : Int), m < N → y = i → i + m = n → -100 ≤ f ∧ f ≤ 100 → C3 st fi la μ → μ 231 2 = Lf → PC W H P μ → ∃ y' y'' μ', L145_10 0 N f y μ = some (.inr (y', y'', μ')) ∧ PC W H (dts P (tlb H st fi la Lf m i f)) μ' ∧ Fy μ μ'
  | m, 0, _, _, _, _, _, hN, _, _, _, _, _, _ => absurd hN (by omega)
  | 0, N + 1, i, P, μ, y, f, hN, hy, hm, hf, hC, h2, hP => by
    rw [L145_10, rf_14.2.2.2.1, fn115_ok hS hC, am_op_some]
    dsimp only
    rw [if_neg (by omega)]
    exact ⟨_, _, _, rfl, hP, Fy.refl _⟩
  | m + 1, N + 1, i, P, μ, y, f, hN, hy, hm, hf, hC, h2, hP => by
    have hn := hS.2.1
    have tr1 := tr_rng hS hH (k := i) (by omega)
    have r := tv_rng hS (k := i) (by omega)
    have d := hS.2.2.2.1
    have l := n_l_len (tv st fi i)
    have xr := tlx_rng (n := n) (st := st) (fi := fi) (Lf := Lf) i (by omega) hLf
    have mr := mxl_rng st fi n
    rw [L145_10, rf_14.2.2.2.1, rf_14.2.2.2.2.2.1, rf_14.2.2.2.2.2.2.1, rf_14.2.2.2.2.1, fn115_ok hS hC, am_op_some]
    dsimp only
    rw [if_pos (by omega), fn141_ok hS hH hC hP.2.1 (k := i) (by omega) hy, am_op_some]
    dsimp only
    rw [w32_id (x := tr H st fi la i - 2) (by omega) (by omega), w32_id (x := tr H st fi la i - 2 + 5) (by omega) (by omega), w32_id (x := tr H st fi la i - 2 + 5 - 1) (by omega) (by omega), w32_id (x := tr H st fi la i - 2 - 1) (by omega) (by omega), w32_id (x := y + 1) (by omega) (by omega)]
    have no : ¬ (2 ≤ tr H st fi la i ∧ tr H st fi la i + 2 < f) → ∃ y' y'' μ', L145_10 0 N f (y + 1) μ = some (.inr (y', y'', μ')) ∧ PC W H (dts P (tlb H st fi la Lf (m + 1) i f)) μ' ∧ Fy μ μ' := fun z => by
      unfold tlb
      rw [if_neg z]
      exact L145_ok hW hH hS hLf m N (i + 1) P μ (y + 1) f (by omega) (by omega) (by omega) hf hC h2 hP
    by_cases c1 : tr H st fi la i - 2 < 0
    · rw [if_pos c1]; exact no (by omega)
    · rw [if_neg c1]
      by_cases c2 : tr H st fi la i - 2 + 5 - 1 < f
      · rw [if_pos c2, fn116_ok hS hC (k := i) (by omega) hy, am_op_some]
        dsimp only
        obtain ⟨μ1, q1, q2, q3⟩ := fn119_ok rf_14.1 rf_14.2.1 (by decide) (v := tv st fi i) (by omega) (by omega) μ
        rw [q1, am_op_some]
        unfold fn135
        dsimp only
        rw [am_op_some]
        dsimp only
        rw [fn120_ok q2 (by omega), am_op_some]
        dsimp only
        have e45 : μ1 231 2 = Lf := by rw [q3 _ _ (by omega) (by omega)]; exact h2
        rw [e45, w32_id (x := Lf - 2) (by omega) (by omega), w32_id (x := Lf - 2 - (4 * (((n_l (tv st fi i)).length : Nat) : Int) - 1)) (by omega) (by omega)]
        obtain ⟨μ2, r1, r2, r3⟩ := fn144_ok hW hH.2 rf_14.1 rf_14.2.1 (by omega) (by omega) (n_l_Cr (tv st fi i)) (by decide) (by decide) (x := tlx st fi Lf i) (y := tr H st fi la i - 2) (by omega) (by omega) q2 (hP.fr (fun c t hc => q3 c t (by omega) (by omega)))
        rw [show fn144 234 236 (Lf - 2 - (4 * (((n_l (tv st fi i)).length : Nat) : Int) - 1)) (tr H st fi la i - 2) μ1 = _ from r1, am_op_some]
        dsimp only
        have k1 : Fy μ μ2 := Fy.trans (μ1 := μ1) (fun c t hc => q3 c t (by omega) (by omega)) r3.k
        obtain ⟨y', y'', μ3, s1, s2, s3⟩ := L145_ok hW hH hS hLf m N (i + 1) _ μ2 (y + 1) (tr H st fi la i - 2 - 1) (by omega) (by omega) (by omega) (by omega) (hC.fr (fun t => k1 _ _ (by omega))) (by rw [k1 _ _ (by omega)]; exact h2) r2
        refine ⟨y', y'', μ3, s1, ?_, k1.trans s3⟩
        unfold tlb
        rw [if_pos (by omega), dts_app, show tr H st fi la i - 3 = tr H st fi la i - 2 - 1 by omega]
        exact s2
      · rw [if_neg c2]; exact no (by omega)
theorem fn145_ok (hW : W ≤ 96) (hH : 18 ≤ H ∧ H ≤ 64) (hS : SN st fi la n lo hi) (hLf : Lf = 4 * mxl st fi n + 2) {P : Cv} {μ : am_M} (hC : C3 st fi la μ) (h2 : μ 231 2 = Lf) (hP : PC W H P μ) : ∃ μ', fn145 0 μ = some (0, μ') ∧ PC W H (dts P (tlb H st fi la Lf n 0 H)) μ' ∧ Fy μ μ' := by
  have hn := hS.2.1
  obtain ⟨y', y'', μ1, q1, q2, q3⟩ := L145_ok hW hH hS hLf n am_fuel 0 P μ 0 H (by unfold am_fuel; omega) rfl (by omega) (by omega) hC h2 hP
  unfold fn145 fn139
  rw [rf_14.2.2.2.2.2.1, am_op_some]
  dsimp only
  rw [hP.2.1, q1, am_op_some, am_lp_r]
  exact ⟨_, rfl, q2, q3⟩
/-! The same: reference. -/
theorem L219_2_ok (hW : W ≤ 96) (hH : 18 ≤ H ∧ H ≤ 64) (hLf : 1 ≤ Lf ∧ Lf ≤ W) : ∀ (m N : Nat) (P : Cv) (μ : am_M) (y : Int), m < N → m = (H - 8 - y).toNat → 1 ≤ y → y ≤ H → μ 240 45 = Lf → PR W H P μ → ∃ y' μ', L219_2 240 N y μ = some (.inr (y', μ')) ∧ PR W H (dts P (blk (Lf - 1) 1 1 m y)) μ' ∧ F9 μ μ'
  | m, 0, _, _, _, hN, _, _, _, _, _ => absurd hN (by omega)
  | 0, N + 1, P, μ, y, hN, hm, h1, h9, h45, hP => by
    rw [L219_2, hP.2.1, w32_id (x := H - 9) (by omega) (by omega), if_pos (by omega)]
    exact ⟨_, _, rfl, hP, F9.refl _⟩
  | m + 1, N + 1, P, μ, y, hN, hm, h1, h9, h45, hP => by
    obtain ⟨μ1, q1, q2, q3⟩ := fn217_ok hW hH.2 (x := Lf - 1) (y := y) ⟨by omega, by omega⟩ 1 hP
    rw [L219_2, hP.2.1, w32_id (x := H - 9) (by omega) (by omega), if_neg (by omega), h45, w32_id (x := Lf - 1) (by omega) (by omega), q1, am_op_some]
    dsimp only
    rw [w32_id (by omega) (by omega)]
    obtain ⟨y', μ2, r1, r2, r3⟩ := L219_2_ok hW hH hLf m N _ μ1 (y + 1) (by omega) (by omega) (by omega) (by omega) (by rw [q3 _ _ (by omega)]; exact h45) q2
    exact ⟨y', μ2, r1, r2, q3.trans r3⟩
theorem L219_38_ok (hW : W ≤ 96) (hH : 18 ≤ H ∧ H ≤ 64) (hW0 : 0 ≤ W) : ∀ (m N : Nat) (P : Cv) (μ : am_M) (x : Int), m < N → m = (W - 1 - x).toNat → 0 ≤ x → x ≤ 200 → PR W H P μ → ∃ y' μ', L219_38 240 N x μ = some (.inr (y', μ')) ∧ PR W H (dts P (hln (H - 8) 1 m x)) μ' ∧ F9 μ μ'
  | m, 0, _, _, _, hN, _, _, _, _ => absurd hN (by omega)
  | 0, N + 1, P, μ, x, hN, hm, h0, h2, hP => by
    rw [L219_38, hP.1, w32_id (x := W - 2) (by omega) (by omega), if_pos (by omega)]
    exact ⟨_, _, rfl, hP, F9.refl _⟩
  | m + 1, N + 1, P, μ, x, hN, hm, h0, h2, hP => by
    obtain ⟨μ1, q1, q2, q3⟩ := fn217_ok hW hH.2 (x := x) (y := H - 8) ⟨by omega, by omega⟩ 1 hP
    rw [L219_38, hP.1, hP.2.1, w32_id (x := W - 2) (by omega) (by omega), if_neg (by omega), w32_id (x := H - 8) (by omega) (by omega), q1, am_op_some]
    dsimp only
    rw [w32_id (by omega) (by omega)]
    obtain ⟨y', μ2, r1, r2, r3⟩ := L219_38_ok hW hH hW0 m N _ μ1 (x + 1) (by omega) (by omega) (by omega) (by omega) q2
    exact ⟨y', μ2, r1, r2, q3.trans r3⟩
theorem L219_69_ok (hW : W ≤ 96) (hH : 18 ≤ H ∧ H ≤ 64) (hS : SN st fi la n lo hi) (hLf : 2 ≤ Lf ∧ Lf ≤ W) : ∀ (m N i : Nat) (P : Cv) (μ : am_M) (y : Int), m < N → y = i → i + m = n → R3 st fi la n μ → μ 240 45 = Lf → PR W H P μ → ∃ y' μ', L219_69 240 N y μ = some (.inr (y', μ')) ∧ PR W H (dts P (tkl H st fi la Lf m i)) μ' ∧ F9 μ μ'
  | m, 0, _, _, _, _, hN, _, _, _, _, _ => absurd hN (by omega)
  | 0, N + 1, i, P, μ, y, hN, hy, hm, hC, h45, hP => by
    rw [L219_69, if_neg (by rw [hC.2.2.2]; omega)]
    exact ⟨_, _, rfl, hP, F9.refl _⟩
  | m + 1, N + 1, i, P, μ, y, hN, hy, hm, hC, h45, hP => by
    have hn := hS.2.1
    have tr1 := tr_rng hS hH (k := i) (by omega)
    obtain ⟨μ1, q1, q2, q3⟩ := fn217_ok hW hH.2 (x := Lf - 2) (y := tr H st fi la i) ⟨by omega, by omega⟩ 1 hP
    rw [L219_69, if_pos (by rw [hC.2.2.2]; omega), r_tr hS hH hC hP.2.1 (k := i) (by omega) hy, am_op_some]
    dsimp only
    rw [h45, w32_id (x := Lf - 2) (by omega) (by omega), q1, am_op_some]
    dsimp only
    rw [w32_id (x := y + 1) (by omega) (by omega)]
    obtain ⟨y', μ2, r1, r2, r3⟩ := L219_69_ok hW hH hS hLf m N (i + 1) _ μ1 (y + 1) (by omega) (by omega) (by omega) (hC.fr (fun t _ _ => q3 _ _ (by omega))) (by rw [q3 _ _ (by omega)]; exact h45) q2
    exact ⟨y', μ2, r1, r2, q3.trans r3⟩
theorem fn219_ok (hW : W ≤ 96) (hH : 18 ≤ H ∧ H ≤ 64) (hS : SN st fi la n lo hi) (hLf : 2 ≤ Lf ∧ Lf ≤ W) {P : Cv} {μ : am_M} (hC : R3 st fi la n μ) (h45 : μ 240 45 = Lf) (hP : PR W H P μ) : ∃ μ', fn219 240 μ = some (0, μ') ∧ PR W H (dts P (axl W H st fi la Lf n)) μ' ∧ F9 μ μ' := by
  have hn := hS.2.1
  obtain ⟨y1, μ1, q1, q2, q3⟩ := L219_2_ok hW hH (Lf := Lf) (by omega) (H - 9).toNat am_fuel P μ 1 (by unfold am_fuel; omega) (by omega) (by omega) (by omega) h45 hP
  obtain ⟨y2, μ2, r1, r2, r3⟩ := L219_38_ok hW hH (by omega) (W - Lf).toNat am_fuel _ μ1 (Lf - 1) (by unfold am_fuel; omega) (by omega) (by omega) (by omega) q2
  have h45' : μ2 240 45 = Lf := by rw [r3 _ _ (by omega), q3 _ _ (by omega)]; exact h45
  obtain ⟨y3, μ3, s1, s2, s3⟩ := L219_69_ok hW hH hS hLf n am_fuel 0 _ μ2 0 (by unfold am_fuel; omega) rfl (by omega) (hC.fr (fun t _ _ => by rw [r3 _ _ (by omega), q3 _ _ (by omega)])) h45' r2
  unfold fn219
  rw [q1, am_op_some, am_lp_r]
  dsimp only
  rw [q3 _ _ (show (240 : Nat) ≠ 259 by decide), h45, w32_id (x := Lf - 1) (by omega) (by omega), r1, am_op_some, am_lp_r]
  dsimp only
  rw [s1, am_op_some, am_lp_r]
  refine ⟨_, rfl, ?_, q3.trans (r3.trans s3)⟩
  unfold axl
  rw [dts_app, dts_app]
  exact s2
theorem L221_10_ok (hW : W ≤ 96) (hH : 18 ≤ H ∧ H ≤ 64) (hS : SN st fi la n lo hi) (hLf : Lf = 4 * mxl st fi n + 2) (hLW : Lf ≤ W) : ∀ (m N i : Nat) (P : Cv) (μ : am_M) (y f e : Int), m < N → y = i → i + m = n → (f = H ∧ e = H + 9) ∨ (f = e - 3 ∧ 1 ≤ e ∧ e ≤ H) → R3 st fi la n μ → μ 240 45 = Lf → PR W H P μ → ∃ y' y'' μ', L221_10 240 N e y μ = some (.inr (y', y'', μ')) ∧ PR W H (dts P (tlb H st fi la Lf m i f)) μ' ∧ Fz μ μ'
  | m, 0, _, _, _, _, _, _, hN, _, _, _, _, _, _ => absurd hN (by omega)
  | 0, N + 1, i, P, μ, y, f, e, hN, hy, hm, hf, hC, h45, hP => by
    rw [L221_10, if_neg (by rw [hC.2.2.2]; omega)]
    exact ⟨_, _, _, rfl, hP, Fz.refl _⟩
  | m + 1, N + 1, i, P, μ, y, f, e, hN, hy, hm, hf, hC, h45, hP => by
    have hn := hS.2.1
    have tr1 := tr_rng hS hH (k := i) (by omega)
    have r := tv_rng hS (k := i) (by omega)
    have d := hS.2.2.2.1
    have l := n_l_len (tv st fi i)
    have xr := tlx_rng (n := n) (st := st) (fi := fi) (Lf := Lf) i (by omega) hLf
    obtain ⟨μ1, q1, q2, q3⟩ := fn208_ok (v := tv st fi i) (by omega) (by omega) (r_tv hS hC (k := i) (by omega) hy)
    have hP1 : PR W H P μ1 := hP.fr (fun c t hc => q3 c t (by omega))
    rw [L221_10, if_pos (by rw [hC.2.2.2]; omega), r_tr hS hH hC hP.2.1 (k := i) (by omega) hy, am_op_some]
    dsimp only
    rw [q1, am_op_some]
    dsimp only
    rw [w32_id (x := tr H st fi la i - 2) (by omega) (by omega), w32_id (x := tr H st fi la i + 2) (by omega) (by omega), w32_id (x := e - 2) (by omega) (by omega), w32_id (x := e - 2 - (tr H st fi la i + 2)) (by omega) (by omega), w32_id (x := y + 1) (by omega) (by omega)]
    have no : ¬ (2 ≤ tr H st fi la i ∧ tr H st fi la i + 2 < f) → ∃ y' y'' μ', L221_10 240 N e (y + 1) μ1 = some (.inr (y', y'', μ')) ∧ PR W H (dts P (tlb H st fi la Lf (m + 1) i f)) μ' ∧ Fz μ μ' := fun z => by
      unfold tlb
      rw [if_neg z]
      obtain ⟨y', y'', μ2, s1, s2, s3⟩ := L221_10_ok hW hH hS hLf hLW m N (i + 1) P μ1 (y + 1) f e (by omega) (by omega) (by omega) hf (hC.fr (fun t _ _ => q3 _ _ (by omega))) (by rw [q3 _ _ (by omega)]; exact h45) hP1
      exact ⟨y', y'', μ2, s1, s2, q3.z.trans s3⟩
    by_cases c1 : tr H st fi la i - 2 < 0
    · rw [if_pos c1]; exact no (by omega)
    · rw [if_neg c1, if_pos (show tr H st fi la i + 2 < μ1 240 6 by rw [hP1.2.1]; omega)]
      by_cases c2 : e - 2 - (tr H st fi la i + 2) < 2
      · rw [if_pos c2]; exact no (by omega)
      · rw [if_neg c2]
        obtain ⟨y1, μ2, r1, r2, r3⟩ := L221_76_ok hW hH.2 (l := n_l (tv st fi i)) (by omega) (l2 := y) (r := tr H st fi la i) (Lf := Lf) (x := tlx st fi Lf i) rfl (by omega) rfl (by omega) hLW (by omega) (n_l (tv st fi i)).length am_fuel 0 P μ1 0 (by unfold am_fuel; omega) rfl (by omega) q2 (by rw [q3 _ _ (by omega)]; exact h45) hP1
        rw [r1, am_op_some, am_lp_r]
        dsimp only
        have k1 : Fz μ μ2 := q3.z.trans r3.z
        rw [show tlx st fi Lf i + 4 * ((0 : Nat) : Int) = tlx st fi Lf i by omega, List.drop_zero] at r2
        obtain ⟨y', y'', μ3, s1, s2, s3⟩ := L221_10_ok hW hH hS hLf hLW m N (i + 1) _ μ2 (y + 1) (tr H st fi la i - 3) (tr H st fi la i) (by omega) (by omega) (by omega) (by omega) (hC.fr (fun t _ _ => k1 _ _ (by omega))) (by rw [k1 _ _ (by omega)]; exact h45) r2
        refine ⟨y', y'', μ3, s1, ?_, k1.trans s3⟩
        unfold tlb
        rw [if_pos (by omega), dts_app]
        exact s2
end AX
