/-! Marks. -/
def iA (W H Lf x y : Int) : List Dot := if Lf ≤ x ∧ x ≤ W - 2 ∧ 1 ≤ y ∧ y ≤ H - 9 then [(x, y, 3)] else []
def pt1 (W H Lf x y : Int) : List Dot := (x, y, 3) :: (iA W H Lf (x - 1) y ++ (iA W H Lf (x + 1) y ++ (iA W H Lf x (y - 1) ++ iA W H Lf x (y + 1))))
def pts (W H Lf : Int) (X Y : Nat → Int) : Nat → Nat → List Dot
  | 0, _ => []
  | m + 1, i => pt1 W H Lf (X i) (Y i) ++ pts W H Lf X Y m (i + 1)
/-- a group's row -/
def gr (H fi la : Int) (seg : Nat → Nat → Int) (S : Nat) (O : List Nat) (i : Nat) : Int := rw_ H fi la (dsum (seg (O.getD i 0)) S)
/-- every total lies on the scale -/
def hT (fi la : Int) (seg : Nat → Nat → Int) (S : Nat) (O : List Nat) : Prop := ∀ i, i < O.length → fi * 27720 ≤ dsum (seg (O.getD i 0)) S ∧ dsum (seg (O.getD i 0)) S ≤ la * 27720
section MKc
variable {W H st fi la lo hi Lf A : Int} {n : Nat} {M S : Nat} {seg : Nat → Nat → Int} {lab : Nat → List Int} {O : List Nat}
theorem fn152_ok (hH : 18 ≤ H ∧ H ≤ 64) (hS : SN st fi la n lo hi) (hM : M ≤ 12) (hO8 : O.length ≤ 8) (hOm : ∀ g ∈ O, g < M) (ht : hT fi la seg S O) {μ : am_M} (hG : GC M S seg lab O μ) (hC3 : C3 st fi la μ) (h2 : μ 234 2 = H) {i : Nat} (hi : i < O.length) {x : Int} (hx : x = i) : fn152 0 x μ = some (gr H fi la seg S O i, μ) := by
  obtain ⟨t1, t2⟩ := ht i hi
  unfold fn152 fn139
  rw [rf_14.2.2.1, rf_14.2.2.2.1, rf_14.2.2.2.2.2.1, fn109_ok hG hM (by omega) hOm hi hx, am_op_some]
  dsimp only
  rw [am_op_some]
  dsimp only
  rw [h2, fn140_ok hS hH hC3 t1 t2, am_op_some]
  rfl
theorem gr_rng (hH : 18 ≤ H ∧ H ≤ 64) (hS : SN st fi la n lo hi) (ht : hT fi la seg S O) {i : Nat} (hi : i < O.length) : 1 ≤ gr H fi la seg S O i ∧ gr H fi la seg S O i ≤ H - 9 := by
  obtain ⟨t1, t2⟩ := ht i hi
  exact rw_rng hS hH t1 t2
theorem fn156_ok (hW : 0 ≤ W ∧ W ≤ 96) (hH : 18 ≤ H ∧ H ≤ 64) {P : Cv} {μ : am_M} (h2 : μ 231 2 = Lf) (hP : PC W H P μ) (x y : Int) : ∃ μ', fn156 0 x y μ = some (0, μ') ∧ PC W H (dts P (iA W H Lf x y)) μ' ∧ Fc μ μ' := by
  unfold fn156 fn135 fn123 fn136 iA
  rw [rf_14.2.2.2.2.1, rf_14.2.2.2.2.2.1, am_op_some]
  dsimp only
  rw [h2]
  by_cases c1 : x < Lf
  · rw [if_pos c1, if_neg (by omega)]; exact ⟨_, rfl, hP, Fc.refl _⟩
  rw [if_neg c1, am_op_some]
  dsimp only
  rw [hP.1, w32_id (x := W - 2) (by omega) (by omega)]
  by_cases c2 : W - 2 < x
  · rw [if_pos c2, if_neg (by omega)]; exact ⟨_, rfl, hP, Fc.refl _⟩
  rw [if_neg c2]
  by_cases c3 : y < 1
  · rw [if_pos c3, if_neg (by omega)]; exact ⟨_, rfl, hP, Fc.refl _⟩
  rw [if_neg c3, am_op_some]
  dsimp only
  rw [hP.2.1, w32_id (x := H - 9) (by omega) (by omega)]
  by_cases c4 : H - 9 < y
  · rw [if_pos c4, if_neg (by omega)]; exact ⟨_, rfl, hP, Fc.refl _⟩
  obtain ⟨μ1, q1, q2, q3⟩ := fn137_ok hW.2 hH.2 (x := x) (y := y) (v := 3) (by omega) hP
  rw [if_neg c4, q1, am_op_some, if_pos (by omega)]
  exact ⟨_, rfl, q2, q3⟩
theorem L157_ok (hW : 0 ≤ W ∧ W ≤ 96) (hH : 18 ≤ H ∧ H ≤ 64) (hS : SN st fi la n lo hi) (hWA : W - 1 - Lf = A) (hD : BD Lf A O.length) (hM : M ≤ 12) (hOm : ∀ g ∈ O, g < M) (ht : hT fi la seg S O) : ∀ (m N i : Nat) (P : Cv) (μ : am_M) (y : Int), m < N → y = i → i + m = O.length → GC M S seg lab O μ → C3 st fi la μ → BC Lf A O.length μ → PC W H P μ → ∃ y' μ', L157_2 0 N y μ = some (.inr (y', μ')) ∧ PC W H (dts P (pts W H Lf (b_m Lf A O.length) (gr H fi la seg S O) m i)) μ' ∧ Fc μ μ'
  | m, 0, _, _, _, _, hN, _, _, _, _, _, _ => absurd hN (by omega)
  | 0, N + 1, i, P, μ, y, hN, hy, hm, hG, hC3, hC, hP => by
    rw [L157_2, rf_14.2.2.1]
    unfold fn101
    rw [am_op_some]
    dsimp only
    rw [if_neg (by rw [hG.2.1]; omega)]
    exact ⟨_, _, rfl, hP, Fc.refl _⟩
  | m + 1, N + 1, i, P, μ, y, hN, hy, hm, hG, hC3, hC, hP => by
    have hO8 := hD.2.2.2
    have br := b_m_rng hD (i := i) (by omega)
    have gg := gr_rng hH hS ht (i := i) (by omega)
    have d1 := hD.1; have d2 := hD.2.1
    rw [L157_2, rf_14.2.2.1, rf_14.2.2.2.2.1]
    unfold fn101
    rw [am_op_some]
    dsimp only
    rw [if_pos (by rw [hG.2.1]; omega), fn128_ok hD hC (i := i) (by omega) hy, am_op_some]
    dsimp only
    rw [fn152_ok hH hS hM hO8 hOm ht hG hC3 hP.2.1 (i := i) (by omega) hy, am_op_some]
    dsimp only
    rw [w32_id (x := y + 1) (by omega) (by omega)]
    unfold pts pt1
    generalize b_m Lf A O.length i = bx at *
    generalize gr H fi la seg S O i = gy at *
    rw [w32_id (x := bx - 1) (by omega) (by omega), w32_id (x := bx + 1) (by omega) (by omega), w32_id (x := gy - 1) (by omega) (by omega), w32_id (x := gy + 1) (by omega) (by omega)]
    obtain ⟨μ1, p1, p2, p3⟩ := fn156_ok hW hH hC.1 hP bx gy
    obtain ⟨μ2, q1, q2, q3⟩ := fn156_ok (Lf := Lf) hW hH (by rw [p3 _ _ (by omega)]; exact hC.1) p2 (bx - 1) gy
    obtain ⟨μ3, r1, r2, r3⟩ := fn156_ok (Lf := Lf) hW hH (by rw [q3 _ _ (by omega), p3 _ _ (by omega)]; exact hC.1) q2 (bx + 1) gy
    obtain ⟨μ4, s1, s2, s3⟩ := fn156_ok (Lf := Lf) hW hH (by rw [r3 _ _ (by omega), q3 _ _ (by omega), p3 _ _ (by omega)]; exact hC.1) r2 bx (gy - 1)
    obtain ⟨μ5, t1, t2, t3⟩ := fn156_ok (Lf := Lf) hW hH (by rw [s3 _ _ (by omega), r3 _ _ (by omega), q3 _ _ (by omega), p3 _ _ (by omega)]; exact hC.1) s2 bx (gy + 1)
    have F : Fc μ μ5 := p3.trans (q3.trans (r3.trans (s3.trans t3)))
    rw [p1, am_op_some]
    dsimp only
    rw [q1, am_op_some]
    dsimp only
    rw [r1, am_op_some]
    dsimp only
    rw [s1, am_op_some]
    dsimp only
    rw [t1, am_op_some]
    dsimp only
    have ei : iA W H Lf bx gy = [(bx, gy, 3)] := by unfold iA; rw [if_pos (by omega)]
    rw [ei] at t2
    obtain ⟨y', μ6, u1, u2, u3⟩ := L157_ok hW hH hS hWA hD hM hOm ht m N (i + 1) _ μ5 (y + 1) (by omega) (by omega) (by omega) (hG.fr hM (fun c t _ _ => F c t (by omega))) (hC3.fr (fun t => F _ _ (by omega))) (hC.fr (fun t _ _ => F _ _ (by omega))) t2
    refine ⟨y', μ6, u1, ?_, F.trans u3⟩
    rw [dts_app]
    show PC W H (dts (dts (dt P (bx, gy, 3)) (iA W H Lf (bx - 1) gy ++ (iA W H Lf (bx + 1) gy ++ (iA W H Lf bx (gy - 1) ++ iA W H Lf bx (gy + 1))))) _) μ6
    rw [dts_app, dts_app, dts_app]
    exact u2
theorem L155_ok (hW : 0 ≤ W ∧ W ≤ 96) (hH : 18 ≤ H ∧ H ≤ 64) (hS : SN st fi la n lo hi) (hWA : W - 1 - Lf = A) (hD : BD Lf A O.length) (hM : M ≤ 12) (hOm : ∀ g ∈ O, g < M) (ht : hT fi la seg S O) : ∀ (m N i : Nat) (P : Cv) (μ : am_M) (y : Int), m < N → y = i → 1 ≤ i → i + m = O.length → GC M S seg lab O μ → C3 st fi la μ → BC Lf A O.length μ → PC W H P μ → ∃ y' μ', L155_23 0 N y μ = some (.inr (y', μ')) ∧ PC W H (dts P (lnc (b_m Lf A O.length) (gr H fi la seg S O) m i)) μ' ∧ Fc μ μ'
  | m, 0, _, _, _, _, hN, _, _, _, _, _, _, _ => absurd hN (by omega)
  | 0, N + 1, i, P, μ, y, hN, hy, h1, hm, hG, hC3, hC, hP => by
    rw [L155_23, rf_14.2.2.1]
    unfold fn101
    rw [am_op_some]
    dsimp only
    rw [if_neg (by rw [hG.2.1]; omega)]
    exact ⟨_, _, rfl, hP, Fc.refl _⟩
  | m + 1, N + 1, i, P, μ, y, hN, hy, h1, hm, hG, hC3, hC, hP => by
    have hO8 := hD.2.2.2
    have br := b_m_rng hD (i := i) (by omega)
    have br1 := b_m_rng hD (i := i - 1) (by omega)
    have bi := b_m_inc hD (i := i - 1) (by omega)
    rw [show i - 1 + 1 = i by omega] at bi
    have gg := gr_rng hH hS ht (i := i) (by omega)
    have gg1 := gr_rng hH hS ht (i := i - 1) (by omega)
    have d1 := hD.1; have d2 := hD.2.1
    obtain ⟨μ1, q1, q2, q3⟩ := fn154_ok hW.2 hH.2 (x1 := b_m Lf A O.length (i - 1)) (y1 := gr H fi la seg S O (i - 1)) (x2 := b_m Lf A O.length i) (y2 := gr H fi la seg S O i) (by omega) (by omega) (by omega) (by omega) (by omega) hP
    rw [L155_23, rf_14.2.2.1, rf_14.2.2.2.2.1, rf_14.2.2.2.2.2.1]
    unfold fn101
    rw [am_op_some]
    dsimp only
    rw [if_pos (by rw [hG.2.1]; omega), w32_id (x := y - 1) (by omega) (by omega), fn128_ok hD hC (i := i - 1) (by omega) (by omega), am_op_some]
    dsimp only
    rw [fn152_ok hH hS hM hO8 hOm ht hG hC3 hP.2.1 (i := i - 1) (by omega) (by omega), am_op_some]
    dsimp only
    rw [fn128_ok hD hC (i := i) (by omega) hy, am_op_some]
    dsimp only
    rw [fn152_ok hH hS hM hO8 hOm ht hG hC3 hP.2.1 (i := i) (by omega) hy, am_op_some]
    dsimp only
    rw [q1, am_op_some]
    dsimp only
    rw [w32_id (by omega) (by omega)]
    obtain ⟨y', μ2, u1, u2, u3⟩ := L155_ok hW hH hS hWA hD hM hOm ht m N (i + 1) _ μ1 (y + 1) (by omega) (by omega) (by omega) (by omega) (hG.fr hM (fun c t _ _ => q3 c t (by omega))) (hC3.fr (fun t => q3 _ _ (by omega))) (hC.fr (fun t _ _ => q3 _ _ (by omega))) q2
    refine ⟨y', μ2, u1, ?_, q3.trans u3⟩
    unfold lnc
    rw [dts_app]
    exact u2
theorem L133_ok {l3 : Int} (h3 : l3 = 6144) : ∀ (m N i : Nat) (μ : am_M) (y : Int), m < N → y = i → i + m = 6144 → (∀ j, j < i → μ 235 j = 0) → ∃ y' μ', L133_5 235 0 l3 N y μ = some (.inr (y', μ')) ∧ (∀ j, j < 6144 → μ' 235 j = 0) ∧ Fc μ μ'
  | m, 0, _, _, _, hN, _, _, _ => absurd hN (by omega)
  | 0, N + 1, i, μ, y, hN, hy, hm, h => by
    rw [L133_5, if_neg (by omega)]
    exact ⟨_, _, rfl, fun j hj => h j (by omega), Fc.refl _⟩
  | m + 1, N + 1, i, μ, y, hN, hy, hm, h => by
    rw [L133_5, rf_14.2.2.2.2.2.2.2.2.2.2.2.2.1, if_pos (by omega), if_pos (by omega), o_nb_id (by omega) (by omega), w32_id (by omega) (by omega), show y.toNat = i by omega]
    obtain ⟨y', μ2, u1, u2, u3⟩ := L133_ok h3 m N (i + 1) (am_up μ 235 i 0) (y + 1) (by omega) (by omega) (by omega) (fun j hj => by
      by_cases e : j = i
      · rw [e, am_up_at]
      · rw [up_ne (by omega)]; exact h j (by omega))
    exact ⟨y', μ2, u1, u2, fun c t hc => by rw [u3 c t hc, up_ne (by omega)]⟩
theorem fn134_ok (hW : W ≤ 96) (hH : H ≤ 64) {μ : am_M} (h1 : μ 234 1 = W) (h2 : μ 234 2 = H) : ∃ μ', fn134 234 μ = some (0, μ') ∧ PC W H (fun _ _ => 0) μ' ∧ Fc μ μ' := by
  obtain ⟨y', μ1, q1, q2, q3⟩ := L133_ok (l3 := 6144) rfl 6144 am_fuel 0 μ 0 (by unfold am_fuel; omega) rfl rfl (fun j hj => absurd hj (by omega))
  unfold fn134 fn133
  rw [rf_14.2.2.2.2.2.2.2.2.2.2.2.1, rf_14.2.2.2.2.2.2.2.2.2.2.2.2.1, show (((6144 : Nat) : Int)) = 6144 from rfl, q1, am_op_some, am_lp_r]
  dsimp only
  rw [am_op_some]
  exact ⟨μ1, rfl, ⟨by rw [q3 _ _ (by omega)]; exact h1, by rw [q3 _ _ (by omega)]; exact h2, fun a b ha hb => q2 _ (by omega)⟩, q3⟩
/-- what the marks paint -/
def mkl (W H fi la Lf A : Int) (S : Nat) (seg : Nat → Nat → Int) (O : List Nat) (mk : Int) : List Dot := if mk = 0 then brg H fi la Lf A O.length S seg O O.length 0 else if mk = 1 then lnr (b_m Lf A O.length) (gr H fi la seg S O) O.length 0 else pts W H Lf (b_m Lf A O.length) (gr H fi la seg S O) O.length 0
/-- the picture -/
def pic (W H st fi la Lf A : Int) (n S : Nat) (seg : Nat → Nat → Int) (O : List Nat) (ln : Nat → Nat) (lb : Nat → List Int) (mk : Int) : Cv := dts (dts (dts (dts (fun _ _ => 0) (axl W H st fi la Lf n)) (tlb H st fi la Lf n 0 H)) (glb W H Lf A O.length ln lb (srd W Lf A O.length ln) O.length 0)) (mkl W H fi la Lf A S seg O mk)
theorem fn158_ok {ln : Nat → Nat} {mk : Int} (hmk : mk = 0 ∨ mk = 1 ∨ mk = 2) (hW : 20 ≤ W ∧ W ≤ 96) (hH : 18 ≤ H ∧ H ≤ 64) (hS : SN st fi la n lo hi) (hLf : Lf = 4 * mxl st fi n + 2) (hWA : W - 1 - Lf = A) (hD : BD Lf A O.length) (hM : M ≤ 12) (hSS : S ≤ 12) (hB : sB seg) (hOm : ∀ g ∈ O, g < M) (hl : ∀ g, g < M → (lab g).length ≤ 12 ∧ Cr (lab g)) (hln : ∀ i, i < O.length → ln i = (lab (O.getD i 0)).length ∧ 1 ≤ ln i ∧ l_w ln i ≤ W) (hv : mk = 0 → hV fi la seg S O) (ht : mk ≠ 0 → hT fi la seg S O) {μ : am_M} (hG : GC M S seg lab O μ) (hC3 : C3 st fi la μ) (hY : LYC W Lf A O.length ln μ) (h1 : μ 234 1 = W) (h2 : μ 234 2 = H) (h5 : μ 141 5 = mk) : ∃ μ', fn158 0 μ = some (0, μ') ∧ PC W H (pic W H st fi la Lf A n S seg O ln (fun i => lab (O.getD i 0)) mk) μ' ∧ Fy μ μ' := by
  have hO1 := hD.2.2.1
  have hO8 := hD.2.2.2
  have d1 := hD.1; have d2 := hD.2.1
  obtain ⟨μ1, p1, p2, p3⟩ := fn134_ok hW.2 hH.2 h1 h2
  have f1 := p3.k
  obtain ⟨μ2, q1, q2, q3⟩ := fn142_ok hW.2 hH hS (Lf := Lf) (by omega) (by omega) (hC3.fr (fun t => f1 _ _ (by omega))) (by rw [f1 _ _ (by omega)]; exact hY.1.1) p2
  have f2 := f1.trans q3.k
  obtain ⟨μ3, r1, r2, r3⟩ := fn145_ok hW.2 hH hS hLf (hC3.fr (fun t => f2 _ _ (by omega))) (by rw [f2 _ _ (by omega)]; exact hY.1.1) q2
  have f3 := f2.trans r3
  have hG3 : GC M S seg lab O μ3 := hG.fr hM (fun c t _ _ => f3 c t (by omega))
  have hY3 : LYC W Lf A O.length ln μ3 := ⟨hY.1.fr (fun t _ _ => f3 _ _ (by omega)), fun j hj => by rw [f3 _ _ (by omega), f3 _ _ (by omega)]; exact hY.2.1 j hj, by rw [f3 _ _ (by omega)]; exact hY.2.2⟩
  obtain ⟨μ4, s1, s2, s3⟩ := fn149_ok hW.2 hH hM hO1 hO8 hOm hl hln hG3 hY3 r2
  have f4 := f3.trans s3.k
  have hG4 : GC M S seg lab O μ4 := hG.fr hM (fun c t _ _ => f4 c t (by omega))
  have hC4 : C3 st fi la μ4 := hC3.fr (fun t => f4 _ _ (by omega))
  have hB4 : BC Lf A O.length μ4 := hY.1.fr (fun t _ _ => f4 _ _ (by omega))
  have h54 : μ4 141 5 = mk := by rw [f4 _ _ (by omega)]; exact h5
  unfold fn158 pic mkl
  rw [rf_14.2.2.2.2.2.1, rf_14.2.2.2.2.2.2.2.2.2.2.2.2.2.1, p1, am_op_some]
  dsimp only
  rw [q1, am_op_some]
  dsimp only
  rw [r1, am_op_some]
  dsimp only
  rw [s1, am_op_some]
  unfold fn102
  dsimp only
  rw [am_op_some]
  dsimp only
  by_cases c0 : mk = 0
  · obtain ⟨y', μ5, t1, t2, t3⟩ := L151_2_ok (lab := lab) hW.2 hH hS hD hB hM hSS hOm (hv c0) O.length am_fuel 0 _ μ4 0 (by unfold am_fuel; omega) rfl (by omega) hG4 hC4 hB4 s2
    rw [if_pos (by rw [h54]; exact c0), if_pos c0]
    unfold fn151
    rw [t1, am_op_some, am_lp_r]
    dsimp only
    rw [am_op_some]
    exact ⟨_, rfl, t2, f4.trans t3.k⟩
  · rw [if_neg (by rw [h54]; exact c0), if_neg c0, am_op_some]
    dsimp only
    by_cases c1 : mk = 1
    · have br := b_m_rng hD (i := 0) (by omega)
      have gg := gr_rng hH hS (ht c0) (i := 0) (by omega)
      obtain ⟨μ5, t1, t2, t3⟩ := fn137_ok hW.2 hH.2 (x := b_m Lf A O.length 0) (y := gr H fi la seg S O 0) (v := 3) (by omega) s2
      obtain ⟨y', μ6, u1, u2, u3⟩ := L155_ok (lab := lab) (S := S) ⟨by omega, hW.2⟩ hH hS hWA hD hM hOm (ht c0) (O.length - 1) am_fuel 1 _ μ5 1 (by unfold am_fuel; omega) rfl (by omega) (by omega) (hG4.fr hM (fun c t _ _ => t3 c t (by omega))) (hC4.fr (fun t => t3 _ _ (by omega))) (hB4.fr (fun t _ _ => t3 _ _ (by omega))) t2
      rw [if_pos (by rw [h54]; exact c1), if_pos c1]
      unfold fn155
      rw [rf_14.2.2.2.2.1, rf_14.2.2.2.2.2.1, fn128_ok hD hB4 (i := 0) (by omega) (show (0 : Int) = ((0 : Nat) : Int) from rfl), am_op_some]
      dsimp only
      rw [fn152_ok hH hS hM hO8 hOm (ht c0) hG4 hC4 s2.2.1 (i := 0) (by omega) (show (0 : Int) = ((0 : Nat) : Int) from rfl), am_op_some]
      dsimp only
      rw [t1, am_op_some]
      dsimp only
      rw [u1, am_op_some, am_lp_r]
      dsimp only
      rw [am_op_some]
      refine ⟨_, rfl, ?_, f4.trans (t3.trans u3).k⟩
      have e := ln_eq (X := b_m Lf A O.length) (Y := gr H fi la seg S O) hO1 (fun i hi => b_m_inc hD hi) (dts (dts (dts (fun _ _ => 0) (axl W H st fi la Lf n)) (tlb H st fi la Lf n 0 H)) (glb W H Lf A O.length ln (fun i => lab (O.getD i 0)) (srd W Lf A O.length ln) O.length 0))
      rw [← e]
      exact u2
    · obtain ⟨y', μ5, t1, t2, t3⟩ := L157_ok (lab := lab) (S := S) ⟨by omega, hW.2⟩ hH hS hWA hD hM hOm (ht c0) O.length am_fuel 0 _ μ4 0 (by unfold am_fuel; omega) rfl (by omega) hG4 hC4 hB4 s2
      rw [if_neg (by rw [h54]; exact c1), if_neg c1]
      unfold fn157
      rw [t1, am_op_some, am_lp_r]
      dsimp only
      rw [am_op_some]
      exact ⟨_, rfl, t2, f4.trans t3.k⟩
end MKc
