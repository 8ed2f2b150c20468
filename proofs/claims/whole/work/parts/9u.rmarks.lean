/-! Marks: reference. -/
section MKr
variable {W H st fi la lo hi Lf A : Int} {n : Nat}
variable {fs : List (List Int)} {cols recs x : Nat} {ws : List (List Int)} {h : Int × Int × Int × Int} {s : QC}
theorem fn222_ok (hW : 0 ≤ W ∧ W ≤ 96) (hH : 18 ≤ H ∧ H ≤ 64) (hLf : 0 ≤ Lf) {P : Cv} {μ : am_M} (h45 : μ 240 45 = Lf) (hP : PR W H P μ) (x y : Int) : ∃ μ', fn222 240 x y μ = some (0, μ') ∧ PR W H (dts P (iA W H Lf x y)) μ' ∧ F9 μ μ' := by
  unfold fn222 iA
  rw [hP.1, hP.2.1, w32_id (x := W - 2) (by omega) (by omega), w32_id (x := H - 9) (by omega) (by omega)]
  by_cases c1 : x < Lf
  · rw [if_pos (by rw [h45]; exact c1), if_neg (by omega)]; exact ⟨_, rfl, hP, F9.refl _⟩
  rw [if_neg (by rw [h45]; exact c1)]
  by_cases c2 : W - 2 < x
  · rw [if_pos c2, if_neg (by omega)]; exact ⟨_, rfl, hP, F9.refl _⟩
  rw [if_neg c2]
  by_cases c3 : y < 1
  · rw [if_pos c3, if_neg (by omega)]; exact ⟨_, rfl, hP, F9.refl _⟩
  rw [if_neg c3]
  by_cases c4 : H - 9 < y
  · rw [if_pos c4, if_neg (by omega)]; exact ⟨_, rfl, hP, F9.refl _⟩
  obtain ⟨μ1, q1, q2, q3⟩ := fn217_ok hW.2 hH.2 (x := x) (y := y) ⟨by omega, by omega⟩ 3 hP
  rw [if_neg c4, q1, am_op_some, if_pos (by omega)]
  exact ⟨_, rfl, q2, q3⟩
/-- a group's row -/
theorem r_gr (hH : 18 ≤ H ∧ H ≤ 64) (hS : SN st fi la n lo hi) (ht : hT fi la (k_seg fs cols recs x h s) (k_S fs cols recs x s) (k_O fs cols recs x h s)) {μ : am_M} (hG : RG fs cols recs x ws h s μ) (hR3 : R3 st fi la n μ) (h6 : μ 240 6 = H) {i : Nat} (hi : i < (k_O fs cols recs x h s).length) : (0 ≤ μ 256 i ∧ μ 256 i < 12) ∧ fn218 240 (μ 255 (μ 256 i).toNat) μ = some (gr H fi la (k_seg fs cols recs x h s) (k_S fs cols recs x s) (k_O fs cols recs x h s) i, μ) := by
  obtain ⟨t1, t2⟩ := ht i hi
  have h13 := hG.1.1.2.2.2.2.2.1
  have hm := kO_at (fs := fs) (cols := cols) (recs := recs) (x := x) (s := s) (h := h) hi
  have hgl := (kO_m hm).1
  have hfl := kF_len (fs := fs) (cols := cols) (x := x) (s := s) h13
  have h56 := hG.2.2.2.2.1 i hi
  have h55 := hG.2.2.2.2.2.1 _ hm
  rw [h56, Int.toNat_natCast, h55]
  exact ⟨by omega, fn218_ok hS hH hR3 h6 t1 t2⟩
/-- what one group's mark paints -/
def m1l (W H Lf : Int) (X Y : Nat → Int) (mk : Int) (i : Nat) : List Dot := if mk = 2 then pt1 W H Lf (X i) (Y i) else (X i, Y i, 3) :: (if i = 0 then [] else pth (X (i - 1)) (Y (i - 1)) (X i) (Y i))
theorem fn224_ok (hW : 0 ≤ W ∧ W ≤ 96) (hH : 18 ≤ H ∧ H ≤ 64) (hS : SN st fi la n lo hi) (hD : BD Lf A (k_O fs cols recs x h s).length) (ht : hT fi la (k_seg fs cols recs x h s) (k_S fs cols recs x s) (k_O fs cols recs x h s)) {i : Nat} (hi : i < (k_O fs cols recs x h s).length) {a : Int} (ha : a = i) {P : Cv} {μ : am_M} (hG : RG fs cols recs x ws h s μ) (hR3 : R3 st fi la n μ) (hC : BR W Lf A (k_O fs cols recs x h s).length μ) (hP : PR W H P μ) : ∃ μ', fn224 240 a μ = some (0, μ') ∧ PR W H (dts P (m1l W H Lf (b_m Lf A (k_O fs cols recs x h s).length) (gr H fi la (k_seg fs cols recs x h s) (k_S fs cols recs x s) (k_O fs cols recs x h s)) (μ 240 20) i)) μ' ∧ F9 μ μ' := by
  have hO8 := hD.2.2.2
  have d1 := hD.1; have d2 := hD.2.1
  have hWL := hC.2.2.2
  have br := b_m_rng hD hi
  have gg := gr_rng hH hS ht hi
  obtain ⟨g1, g2⟩ := r_gr hH hS ht hG hR3 hP.2.1 hi
  obtain ⟨r31, l31, r32, l32, r34, l34, r35, l35, r36, l36, r37, l37⟩ := rf_12
  obtain ⟨μ1, q1, q2, q3⟩ := fn217_ok hW.2 hH.2 (x := b_m Lf A (k_O fs cols recs x h s).length i) (y := gr H fi la (k_seg fs cols recs x h s) (k_S fs cols recs x s) (k_O fs cols recs x h s) i) ⟨by omega, by omega⟩ 3 hP
  unfold fn224
  rw [r36, l36, r35, l35, fn213_ok hD hC hi ha, am_op_some]
  dsimp only
  rw [if_pos (by omega), show a.toNat = i by omega, if_pos (by omega), g2, am_op_some]
  dsimp only
  rw [q1, am_op_some]
  dsimp only
  have e20 : μ1 240 20 = μ 240 20 := q3 _ _ (by omega)
  have h45 : μ1 240 45 = Lf := by rw [q3 _ _ (by omega)]; exact hC.2.1
  unfold m1l
  by_cases c2 : μ 240 20 = 2
  · rw [if_pos (by rw [e20]; exact c2), if_pos c2]
    unfold pt1
    generalize b_m Lf A (k_O fs cols recs x h s).length i = bx at *
    generalize gr H fi la (k_seg fs cols recs x h s) (k_S fs cols recs x s) (k_O fs cols recs x h s) i = gy at *
    rw [w32_id (x := bx - 1) (by omega) (by omega), w32_id (x := bx + 1) (by omega) (by omega), w32_id (x := gy - 1) (by omega) (by omega), w32_id (x := gy + 1) (by omega) (by omega)]
    obtain ⟨μ2, p1, p2, p3⟩ := fn222_ok hW hH (by omega) h45 q2 (bx - 1) gy
    obtain ⟨μ3, r1, r2, r3⟩ := fn222_ok (Lf := Lf) hW hH (by omega) (by rw [p3 _ _ (by omega)]; exact h45) p2 (bx + 1) gy
    obtain ⟨μ4, s1, s2, s3⟩ := fn222_ok (Lf := Lf) hW hH (by omega) (by rw [r3 _ _ (by omega), p3 _ _ (by omega)]; exact h45) r2 bx (gy - 1)
    obtain ⟨μ5, t1, t2, t3⟩ := fn222_ok (Lf := Lf) hW hH (by omega) (by rw [s3 _ _ (by omega), r3 _ _ (by omega), p3 _ _ (by omega)]; exact h45) s2 bx (gy + 1)
    rw [p1, am_op_some]
    dsimp only
    rw [r1, am_op_some]
    dsimp only
    rw [s1, am_op_some]
    dsimp only
    rw [t1, am_op_some]
    refine ⟨_, rfl, ?_, q3.trans (p3.trans (r3.trans (s3.trans t3)))⟩
    show PR W H (dts (dt P (bx, gy, 3)) (iA W H Lf (bx - 1) gy ++ (iA W H Lf (bx + 1) gy ++ (iA W H Lf bx (gy - 1) ++ iA W H Lf bx (gy + 1))))) _
    rw [dts_app, dts_app, dts_app]
    exact t2
  · rw [if_neg (by rw [e20]; exact c2), if_neg c2]
    by_cases c3 : i = 0
    · rw [if_neg (by omega), if_pos c3]
      exact ⟨_, rfl, q2, q3⟩
    · have hG1 : RG fs cols recs x ws h s μ1 := hG.fr (fun c t hc => q3 c t (by omega))
      have hR1 : R3 st fi la n μ1 := hR3.fr (fun t _ _ => q3 _ _ (by omega))
      have hC1 : BR W Lf A (k_O fs cols recs x h s).length μ1 := hC.fr (fun t _ => q3 _ _ (by omega))
      obtain ⟨g3, g4⟩ := r_gr hH hS ht hG1 hR1 q2.2.1 (i := i - 1) (by omega)
      have br1 := b_m_rng hD (i := i - 1) (by omega)
      have gg1 := gr_rng hH hS ht (i := i - 1) (by omega)
      have bi := b_m_inc hD (i := i - 1) (by omega)
      rw [show i - 1 + 1 = i by omega] at bi
      obtain ⟨μ2, p1, p2, p3⟩ := fn223_ok hW.2 hH.2 (x1 := b_m Lf A (k_O fs cols recs x h s).length (i - 1)) (y1 := gr H fi la (k_seg fs cols recs x h s) (k_S fs cols recs x s) (k_O fs cols recs x h s) (i - 1)) (x2 := b_m Lf A (k_O fs cols recs x h s).length i) (y2 := gr H fi la (k_seg fs cols recs x h s) (k_S fs cols recs x s) (k_O fs cols recs x h s) i) (by omega) (by omega) (by omega) (by omega) (by omega) q2
      rw [if_pos (by omega), if_neg c3, w32_id (x := a - 1) (by omega) (by omega), fn213_ok hD hC1 (i := i - 1) (by omega) (by omega), am_op_some]
      dsimp only
      rw [if_pos (by omega), show (a - 1).toNat = i - 1 by omega, if_pos (by omega), g4, am_op_some]
      dsimp only
      rw [p1, am_op_some]
      exact ⟨_, rfl, p2, q3.trans p3⟩
theorem L226_54_s {a y : Int} {N : Nat} {μ : am_M} (h20 : μ 240 20 ≠ 0) : ∃ y', L226_54 240 a (N + 1) y μ = some (.inr (y', μ)) := by
  rw [L226_54]
  by_cases c : y < μ 240 38
  · rw [if_pos c, if_neg h20]; exact ⟨_, rfl⟩
  · rw [if_neg c]; exact ⟨_, rfl⟩
/-- the marks from one group on -/
def mkf (W H fi la Lf A : Int) (c S : Nat) (seg : Nat → Nat → Int) (O : List Nat) (mk : Int) (m i : Nat) : List Dot := if mk = 0 then brg H fi la Lf A c S seg O m i else if mk = 1 then lnr (b_m Lf A c) (gr H fi la seg S O) m i else pts W H Lf (b_m Lf A c) (gr H fi la seg S O) m i
theorem L226_32_ok (hW : 0 ≤ W ∧ W ≤ 96) (hH : 18 ≤ H ∧ H ≤ 64) (hS : SN st fi la n lo hi) (hHS : HS fs cols recs h s x) (hD : BD Lf A (k_O fs cols recs x h s).length) (hv : h.1 = 0 → hV fi la (k_seg fs cols recs x h s) (k_S fs cols recs x s) (k_O fs cols recs x h s)) (ht : h.1 ≠ 0 → hT fi la (k_seg fs cols recs x h s) (k_S fs cols recs x s) (k_O fs cols recs x h s)) : ∀ (m N i : Nat) (P : Cv) (μ : am_M) (y : Int), m < N → y = i → i + m = (k_O fs cols recs x h s).length → RG fs cols recs x ws h s μ → R3 st fi la n μ → BR W Lf A (k_O fs cols recs x h s).length μ → PR W H P μ → ∃ y' μ', L226_32 240 N y μ = some (.inr (y', μ')) ∧ PR W H (dts P (mkf W H fi la Lf A (k_O fs cols recs x h s).length (k_S fs cols recs x s) (k_seg fs cols recs x h s) (k_O fs cols recs x h s) h.1 m i)) μ' ∧ F9 μ μ'
  | m, 0, _, _, _, _, hN, _, _, _, _, _, _ => absurd hN (by omega)
  | 0, N + 1, i, P, μ, y, hN, hy, hm, hG, hR3, hC, hP => by
    have e : mkf W H fi la Lf A (k_O fs cols recs x h s).length (k_S fs cols recs x s) (k_seg fs cols recs x h s) (k_O fs cols recs x h s) h.1 0 i = [] := by
      unfold mkf; split
      · rfl
      · split <;> rfl
    rw [L226_32, if_neg (by rw [hC.2.2.1]; omega), e]
    exact ⟨_, _, rfl, hP, F9.refl _⟩
  | m + 1, N + 1, i, P, μ, y, hN, hy, hm, hG, hR3, hC, hP => by
    have hO8 := hD.2.2.2
    have h13 := hG.1.1.2.2.2.2.2.1
    have hSS := kS_len (fs := fs) (cols := cols) (x := x) (s := s) h13
    have h20 : μ 240 20 = h.1 := hG.1.2.2.2.1
    have hmk := hHS.2.2.1
    have go : ∀ (P' : Cv) (μ1 : am_M), PR W H P' μ1 → F9 μ μ1 → ∃ y' μ', L226_32 240 N (y + 1) μ1 = some (.inr (y', μ')) ∧ PR W H (dts P' (mkf W H fi la Lf A (k_O fs cols recs x h s).length (k_S fs cols recs x s) (k_seg fs cols recs x h s) (k_O fs cols recs x h s) h.1 m (i + 1))) μ' ∧ F9 μ μ' := fun P' μ1 q2 q3 => by
      obtain ⟨y', μ2, r1, r2, r3⟩ := L226_32_ok hW hH hS hHS hD hv ht m N (i + 1) P' μ1 (y + 1) (by omega) (by omega) (by omega) (hG.fr (fun c t hc => q3 c t (by omega))) (hR3.fr (fun t _ _ => q3 _ _ (by omega))) (hC.fr (fun t _ => q3 _ _ (by omega))) q2
      exact ⟨y', μ2, r1, r2, q3.trans r3⟩
    rw [L226_32, if_pos (by rw [hC.2.2.1]; omega), w32_id (x := y + 1) (by omega) (by omega)]
    by_cases c0 : h.1 = 0
    · obtain ⟨y1, μ1, q1, q2, q3⟩ := L226_54_ok hW.2 hH hS hHS hD (hv c0) (i := i) (by omega) hy (k_S fs cols recs x s) am_fuel 0 P μ 0 (by unfold am_fuel; omega) rfl (by omega) hG (by rw [h20]; exact c0) hR3 hC hP
      rw [if_neg (by rw [h20]; omega), q1, am_op_some, am_lp_r]
      have e : ∀ m i, mkf W H fi la Lf A (k_O fs cols recs x h s).length (k_S fs cols recs x s) (k_seg fs cols recs x h s) (k_O fs cols recs x h s) h.1 m i = brg H fi la Lf A (k_O fs cols recs x h s).length (k_S fs cols recs x s) (k_seg fs cols recs x h s) (k_O fs cols recs x h s) m i := fun m i => by unfold mkf; rw [if_pos c0]
      have := go _ μ1 q2 q3
      rw [e] at this ⊢
      unfold brg
      rw [dts_app]
      exact this
    · obtain ⟨μ1, q1, q2, q3⟩ := fn224_ok hW hH hS hD (ht c0) (i := i) (by omega) hy hG hR3 hC hP
      obtain ⟨y1, s1⟩ := L226_54_s (a := y) (y := 0) (N := 9999) (μ := μ1) (by rw [q3 _ _ (by omega), h20]; exact c0)
      rw [if_pos (by rw [h20]; omega), q1, am_op_some]
      dsimp only
      rw [show L226_54 240 y am_fuel 0 μ1 = _ from s1, am_op_some, am_lp_r]
      have := go _ μ1 q2 q3
      by_cases c1 : h.1 = 1
      · have e : ∀ m i, mkf W H fi la Lf A (k_O fs cols recs x h s).length (k_S fs cols recs x s) (k_seg fs cols recs x h s) (k_O fs cols recs x h s) h.1 m i = lnr (b_m Lf A (k_O fs cols recs x h s).length) (gr H fi la (k_seg fs cols recs x h s) (k_S fs cols recs x s) (k_O fs cols recs x h s)) m i := fun m i => by unfold mkf; rw [if_neg c0, if_pos c1]
        rw [e] at this ⊢
        unfold m1l at this
        rw [h20, if_neg (by omega)] at this
        unfold lnr
        rw [dts_app]
        exact this
      · have e : ∀ m i, mkf W H fi la Lf A (k_O fs cols recs x h s).length (k_S fs cols recs x s) (k_seg fs cols recs x h s) (k_O fs cols recs x h s) h.1 m i = pts W H Lf (b_m Lf A (k_O fs cols recs x h s).length) (gr H fi la (k_seg fs cols recs x h s) (k_S fs cols recs x s) (k_O fs cols recs x h s)) m i := fun m i => by unfold mkf; rw [if_neg c0, if_neg c1]
        rw [e] at this ⊢
        unfold m1l at this
        rw [h20, if_pos (by omega)] at this
        unfold pts
        rw [dts_app]
        exact this
theorem L226_2_ok : ∀ (m N i : Nat) (μ : am_M) (y : Int), m < N → y = i → i + m = 6144 → (∀ j, j < i → μ 259 j = 0) → ∃ y' μ', L226_2 240 N y μ = some (.inr (y', μ')) ∧ (∀ j, j < 6144 → μ' 259 j = 0) ∧ F9 μ μ'
  | m, 0, _, _, _, hN, _, _, _ => absurd hN (by omega)
  | 0, N + 1, i, μ, y, hN, hy, hm, h => by
    rw [L226_2, if_neg (by omega)]
    exact ⟨_, _, rfl, fun j hj => h j (by omega), F9.refl _⟩
  | m + 1, N + 1, i, μ, y, hN, hy, hm, h => by
    rw [L226_2, rf_15.1, rf_15.2, if_pos (by omega), if_pos (by omega), w32_id (by omega) (by omega), show y.toNat = i by omega]
    obtain ⟨y', μ2, u1, u2, u3⟩ := L226_2_ok m N (i + 1) (am_up μ 259 i 0) (y + 1) (by omega) (by omega) (by omega) (fun j hj => by
      by_cases e : j = i
      · rw [e, am_up_at]
      · rw [up_ne (by omega)]; exact h j (by omega))
    exact ⟨y', μ2, u1, u2, fun c t hc => by rw [u3 c t hc, up_ne (by omega)]⟩
theorem fn226_ok (hW : 20 ≤ W ∧ W ≤ 96) (hH : 18 ≤ H ∧ H ≤ 64) (hS : SN st fi la n lo hi) (hLf : Lf = 4 * mxl st fi n + 2) (hHS : HS fs cols recs h s x) (hD : BD Lf A (k_O fs cols recs x h s).length) (hf : ∀ i, i < (k_O fs cols recs x h s).length → l_w (k_ln fs cols recs x h s) i ≤ W) (hv : h.1 = 0 → hV fi la (k_seg fs cols recs x h s) (k_S fs cols recs x s) (k_O fs cols recs x h s)) (ht : h.1 ≠ 0 → hT fi la (k_seg fs cols recs x h s) (k_S fs cols recs x s) (k_O fs cols recs x h s)) {μ : am_M} (hG : RG fs cols recs x ws h s μ) (hR3 : R3 st fi la n μ) (hY : LYR W Lf A (k_O fs cols recs x h s).length (k_ln fs cols recs x h s) μ) (h6 : μ 240 6 = H) : ∃ μ', fn226 240 μ = some (0, μ') ∧ PR W H (pic W H st fi la Lf A n (k_S fs cols recs x s) (k_seg fs cols recs x h s) (k_O fs cols recs x h s) (k_ln fs cols recs x h s) (k_lb fs cols recs x h s) h.1) μ' ∧ Fz μ μ' := by
  have hO1 := hD.2.2.1
  have hO8 := hD.2.2.2
  have d1 := hD.1; have d2 := hD.2.1
  have hWL := hY.1.2.2.2
  have hn := hS.2.1
  have mr := mxl_rng st fi n
  obtain ⟨y1, μ1, p1, p2, p3⟩ := L226_2_ok 6144 am_fuel 0 μ 0 (by unfold am_fuel; omega) rfl rfl (fun j hj => absurd hj (by omega))
  have hP1 : PR W H (fun _ _ => 0) μ1 := ⟨by rw [p3 _ _ (by omega)]; exact hY.1.1, by rw [p3 _ _ (by omega)]; exact h6, fun a b ha hb => p2 _ (by omega)⟩
  have f1 := p3.z
  obtain ⟨μ2, q1, q2, q3⟩ := fn219_ok hW.2 hH hS (Lf := Lf) (by have := mr.2.2 (by omega); omega) (hR3.fr (fun t _ _ => f1 _ _ (by omega))) (by rw [f1 _ _ (by omega)]; exact hY.1.2.1) hP1
  have f2 := f1.trans q3.z
  have hY2 : LYR W Lf A (k_O fs cols recs x h s).length (k_ln fs cols recs x h s) μ2 := ⟨hY.1.fr (fun t _ => f2 _ _ (by omega)), by rw [f2 _ _ (by omega)]; exact hY.2⟩
  obtain ⟨μ3, r1, r2, r3⟩ := fn221_ok (ws := ws) hW.2 hH hS hLf hHS.1 hHS.2.1 hD hf (hR3.fr (fun t _ _ => f2 _ _ (by omega))) (hG.fr (fun c t hc => f2 c t (by omega))) hY2 q2
  have f3 := f2.trans r3
  obtain ⟨y4, μ4, s1, s2, s3⟩ := L226_32_ok (ws := ws) ⟨by omega, hW.2⟩ hH hS hHS hD hv ht (k_O fs cols recs x h s).length am_fuel 0 _ μ3 0 (by unfold am_fuel; omega) rfl (by omega) (hG.fr (fun c t hc => f3 c t (by omega))) (hR3.fr (fun t _ _ => f3 _ _ (by omega))) (hY.1.fr (fun t _ => f3 _ _ (by omega))) r2
  unfold fn226
  rw [p1, am_op_some, am_lp_r]
  dsimp only
  rw [q1, am_op_some]
  dsimp only
  rw [r1, am_op_some]
  dsimp only
  rw [s1, am_op_some, am_lp_r]
  exact ⟨_, rfl, s2, f3.trans s3.z⟩
end MKr
