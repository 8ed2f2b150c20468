/-! Bars: reference. -/
def rbT (a b near R B top foot : Int) (μ : am_M) : Option (Int × am_M) := (am_op (fn212 240 a μ) (fun y3 => (am_op (fn211 240 a y3.2) (fun y4 => (if y4.1 < y3.1 then (am_op (fn212 240 a y4.2) (fun y5 => (am_op (L225_128 240 a b near R B foot (w32 (y5.1 - 1)) am_fuel top y5.2) (fun s => am_lp s (fun w0 => some w0) (fun w1 => some (0, w1.2)))))) else (am_op (fn212 240 a y4.2) (fun y6 => (am_op (L225_128 240 a b near R B foot y6.1 am_fuel top y6.2) (fun s => am_lp s (fun w2 => some w2) (fun w3 => some (0, w3.2)))))))))))
section BRf
variable {W H Lf A : Int} {c : Nat}
theorem L225_170_ok (hW : W ≤ 96) (hH : 18 ≤ H ∧ H ≤ 64) {l1 l2 l6 l8 l9 l11 e y : Int} {j : Nat} (hj : l2 = j) (hj12 : j ≤ 12) (he : e < W) (hy : 0 ≤ y ∧ y < H) : ∀ (m N : Nat) (P : Cv) (μ : am_M) (x : Int), m < N → m = (e + 1 - x).toNat → 0 ≤ x → x ≤ 1000 → PR W H P μ → ∃ y' μ', L225_170 240 l1 l2 l6 l8 l9 l11 e y 0 N x μ = some (.inr (y', μ')) ∧ PR W H (dts P (hln y (col j) m x)) μ' ∧ F9 μ μ'
  | m, 0, _, _, _, hN, _, _, _, _ => absurd hN (by omega)
  | 0, N + 1, P, μ, x, hN, hm, hx, hx2, hP => by
    rw [L225_170, if_pos (by omega)]
    exact ⟨_, _, rfl, hP, F9.refl _⟩
  | m + 1, N + 1, P, μ, x, hN, hm, hx, hx2, hP => by
    have ec : w32 (3 + o_rem l2 4) = col j := by rw [o_rem_nn (by omega) (by omega) (by omega) (by omega), w32_id (by omega) (by omega)]; unfold col; omega
    obtain ⟨μ1, q1, q2, q3⟩ := fn217_ok hW hH.2 (x := x) (y := y) ⟨by omega, hy⟩ (col j) hP
    rw [L225_170, if_neg (by omega), if_pos rfl, ec, q1, am_op_some]
    dsimp only
    rw [w32_id (by omega) (by omega)]
    obtain ⟨y', μ2, r1, r2, r3⟩ := L225_170_ok hW hH hj hj12 he hy m N _ μ1 (x + 1) (by omega) (by omega) (by omega) (by omega) q2
    exact ⟨y', μ2, r1, r2, q3.trans r3⟩
theorem L225_170_s {l1 l2 l6 l8 l9 l11 e y x : Int} {N : Nat} {μ : am_M} : ∃ y', L225_170 240 l1 l2 l6 l8 l9 l11 e y 1 (N + 1) x μ = some (.inr (y', μ)) := by
  rw [L225_170]
  by_cases q : e < x
  · rw [if_pos q]; exact ⟨_, rfl⟩
  · rw [if_neg q, if_neg (by decide)]; exact ⟨_, rfl⟩
theorem L225_128_ok (hW : W ≤ 96) (hH : 18 ≤ H ∧ H ≤ 64) (hD : BD Lf A c) {i : Nat} (hi : i < c) {x : Int} (hx : x = i) {l2 near R B foot e : Int} {j : Nat} (hj : l2 = j) (hj12 : j ≤ 12) (he : e = b_e Lf A c i - 1) (heW : e < W) (hf : foot < H) : ∀ (m N : Nat) (P : Cv) (μ : am_M) (y : Int), m < N → m = (foot + 1 - y).toNat → 0 ≤ y → y ≤ 1000 → BR W Lf A c μ → PR W H P μ → ∃ y' μ', L225_128 240 x l2 near R B foot e N y μ = some (.inr (y', μ')) ∧ PR W H (dts P (bkr R (b_s Lf A c i) (col j) (b_e Lf A c i - b_s Lf A c i).toNat (decide (near ≠ 0 ∧ R ≠ B)) m y)) μ' ∧ F9 μ μ'
  | m, 0, _, _, _, hN, _, _, _, _, _ => absurd hN (by omega)
  | 0, N + 1, P, μ, y, hN, hm, hy, hy2, hC, hP => by
    rw [L225_128, if_pos (by omega)]
    exact ⟨_, _, rfl, hP, F9.refl _⟩
  | m + 1, N + 1, P, μ, y, hN, hm, hy, hy2, hC, hP => by
    have br := b_m_rng hD hi
    have d1 := hD.1; have d2 := hD.2.1
    have go : ∀ (P' : Cv) (μ1 : am_M), PR W H P' μ1 → F9 μ μ1 → ∃ y' μ', L225_128 240 x l2 near R B foot e N (y + 1) μ1 = some (.inr (y', μ')) ∧ PR W H (dts P' (bkr R (b_s Lf A c i) (col j) (b_e Lf A c i - b_s Lf A c i).toNat (decide (near ≠ 0 ∧ R ≠ B)) m (y + 1))) μ' ∧ F9 μ μ' := fun P' μ1 q2 q3 => by
      obtain ⟨y', μ2, r1, r2, r3⟩ := L225_128_ok hW hH hD hi hx hj hj12 he heW hf m N P' μ1 (y + 1) (by omega) (by omega) (by omega) (by omega) (hC.fr (fun t _ => q3 _ _ (by omega))) q2
      exact ⟨y', μ2, r1, r2, q3.trans r3⟩
    obtain ⟨x1, μ1, q1, q2, q3⟩ := L225_170_ok hW hH (l1 := x) (l6 := near) (l8 := R) (l9 := B) (l11 := foot) (e := e) (y := y) hj hj12 heW (by omega) (b_e Lf A c i - b_s Lf A c i).toNat am_fuel P μ (b_s Lf A c i) (by unfold am_fuel; omega) (by omega) (by omega) (by omega) hP
    rw [L225_128, if_neg (by omega), w32_id (x := y + 1) (by omega) (by omega)]
    unfold bkr
    rw [dts_app]
    by_cases c1 : y = R
    · rw [if_pos c1]
      by_cases c2 : near = 0
      · rw [if_pos (o_cmp_eq.mpr c2), fn211_ok hD hC (by omega) hx, am_op_some]
        dsimp only
        rw [q1, am_op_some, am_lp_r, if_neg (fun z => by have := of_decide_eq_true z.1; omega)]
        exact go _ μ1 q2 q3
      · rw [if_neg (fun z => c2 (o_cmp_eq.mp z))]
        by_cases c3 : R = B
        · rw [if_pos c3, fn211_ok hD hC (by omega) hx, am_op_some]
          dsimp only
          rw [q1, am_op_some, am_lp_r, if_neg (fun z => by have := of_decide_eq_true z.1; omega)]
          exact go _ μ1 q2 q3
        · obtain ⟨x2, s1⟩ := L225_170_s (l1 := x) (l2 := l2) (l6 := near) (l8 := R) (l9 := B) (l11 := foot) (e := e) (y := y) (x := b_s Lf A c i) (N := 9999) (μ := μ)
          rw [if_neg c3, fn211_ok hD hC (by omega) hx, am_op_some]
          dsimp only
          rw [show L225_170 240 x l2 near R B foot e y 1 am_fuel (b_s Lf A c i) μ = _ from s1, am_op_some, am_lp_r, if_pos ⟨decide_eq_true ⟨c2, c3⟩, c1⟩]
          exact go P μ hP (F9.refl _)
    · rw [if_neg c1, fn211_ok hD hC (by omega) hx, am_op_some]
      dsimp only
      rw [q1, am_op_some, am_lp_r, if_neg (fun z => c1 z.2)]
      exact go _ μ1 q2 q3
theorem rbT_ok (hW : W ≤ 96) (hH : 18 ≤ H ∧ H ≤ 64) (hD : BD Lf A c) {i : Nat} (hi : i < c) {x : Int} (hx : x = i) {l2 near R B : Int} {j : Nat} (hj : l2 = j) (hj12 : j ≤ 12) (hR : 0 ≤ R ∧ R < H) (hB : 0 ≤ B ∧ B < H) {P : Cv} {μ : am_M} (hC : BR W Lf A c μ) (hP : PR W H P μ) : ∃ μ', rbT x l2 near R B (min R B) (max R B) μ = some (0, μ') ∧ PR W H (dts P (blk (b_s Lf A c i) (col j) (b_e Lf A c i - b_s Lf A c i).toNat (max (nr near R B) B + 1 - min (nr near R B) B).toNat (min (nr near R B) B))) μ' ∧ F9 μ μ' := by
  have br := b_m_rng hD hi
  have d1 := hD.1; have d2 := hD.2.1
  have hWL := hC.2.2.2
  obtain ⟨y', μ1, q1, q2, q3⟩ := L225_128_ok hW hH hD hi hx (near := near) (R := R) (B := B) (foot := max R B) (e := b_e Lf A c i - 1) hj hj12 rfl (by omega) (by omega) (max R B + 1 - min R B).toNat am_fuel P μ (min R B) (by unfold am_fuel; omega) rfl (by omega) (by omega) hC hP
  unfold rbT
  rw [fn212_ok hD hC hi hx, am_op_some]
  dsimp only
  rw [fn211_ok hD hC (by omega) hx, am_op_some]
  dsimp only
  rw [if_pos (by omega), fn212_ok hD hC hi hx, am_op_some]
  dsimp only
  rw [w32_id (by omega) (by omega), q1, am_op_some, am_lp_r]
  rw [bkr_nr] at q2
  exact ⟨_, rfl, q2, q3⟩
end BRf
section BRg
variable {W H Lf A st fi la lo hi : Int} {n : Nat}
variable {fs : List (List Int)} {cols recs x : Nat} {ws : List (List Int)} {h : Int × Int × Int × Int} {s : QC}
theorem L204_g (hH : HS fs cols recs h s x) {μ : am_M} (hG : RG fs cols recs x ws h s μ) {g : Nat} (hg : g ∈ k_O fs cols recs x h s) {gg ss sg : Int} (hgg : gg = g) {E : Nat} (hE : E ≤ k_S fs cols recs x s) (hss : ss = (E : Int)) (hsg : sg = 1 ∨ sg = -1) : ∀ (k N j : Nat) (y a : Int), k < N → y = j → j + k = E → a = (if 0 < sg then e_ab (k_seg fs cols recs x h s) j g else e_bl (k_seg fs cols recs x h s) j g) → ∃ y' a', L204_6 240 gg ss sg N a y μ = some (.inr (a', y', μ)) ∧ a' = (if 0 < sg then e_ab (k_seg fs cols recs x h s) E g else e_bl (k_seg fs cols recs x h s) E g)
  | k, 0, _, _, _, hN', _, _, _ => absurd hN' (by omega)
  | 0, N + 1, j, y, a, hN', hy, hk, ha => by
    rw [L204_6, if_neg (by omega)]
    exact ⟨_, _, rfl, by rw [ha, show j = E by omega]⟩
  | k + 1, N + 1, j, y, a, hN', hy, hk, ha => by
    have h13 := hG.1.1.2.2.2.2.2.1
    have hB := k_sB hH h13
    have hS := kS_len (fs := fs) (cols := cols) (x := x) (s := s) h13
    have b1 := hB.bl hS g (j + 1) (by omega)
    have a1 := hB.ab hS g (j + 1) (by omega)
    have e1 : e_bl (k_seg fs cols recs x h s) (j + 1) g = e_bl (k_seg fs cols recs x h s) j g + min (k_seg fs cols recs x h s g j) 0 := rfl
    have e2 : e_ab (k_seg fs cols recs x h s) (j + 1) g = e_ab (k_seg fs cols recs x h s) j g + max (k_seg fs cols recs x h s g j) 0 := rfl
    have go := fun a' ha' => L204_g hH hG hg hgg hE hss hsg k N (j + 1) (y + 1) a' (by omega) (by omega) (by omega) ha'
    rw [L204_6, if_pos (by omega), fn203_ok hH hG hg (j := j) (by omega) hgg hy, am_op_some]
    dsimp only
    rw [w32_id (x := y + 1) (by omega) (by omega)]
    by_cases hs : 0 < sg
    · rw [if_pos hs] at ha
      rw [if_pos hs, if_pos hs]
      by_cases c : 0 < k_seg fs cols recs x h s g j
      · rw [if_pos (o_cmp_gt.mpr c)]
        exact go _ (by rw [if_pos hs, w64_id (by omega) (by omega)]; omega)
      · rw [if_neg (fun z => c (o_cmp_gt.mp z))]
        exact go _ (by rw [if_pos hs, w64_id (by omega) (by omega)]; omega)
    · rw [if_neg hs] at ha
      rw [if_neg hs, if_neg hs]
      by_cases c : 0 < k_seg fs cols recs x h s g j
      · rw [if_pos (o_cmp_gt.mpr c)]
        exact go _ (by rw [if_neg hs, w64_id (by omega) (by omega)]; omega)
      · rw [if_neg (fun z => c (o_cmp_gt.mp z))]
        exact go _ (by rw [if_neg hs, w64_id (by omega) (by omega)]; omega)
theorem fn204_g (hH : HS fs cols recs h s x) {μ : am_M} (hG : RG fs cols recs x ws h s μ) {g : Nat} (hg : g ∈ k_O fs cols recs x h s) {gg ss sg : Int} (hgg : gg = g) {E : Nat} (hE : E ≤ k_S fs cols recs x s) (hss : ss = (E : Int)) (hsg : sg = 1 ∨ sg = -1) : fn204 240 gg ss sg μ = some (if 0 < sg then e_ab (k_seg fs cols recs x h s) E g else e_bl (k_seg fs cols recs x h s) E g, μ) := by
  have h13 := hG.1.1.2.2.2.2.2.1
  have hS := kS_len (fs := fs) (cols := cols) (x := x) (s := s) h13
  obtain ⟨y', a', q, qa⟩ := L204_g hH hG hg hgg hE hss hsg E am_fuel 0 0 0 (by unfold am_fuel; omega) rfl (by omega) (by split <;> rfl)
  unfold fn204
  rw [q, am_op_some, am_lp_r]
  dsimp only
  rw [qa]
/-- one segment -/
def b1l (H fi la Lf A : Int) (c : Nat) (seg : Nat → Nat → Int) (i g j : Nat) : List Dot := if 0 < seg g j then sgl H fi la Lf A c i (e_ab seg j g) (e_ab seg j g + seg g j) (col j) else if seg g j < 0 then sgl H fi la Lf A c i (e_bl seg j g) (e_bl seg j g + seg g j) (col j) else []
def rbU (a b near v : Int) (μ : am_M) : Option (Int × am_M) := (am_op (fn218 240 near μ) (fun y1 => (am_op (fn218 240 (w64 (near + v)) y1.2) (fun y2 => (if y1.1 < y2.1 then (if y1.1 < y2.1 then rbT a b near y1.1 y2.1 y1.1 y2.1 y2.2 else rbT a b near y1.1 y2.1 y1.1 y1.1 y2.2) else (if y1.1 < y2.1 then rbT a b near y1.1 y2.1 y2.1 y2.1 y2.2 else rbT a b near y1.1 y2.1 y2.1 y1.1 y2.2))))))
theorem rbU_ok (hW : W ≤ 96) (hH : 18 ≤ H ∧ H ≤ 64) (hS : SN st fi la n lo hi) {c : Nat} (hD : BD Lf A c) {i : Nat} (hi : i < c) {xx : Int} (hx : xx = i) {l2 near v : Int} {j : Nat} (hj : l2 = j) (hj12 : j ≤ 12) (hn1 : fi * 27720 ≤ near) (hn2 : near ≤ la * 27720) (hf1 : fi * 27720 ≤ near + v) (hf2 : near + v ≤ la * 27720) {P : Cv} {μ : am_M} (hR3 : R3 st fi la n μ) (hC : BR W Lf A c μ) (hP : PR W H P μ) : ∃ μ', rbU xx l2 near v μ = some (0, μ') ∧ PR W H (dts P (sgl H fi la Lf A c i near (near + v) (col j))) μ' ∧ F9 μ μ' := by
  have r1 := rw_rng hS hH hn1 hn2
  have r2 := rw_rng hS hH hf1 hf2
  have d := hS.2.2.2.1
  unfold rbU
  rw [fn218_ok hS hH hR3 hP.2.1 hn1 hn2, am_op_some]
  dsimp only
  rw [w64_id (by omega) (by omega), fn218_ok hS hH hR3 hP.2.1 hf1 hf2, am_op_some]
  dsimp only
  unfold sgl
  have q := rbT_ok hW hH hD hi hx (near := near) (R := rw_ H fi la near) (B := rw_ H fi la (near + v)) hj hj12 (by omega) (by omega) hC hP
  by_cases c1 : rw_ H fi la near < rw_ H fi la (near + v)
  · rw [if_pos c1, if_pos c1]
    rw [show min (rw_ H fi la near) (rw_ H fi la (near + v)) = rw_ H fi la near by omega, show max (rw_ H fi la near) (rw_ H fi la (near + v)) = rw_ H fi la (near + v) by omega] at q
    exact q
  · rw [if_neg c1, if_neg c1]
    rw [show min (rw_ H fi la near) (rw_ H fi la (near + v)) = rw_ H fi la (near + v) by omega, show max (rw_ H fi la near) (rw_ H fi la (near + v)) = rw_ H fi la near by omega] at q
    exact q
theorem fn225_ok (hW : W ≤ 96) (hH : 18 ≤ H ∧ H ≤ 64) (hS : SN st fi la n lo hi) (hHS : HS fs cols recs h s x) (hD : BD Lf A (k_O fs cols recs x h s).length) (hv : hV fi la (k_seg fs cols recs x h s) (k_S fs cols recs x s) (k_O fs cols recs x h s)) {i j : Nat} (hi : i < (k_O fs cols recs x h s).length) (hj : j < k_S fs cols recs x s) {a b : Int} (ha : a = i) (hb : b = j) {P : Cv} {μ : am_M} (hG : RG fs cols recs x ws h s μ) (hR3 : R3 st fi la n μ) (hC : BR W Lf A (k_O fs cols recs x h s).length μ) (hP : PR W H P μ) : ∃ μ', fn225 240 a b μ = some (0, μ') ∧ PR W H (dts P (b1l H fi la Lf A (k_O fs cols recs x h s).length (k_seg fs cols recs x h s) i ((k_O fs cols recs x h s).getD i 0) j)) μ' ∧ F9 μ μ' := by
  have h13 := hG.1.1.2.2.2.2.2.1
  have hO8 := hD.2.2.2
  have hSS := kS_len (fs := fs) (cols := cols) (x := x) (s := s) h13
  have hm := kO_at (fs := fs) (cols := cols) (recs := recs) (x := x) (s := s) (h := h) hi
  have h56 := hG.2.2.2.2.1 i hi
  have hB := k_sB hHS h13
  obtain ⟨r31, l31, r32, l32, r34, l34, r35, l35, r36, l36, r37, l37⟩ := rf_12
  have v0 := hv i hi j (by omega)
  have v1 := hv i hi (j + 1) (by omega)
  have b0 := hB.bl hSS ((k_O fs cols recs x h s).getD i 0) j (by omega)
  have a0 := hB.ab hSS ((k_O fs cols recs x h s).getD i 0) j (by omega)
  have e1 : e_bl (k_seg fs cols recs x h s) (j + 1) ((k_O fs cols recs x h s).getD i 0) = e_bl (k_seg fs cols recs x h s) j ((k_O fs cols recs x h s).getD i 0) + min (k_seg fs cols recs x h s ((k_O fs cols recs x h s).getD i 0) j) 0 := rfl
  have e2 : e_ab (k_seg fs cols recs x h s) (j + 1) ((k_O fs cols recs x h s).getD i 0) = e_ab (k_seg fs cols recs x h s) j ((k_O fs cols recs x h s).getD i 0) + max (k_seg fs cols recs x h s ((k_O fs cols recs x h s).getD i 0) j) 0 := rfl
  unfold fn225
  rw [r36, l36, if_pos (by omega), show a.toNat = i by omega, h56, fn203_ok hHS hG hm hj rfl hb, am_op_some]
  dsimp only
  unfold b1l
  by_cases c0 : k_seg fs cols recs x h s ((k_O fs cols recs x h s).getD i 0) j = 0
  · rw [if_pos (o_cmp_eq.mpr c0), if_neg (by omega), if_neg (by omega)]
    exact ⟨_, rfl, hP, F9.refl _⟩
  · rw [if_neg (fun z => c0 (o_cmp_eq.mp z))]
    by_cases c1 : 0 < k_seg fs cols recs x h s ((k_O fs cols recs x h s).getD i 0) j
    · rw [if_pos (o_cmp_gt.mpr c1), if_pos c1, fn204_g hHS hG hm rfl (E := j) (by omega) hb (Or.inl rfl), am_op_some]
      dsimp only
      rw [if_pos (show (0 : Int) < 1 by decide)]
      exact rbU_ok hW hH hS hD hi ha (near := e_ab (k_seg fs cols recs x h s) j ((k_O fs cols recs x h s).getD i 0)) (v := k_seg fs cols recs x h s ((k_O fs cols recs x h s).getD i 0) j) hb (by omega) (by omega) (by omega) (by omega) (by omega) hR3 hC hP
    · rw [if_neg (fun z => c1 (o_cmp_gt.mp z)), if_neg c1, if_pos (by omega), fn204_g hHS hG hm rfl (E := j) (by omega) hb (Or.inr rfl), am_op_some]
      dsimp only
      rw [if_neg (show ¬ ((0 : Int) < -1) by decide)]
      exact rbU_ok hW hH hS hD hi ha (near := e_bl (k_seg fs cols recs x h s) j ((k_O fs cols recs x h s).getD i 0)) (v := k_seg fs cols recs x h s ((k_O fs cols recs x h s).getD i 0) j) hb (by omega) (by omega) (by omega) (by omega) (by omega) hR3 hC hP
theorem L226_54_ok (hW : W ≤ 96) (hH : 18 ≤ H ∧ H ≤ 64) (hS : SN st fi la n lo hi) (hHS : HS fs cols recs h s x) (hD : BD Lf A (k_O fs cols recs x h s).length) (hv : hV fi la (k_seg fs cols recs x h s) (k_S fs cols recs x s) (k_O fs cols recs x h s)) {i : Nat} (hi : i < (k_O fs cols recs x h s).length) {a : Int} (ha : a = i) : ∀ (m N j : Nat) (P : Cv) (μ : am_M) (y : Int), m < N → y = j → j + m = k_S fs cols recs x s → RG fs cols recs x ws h s μ → μ 240 20 = 0 → R3 st fi la n μ → BR W Lf A (k_O fs cols recs x h s).length μ → PR W H P μ → ∃ y' μ', L226_54 240 a N y μ = some (.inr (y', μ')) ∧ PR W H (dts P (brs H fi la Lf A (k_O fs cols recs x h s).length (k_seg fs cols recs x h s) i ((k_O fs cols recs x h s).getD i 0) m j)) μ' ∧ F9 μ μ'
  | m, 0, _, _, _, _, hN, _, _, _, _, _, _, _ => absurd hN (by omega)
  | 0, N + 1, j, P, μ, y, hN, hy, hm, hG, h20, hR3, hC, hP => by
    rw [L226_54, if_neg (by rw [hG.2.2.1]; omega)]
    exact ⟨_, _, rfl, hP, F9.refl _⟩
  | m + 1, N + 1, j, P, μ, y, hN, hy, hm, hG, h20, hR3, hC, hP => by
    have h13 := hG.1.1.2.2.2.2.2.1
    have hSS := kS_len (fs := fs) (cols := cols) (x := x) (s := s) h13
    obtain ⟨μ1, q1, q2, q3⟩ := fn225_ok hW hH hS hHS hD hv hi (j := j) (by omega) ha hy hG hR3 hC hP
    rw [L226_54, if_pos (by rw [hG.2.2.1]; omega), if_pos h20, q1, am_op_some]
    dsimp only
    rw [w32_id (by omega) (by omega)]
    obtain ⟨y', μ2, r1, r2, r3⟩ := L226_54_ok hW hH hS hHS hD hv hi ha m N (j + 1) _ μ1 (y + 1) (by omega) (by omega) (by omega) (hG.fr (fun c t hc => q3 c t (by omega))) (by rw [q3 _ _ (by omega)]; exact h20) (hR3.fr (fun t _ _ => q3 _ _ (by omega))) (hC.fr (fun t _ => q3 _ _ (by omega))) q2
    refine ⟨y', μ2, r1, ?_, q3.trans r3⟩
    unfold brs
    rw [dts_app]
    exact r2
end BRg
