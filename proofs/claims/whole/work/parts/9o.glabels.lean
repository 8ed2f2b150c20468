/-! The groups' labels. -/
def glb (W H Lf A : Int) (c : Nat) (ln : Nat → Nat) (lb : Nat → List Int) (s : Nat) : Nat → Nat → List Dot
  | 0, _ => []
  | m + 1, i => (if i % s = 0 then wrl (H - 6) (l_s W Lf A c ln i) (lb i) else []) ++ glb W H Lf A c ln lb s m (i + 1)
theorem glb_skip {W H Lf A : Int} {c : Nat} {ln : Nat → Nat} {lb : Nat → List Int} {s : Nat} : ∀ (d m i : Nat), (∀ j, i ≤ j → j < i + d → j % s ≠ 0) → glb W H Lf A c ln lb s (d + m) i = glb W H Lf A c ln lb s m (i + d)
  | 0, m, i, _ => by rw [Nat.zero_add, Nat.add_zero]
  | d + 1, m, i, h => by
    rw [show d + 1 + m = (d + m) + 1 by omega]
    show (if i % s = 0 then wrl (H - 6) (l_s W Lf A c ln i) (lb i) else []) ++ glb W H Lf A c ln lb s (d + m) (i + 1) = _
    rw [if_neg (h i (by omega) (by omega)), List.nil_append, glb_skip d m (i + 1) (fun j h1 h2 => h j (by omega) (by omega)), show i + 1 + d = i + (d + 1) by omega]
section GLc
variable {W H Lf A : Int} {M S : Nat} {seg : Nat → Nat → Int} {lab : Nat → List Int} {O : List Nat} {ln : Nat → Nat}
theorem L149_ok (hW : W ≤ 96) (hH : 18 ≤ H ∧ H ≤ 64) (hM : M ≤ 12) (hO8 : O.length ≤ 8) (hOm : ∀ g ∈ O, g < M) (hl : ∀ g, g < M → (lab g).length ≤ 12 ∧ Cr (lab g)) (hln : ∀ i, i < O.length → ln i = (lab (O.getD i 0)).length ∧ 1 ≤ ln i ∧ l_w ln i ≤ W) {s : Nat} (hs : 1 ≤ s ∧ s ≤ 8) {ss : Int} (hss : ss = s) : ∀ (m N i : Nat) (P : Cv) (μ : am_M) (y : Int), m < N → y = i → i + m = O.length → GC M S seg lab O μ → LSt W Lf A O.length ln O.length μ → PC W H P μ → ∃ y' μ', L149_10 0 ss N y μ = some (.inr (y', μ')) ∧ PC W H (dts P (glb W H Lf A O.length ln (fun i => lab (O.getD i 0)) s m i)) μ' ∧ Fc μ μ'
  | m, 0, _, _, _, _, hN, _, _, _, _, _ => absurd hN (by omega)
  | 0, N + 1, i, P, μ, y, hN, hy, hm, hG, hL, hP => by
    rw [L149_10, rf_14.2.2.1]
    unfold fn101
    rw [am_op_some]
    dsimp only
    rw [if_neg (by rw [hG.2.1]; omega)]
    exact ⟨_, _, rfl, hP, Fc.refl _⟩
  | m + 1, N + 1, i, P, μ, y, hN, hy, hm, hG, hL, hP => by
    have hg := Om (hO := hOm) (i := i) (by omega)
    obtain ⟨el, l1, l2⟩ := hln i (by omega)
    have rs := l_s_rng (Lf := Lf) (A := A) (c := O.length) l1 l2
    have em : o_rem y ss = ((i % s : Nat) : Int) := by rw [o_rem_nn (by omega) (by omega) (by omega) (by omega), hy, hss]; rfl
    rw [L149_10, rf_14.2.2.1, rf_14.2.2.2.2.1, rf_14.2.2.2.2.2.1]
    unfold fn101
    rw [am_op_some]
    dsimp only
    rw [if_pos (by rw [hG.2.1]; omega), if_pos (by omega), if_neg (by omega), em, w32_id (x := y + 1) (by omega) (by omega)]
    unfold glb
    by_cases c0 : i % s = 0
    · rw [if_pos (by omega), if_pos c0, fn124_ok hG hM (by omega) hOm (i := i) (by omega) hy, am_op_some]
      dsimp only
      have e147 : fn147 231 y μ = some (l_s W Lf A O.length ln i, μ) := by
        unfold fn147
        rw [rf_14.2.2.2.2.2.2.2.1, rf_14.2.2.2.2.2.2.2.2.1, if_neg (by omega), if_pos (by omega), if_pos (by omega), show y.toNat = i by omega, (hL i (by omega)).1]
      rw [e147, am_op_some]
      unfold fn148
      dsimp only
      rw [am_op_some]
      dsimp only
      rw [hP.2.1, w32_id (x := H - 6) (by omega) (by omega), Int.toNat_natCast]
      obtain ⟨μ1, q1, q2, q3⟩ := fn144_ok hW hH.2 (rf_11 _ (by omega : O.getD i 0 < 12)).2.1 (rf_11 _ (by omega : O.getD i 0 < 12)).2.2 (hl _ hg).1 (by omega) (hl _ hg).2 (by omega) (by omega) (x := l_s W Lf A O.length ln i) (y := H - 6) (by unfold l_w at rs; omega) (by omega) (hG.2.2.2 _ hg).2.2 hP
      rw [q1, am_op_some]
      dsimp only
      obtain ⟨y', μ2, r1, r2, r3⟩ := L149_ok hW hH hM hO8 hOm hl hln hs hss m N (i + 1) _ μ1 (y + 1) (by omega) (by omega) (by omega) (hG.fr hM (fun c t _ _ => q3 c t (by omega))) (fun j hj => by rw [q3 _ _ (by omega), q3 _ _ (by omega)]; exact hL j hj) q2
      rw [dts_app]
      exact ⟨y', μ2, r1, r2, q3.trans r3⟩
    · rw [if_neg (by omega), if_neg c0, List.nil_append]
      exact L149_ok hW hH hM hO8 hOm hl hln hs hss m N (i + 1) P μ (y + 1) (by omega) (by omega) (by omega) hG hL hP
theorem fn149_ok (hW : W ≤ 96) (hH : 18 ≤ H ∧ H ≤ 64) (hM : M ≤ 12) (hO1 : 1 ≤ O.length) (hO8 : O.length ≤ 8) (hOm : ∀ g ∈ O, g < M) (hl : ∀ g, g < M → (lab g).length ≤ 12 ∧ Cr (lab g)) (hln : ∀ i, i < O.length → ln i = (lab (O.getD i 0)).length ∧ 1 ≤ ln i ∧ l_w ln i ≤ W) {P : Cv} {μ : am_M} (hG : GC M S seg lab O μ) (hY : LYC W Lf A O.length ln μ) (hP : PC W H P μ) : ∃ μ', fn149 0 μ = some (0, μ') ∧ PC W H (dts P (glb W H Lf A O.length ln (fun i => lab (O.getD i 0)) (srd W Lf A O.length ln) O.length 0)) μ' ∧ Fc μ μ' := by
  have sr := srd_rng (W := W) (Lf := Lf) (A := A) (ln := ln) hO1
  obtain ⟨y', μ1, q1, q2, q3⟩ := L149_ok (Lf := Lf) (A := A) (S := S) (seg := seg) hW hH hM hO8 hOm hl hln (s := srd W Lf A O.length ln) (by omega) rfl O.length am_fuel 0 P μ 0 (by unfold am_fuel; omega) rfl (by omega) hG hY.2.1 hP
  unfold fn149 fn146
  rw [rf_14.2.2.2.2.1, am_op_some]
  dsimp only
  rw [hY.2.2, q1, am_op_some, am_lp_r]
  exact ⟨_, rfl, q2, q3⟩
end GLc
/-! Reference. -/
section GLr
variable {W H Lf A : Int}
variable {fs : List (List Int)} {cols recs x : Nat} {ws : List (List Int)} {h : Int × Int × Int × Int} {s : QC}
theorem L221_164_ok (hW : W ≤ 96) (hH : 18 ≤ H ∧ H ≤ 64) (hx : x < cols) (hhx : h.2.1 = (x : Int)) (hD : BD Lf A (k_O fs cols recs x h s).length) {i : Nat} (hi : i < (k_O fs cols recs x h s).length) (hf : l_w (k_ln fs cols recs x h s) i ≤ W) {l2 l3 : Int} (hl2 : l2 = i) (hl3 : l3 = ((((k_F fs cols recs x s).getD ((k_O fs cols recs x h s).getD i 0) 0 + 1) * cols + x : Nat) : Int)) : ∀ (m N j : Nat) (P : Cv) (μ : am_M) (y : Int), m < N → y = j → j + m = k_ln fs cols recs x h s i → RG fs cols recs x ws h s μ → BR W Lf A (k_O fs cols recs x h s).length μ → PR W H P μ → ∃ y' μ', L221_164 240 l2 l3 N y μ = some (.inr (y', μ')) ∧ PR W H (dts P (wrl (H - 6) (l_s W Lf A (k_O fs cols recs x h s).length (k_ln fs cols recs x h s) i + 4 * j) ((k_lb fs cols recs x h s i).drop j))) μ' ∧ F9 μ μ'
  | m, 0, _, _, _, _, hN, _, _, _, _, _ => absurd hN (by omega)
  | 0, N + 1, j, P, μ, y, hN, hy, hm, hG, hB, hP => by
    obtain ⟨b1, b2, b3⟩ := k_lb_row hi
    have hT := hG.1.1
    obtain ⟨i1, i2, i3⟩ := hT.idx b2 hx
    have yy := (hT.2.2.2.2.2.2.2.2.2 _ i1).2.1
    have kl : k_ln fs cols recs x h s i = (fs.getD (((k_F fs cols recs x s).getD ((k_O fs cols recs x h s).getD i 0) 0 + 1) * cols + x) []).length := rfl
    obtain ⟨r4, l4, r17, l17, r18, l18, r10, l10, r11, l11, -⟩ := rf_8
    rw [L221_164, r11, l11, if_pos (by omega), if_neg (by rw [hl3, Int.toNat_natCast, yy, ← kl]; omega), List.drop_eq_nil_of_le (by unfold k_ln at hm; omega)]
    exact ⟨_, _, rfl, hP, F9.refl _⟩
  | m + 1, N + 1, j, P, μ, y, hN, hy, hm, hG, hB, hP => by
    obtain ⟨b1, b2, b3⟩ := k_lb_row hi
    have hT := hG.1.1
    obtain ⟨i1, i2, i3⟩ := hT.idx b2 hx
    obtain ⟨y1, y2, y3⟩ := hT.2.2.2.2.2.2.2.2.2 _ i1
    have tl := tot_le fs i1
    have t4 := hT.2.2.2.2.2.2.2.2.1
    have kl : k_ln fs cols recs x h s i = (fs.getD (((k_F fs cols recs x s).getD ((k_O fs cols recs x h s).getD i 0) 0 + 1) * cols + x) []).length := rfl
    have kb : (fs.getD (((k_F fs cols recs x s).getD ((k_O fs cols recs x h s).getD i 0) 0 + 1) * cols + x) []) = k_lb fs cols recs x h s i := rfl
    have rs := l_s_rng (W := W) (Lf := Lf) (A := A) (c := (k_O fs cols recs x h s).length) (k_ln_rng hT hx hi).1 hf
    have lw : l_w (k_ln fs cols recs x h s) i = 4 * ((k_ln fs cols recs x h s i : Nat) : Int) - 1 := rfl
    have kr := k_ln_rng (h := h) (s := s) hT hx hi
    obtain ⟨r4, l4, r17, l17, r18, l18, r10, l10, r11, l11, -⟩ := rf_8
    have r13 : am_ref 240 13 = 245 ∧ am_len 245 = 400 := by decide +kernel
    have e3 : l3.toNat = ((k_F fs cols recs x s).getD ((k_O fs cols recs x h s).getD i 0) 0 + 1) * cols + x := by rw [hl3, Int.toNat_natCast]
    generalize hf' : ((k_F fs cols recs x s).getD ((k_O fs cols recs x h s).getD i 0) 0 + 1) * cols + x = f at *
    rw [kb] at tl y2 y3 kl
    generalize hp : ps_tot (fs.take f) = p at *
    have e5 : w32 (μ 243 f + y) = ((p + j : Nat) : Int) := by rw [y1, w32_id (by omega) (by omega)]; omega
    obtain ⟨μ1, q1, q2, q3⟩ := fn220_ok hW hH.2 (x := l_s W Lf A (k_O fs cols recs x h s).length (k_ln fs cols recs x h s) i + 4 * (j : Int)) (y := H - 6) (ch := (k_lb fs cols recs x h s i).getD j 0) (by omega) (by omega) hP
    have y3j := y3 j (by omega)
    rw [L221_164, r11, l11, r10, l10, r13.1, r13.2, e3, if_pos (by omega), if_pos (by rw [y2, ← kl]; omega), fn214_ok hG hx hhx hD hB hi hf hl2, am_op_some]
    dsimp only
    rw [if_pos (by omega), if_pos (by rw [e5]; omega), e5, Int.toNat_natCast, y3j, hP.2.1, w32_id (x := 4 * y) (by omega) (by omega), w32_id (x := H - 6) (by omega) (by omega), hy, w32_id (x := _ + 4 * (j : Int)) (by omega) (by omega), q1, am_op_some]
    dsimp only
    rw [w32_id (by omega) (by omega)]
    have hG1 : RG fs cols recs x ws h s μ1 := hG.fr (fun c t hc => q3 c t (by omega))
    obtain ⟨y', μ2, s1, s2, s3⟩ := L221_164_ok hW hH hx hhx hD hi hf hl2 (show l3 = _ by rw [hf']; exact hl3) m N (j + 1) _ μ1 ((j : Int) + 1) (by omega) (by omega) (by omega) hG1 (hB.fr (fun t _ => q3 _ _ (by omega))) q2
    refine ⟨y', μ2, s1, ?_, q3.trans s3⟩
    rw [drop_c (show j < (k_lb fs cols recs x h s i).length by omega)]
    unfold wrl
    rw [dts_app, show l_s W Lf A (k_O fs cols recs x h s).length (k_ln fs cols recs x h s) i + 4 * (j : Int) + 4 = l_s W Lf A (k_O fs cols recs x h s).length (k_ln fs cols recs x h s) i + 4 * ((j + 1 : Nat) : Int) by omega]
    exact s2
theorem L221_133_ok (hW : W ≤ 96) (hH : 18 ≤ H ∧ H ≤ 64) (hx : x < cols) (hhx : h.2.1 = (x : Int)) (hD : BD Lf A (k_O fs cols recs x h s).length) (hf : ∀ i, i < (k_O fs cols recs x h s).length → l_w (k_ln fs cols recs x h s) i ≤ W) {k : Nat} (hk : 1 ≤ k ∧ k ≤ 8) : ∀ (N i : Nat) (P : Cv) (μ : am_M) (y : Int), 1 ≤ N → (k_O fs cols recs x h s).length < N + i → y = i → i % k = 0 → i < (k_O fs cols recs x h s).length + k → RG fs cols recs x ws h s μ → BR W Lf A (k_O fs cols recs x h s).length μ → μ 240 46 = (k : Int) → PR W H P μ → ∃ y' μ', L221_133 240 N y μ = some (.inr (y', μ')) ∧ PR W H (dts P (glb W H Lf A (k_O fs cols recs x h s).length (k_ln fs cols recs x h s) (k_lb fs cols recs x h s) k ((k_O fs cols recs x h s).length - i) i)) μ' ∧ F9 μ μ'
  | 0, _, _, _, _, hN, _, _, _, _, _, _, _, _ => absurd hN (by omega)
  | N + 1, i, P, μ, y, hN, hc, hy, hi0, hic, hG, hB, h46, hP => by
    have hO8 := hD.2.2.2
    by_cases e : i < (k_O fs cols recs x h s).length
    · obtain ⟨b1, b2, b3⟩ := k_lb_row e
      have hT := hG.1.1
      have h13 := hT.2.2.2.2.2.1
      have hol := kO_len (fs := fs) (cols := cols) (x := x) (s := s) (h := h) h13
      have hfl := kF_len (fs := fs) (cols := cols) (x := x) (s := s) h13
      have h56 := hG.2.2.2.2.1 i e
      have h54 := hG.2.2.2.2.2.2 _ b1
      have h21 : μ 240 21 = (x : Int) := by rw [hG.1.2.2.2.2.1]; exact hhx
      obtain ⟨r31, l31, r32, l32, r34, l34, r35, l35, r36, l36, r37, l37⟩ := rf_12
      obtain ⟨y1, μ1, q1, q2, q3⟩ := L221_164_ok (ws := ws) hW hH hx hhx hD e (hf i e) hy rfl (k_ln fs cols recs x h s i) am_fuel 0 P μ 0 (by unfold am_fuel; have := k_ln_rng (h := h) (s := s) hT hx e; omega) rfl (by omega) hG hB hP
      rw [L221_133, r36, l36, r34, l34, if_pos (by rw [hB.2.2.1]; omega), if_pos (by omega), show y.toNat = i by omega, h56, if_pos (by omega), Int.toNat_natCast, h54, h21, fn173_ok hT b2 hx (by omega) rfl, am_op_some]
      dsimp only
      rw [q1, am_op_some, am_lp_r]
      dsimp only
      have h46' : μ1 240 46 = (k : Int) := by rw [q3 _ _ (by omega)]; exact h46
      rw [h46', w32_id (by omega) (by omega)]
      obtain ⟨y', μ2, s1, s2, s3⟩ := L221_133_ok hW hH hx hhx hD hf hk N (i + k) _ μ1 (y + (k : Int)) (by omega) (by omega) (by omega) (by rw [Nat.add_mod, hi0, Nat.mod_self]; simp) (by omega) (hG.fr (fun c t hc => q3 c t (by omega))) (hB.fr (fun t _ => q3 _ _ (by omega))) h46' q2
      refine ⟨y', μ2, s1, ?_, q3.trans s3⟩
      rw [show (k_O fs cols recs x h s).length - i = ((k_O fs cols recs x h s).length - i - 1) + 1 by omega]
      unfold glb
      rw [if_pos hi0, dts_app]
      rw [show l_s W Lf A (k_O fs cols recs x h s).length (k_ln fs cols recs x h s) i + 4 * ((0 : Nat) : Int) = l_s W Lf A (k_O fs cols recs x h s).length (k_ln fs cols recs x h s) i by omega, List.drop_zero] at s2
      have eg : glb W H Lf A (k_O fs cols recs x h s).length (k_ln fs cols recs x h s) (k_lb fs cols recs x h s) k ((k_O fs cols recs x h s).length - i - 1) (i + 1) = glb W H Lf A (k_O fs cols recs x h s).length (k_ln fs cols recs x h s) (k_lb fs cols recs x h s) k ((k_O fs cols recs x h s).length - (i + k)) (i + k) := by
        by_cases e2 : i + k ≤ (k_O fs cols recs x h s).length
        · rw [show (k_O fs cols recs x h s).length - i - 1 = (k - 1) + ((k_O fs cols recs x h s).length - (i + k)) by omega, glb_skip (k - 1) _ (i + 1) (fun j h1 h2 => no_mul hi0 (by omega) (by omega)), show i + 1 + (k - 1) = i + k by omega]
        · have := glb_skip (W := W) (H := H) (Lf := Lf) (A := A) (c := (k_O fs cols recs x h s).length) (ln := k_ln fs cols recs x h s) (lb := k_lb fs cols recs x h s) (s := k) ((k_O fs cols recs x h s).length - i - 1) 0 (i + 1) (fun j h1 h2 => no_mul hi0 (by omega) (by omega))
          rw [Nat.add_zero] at this
          rw [this, show (k_O fs cols recs x h s).length - (i + k) = 0 by omega]
          rfl
      rw [eg]
      exact s2
    · rw [L221_133, if_neg (by rw [hB.2.2.1]; omega), show (k_O fs cols recs x h s).length - i = 0 by omega]
      exact ⟨_, _, rfl, hP, F9.refl _⟩
theorem fn221_ok (hW : W ≤ 96) (hH : 18 ≤ H ∧ H ≤ 64) {st fi la lo hi : Int} {n : Nat} (hS : SN st fi la n lo hi) (hLf : Lf = 4 * mxl st fi n + 2) (hx : x < cols) (hhx : h.2.1 = (x : Int)) (hD : BD Lf A (k_O fs cols recs x h s).length) (hf : ∀ i, i < (k_O fs cols recs x h s).length → l_w (k_ln fs cols recs x h s) i ≤ W) {P : Cv} {μ : am_M} (hR3 : R3 st fi la n μ) (hG : RG fs cols recs x ws h s μ) (hY : LYR W Lf A (k_O fs cols recs x h s).length (k_ln fs cols recs x h s) μ) (hP : PR W H P μ) : ∃ μ', fn221 240 μ = some (0, μ') ∧ PR W H (dts (dts P (tlb H st fi la Lf n 0 H)) (glb W H Lf A (k_O fs cols recs x h s).length (k_ln fs cols recs x h s) (k_lb fs cols recs x h s) (srd W Lf A (k_O fs cols recs x h s).length (k_ln fs cols recs x h s)) (k_O fs cols recs x h s).length 0)) μ' ∧ Fz μ μ' := by
  have hn := hS.2.1
  have d := hD
  obtain ⟨d1, d2, d3, d4⟩ := d
  have hb := hY.1.2.2.2
  obtain ⟨y', y'', μ1, q1, q2, q3⟩ := L221_10_ok hW hH hS hLf (by omega) n am_fuel 0 P μ 0 H (H + 9) (by unfold am_fuel; omega) rfl (by omega) (by omega) hR3 hY.1.2.1 hP
  have sr := srd_rng (W := W) (Lf := Lf) (A := A) (ln := k_ln fs cols recs x h s) d3
  obtain ⟨y3, μ2, r1, r2, r3⟩ := L221_133_ok (ws := ws) hW hH hx hhx hD hf (k := srd W Lf A (k_O fs cols recs x h s).length (k_ln fs cols recs x h s)) (by omega) am_fuel 0 _ μ1 0 (by unfold am_fuel; omega) (by unfold am_fuel; omega) rfl (Nat.zero_mod _) (by omega) (hG.fr (fun c t hc => q3 c t (by omega))) (hY.1.fr (fun t _ => q3 _ _ (by omega))) (by rw [q3 _ _ (by omega)]; exact hY.2) q2
  unfold fn221
  rw [hP.2.1, w32_id (x := H + 9) (by omega) (by omega), q1, am_op_some, am_lp_r]
  dsimp only
  rw [r1, am_op_some, am_lp_r]
  exact ⟨_, rfl, r2, q3.trans r3.z⟩
end GLr
