/-! The reference lays. -/
section RL
variable {fs : List (List Int)} {cols recs x : Nat} {ws : List (List Int)} {h : Int × Int × Int × Int} {s : QC}
/-- the label of a seat -/
def k_lb (fs : List (List Int)) (cols recs x : Nat) (h : Int × Int × Int × Int) (s : QC) (i : Nat) : List Int := sp_c fs cols x ((k_F fs cols recs x s).getD ((k_O fs cols recs x h s).getD i 0) 0)
def k_ln (fs : List (List Int)) (cols recs x : Nat) (h : Int × Int × Int × Int) (s : QC) (i : Nat) : Nat := (k_lb fs cols recs x h s i).length
theorem kF_at {g : Nat} (hg : g < (k_F fs cols recs x s).length) : (k_F fs cols recs x s).getD g 0 ∈ k_F fs cols recs x s := by
  rw [List.getD_eq_getElem?_getD, List.getElem?_eq_getElem hg]; exact List.getElem_mem hg
theorem k_lb_row {i : Nat} (hi : i < (k_O fs cols recs x h s).length) : (k_O fs cols recs x h s).getD i 0 < (k_F fs cols recs x s).length ∧ (k_F fs cols recs x s).getD ((k_O fs cols recs x h s).getD i 0) 0 + 1 < recs ∧ k_lb fs cols recs x h s i ≠ [] := by
  have a := (kO_m (kO_at hi)).1
  have b := k_F_row (kF_at a)
  exact ⟨a, by omega, b.2⟩
theorem k_ln_rng {μ : am_M} (hT : RT μ fs cols recs) (hx : x < cols) {i : Nat} (hi : i < (k_O fs cols recs x h s).length) : 1 ≤ k_ln fs cols recs x h s i ∧ k_ln fs cols recs x h s i ≤ 12 := by
  obtain ⟨a, b, c⟩ := k_lb_row hi
  obtain ⟨i1, i2, i3⟩ := hT.idx b hx
  have y := hT.2.2.2.2.2.2.2.1 (k_lb fs cols recs x h s i) (by
    unfold k_lb sp_c
    rw [List.getD_eq_getElem?_getD, List.getElem?_eq_getElem i1]; exact List.getElem_mem i1)
  refine ⟨?_, y.1⟩
  unfold k_ln
  have : (k_lb fs cols recs x h s i).length ≠ 0 := fun e => c (len0.mp e)
  omega
theorem fn210_ok {μ : am_M} (hG : RG fs cols recs x ws h s μ) (hx : x < cols) (hhx : h.2.1 = (x : Int)) {i : Nat} (hi : i < (k_O fs cols recs x h s).length) {a : Int} (ha : a = i) : fn210 240 a μ = some (((k_ln fs cols recs x h s i : Nat) : Int), μ) := by
  obtain ⟨b1, b2, b3⟩ := k_lb_row hi
  have hT := hG.1.1
  have h13 := hT.2.2.2.2.2.1
  have hol := kO_len (fs := fs) (cols := cols) (x := x) (s := s) (h := h) h13
  have hfl := kF_len (fs := fs) (cols := cols) (x := x) (s := s) h13
  have h56 := hG.2.2.2.2.1 i hi
  have h54 := hG.2.2.2.2.2.2 _ b1
  have h21 : μ 240 21 = (x : Int) := by rw [hG.1.2.2.2.2.1]; exact hhx
  obtain ⟨i1, i2, i3⟩ := hT.idx b2 hx
  have y := (hT.2.2.2.2.2.2.2.2.2 _ i1).2.1
  obtain ⟨r31, l31, r32, l32, r34, l34, r35, l35, r36, l36, r37, l37⟩ := rf_12
  obtain ⟨r4, l4, r17, l17, r18, l18, r10, l10, r11, l11, -⟩ := rf_8
  unfold fn210
  rw [r36, l36, r34, l34, r11, l11, if_pos (by omega), show a.toNat = i by omega, h56, if_pos (by omega), Int.toNat_natCast, h54, h21, fn173_ok hT b2 hx (by omega) rfl, am_op_some]
  dsimp only
  rw [if_pos (by omega), Int.toNat_natCast, y]
  rfl
variable {W Lf A : Int}
theorem fn214_ok {μ : am_M} (hG : RG fs cols recs x ws h s μ) (hx : x < cols) (hhx : h.2.1 = (x : Int)) (hD : BD Lf A (k_O fs cols recs x h s).length) (hB : BR W Lf A (k_O fs cols recs x h s).length μ) {i : Nat} (hi : i < (k_O fs cols recs x h s).length) (hf : l_w (k_ln fs cols recs x h s) i ≤ W) {a : Int} (ha : a = i) : fn214 240 a μ = some (l_s W Lf A (k_O fs cols recs x h s).length (k_ln fs cols recs x h s) i, μ) := by
  have kr := k_ln_rng hG.1.1 hx hi
  have br := b_m_rng hD hi
  have d1 := hD.1; have d2 := hD.2.1
  have lw : 3 ≤ l_w (k_ln fs cols recs x h s) i ∧ l_w (k_ln fs cols recs x h s) i ≤ 47 := by unfold l_w; omega
  have ew : w32 (w32 (4 * ((k_ln fs cols recs x h s i : Nat) : Int)) - 1) = l_w (k_ln fs cols recs x h s) i := by
    rw [w32_id (x := 4 * _) (by omega) (by omega), w32_id (by omega) (by omega)]; rfl
  obtain ⟨c1, c2, c3, c4, c5, c6⟩ := hB
  unfold fn214
  rw [fn210_ok hG hx hhx hi ha, am_op_some]
  dsimp only
  rw [fn213_ok hD ⟨c1, c2, c3, c4, c5, c6⟩ hi ha, am_op_some]
  dsimp only
  rw [ew, o_div_nn (by omega) (by omega) (by omega) (by omega)]
  have e1 : w32 (b_m Lf A (k_O fs cols recs x h s).length i - l_w (k_ln fs cols recs x h s) i / 2) = b_m Lf A (k_O fs cols recs x h s).length i - l_w (k_ln fs cols recs x h s) i / 2 := w32_id (by omega) (by omega)
  have e2 : w32 (b_m Lf A (k_O fs cols recs x h s).length i - l_w (k_ln fs cols recs x h s) i / 2 + l_w (k_ln fs cols recs x h s) i) = b_m Lf A (k_O fs cols recs x h s).length i - l_w (k_ln fs cols recs x h s) i / 2 + l_w (k_ln fs cols recs x h s) i := w32_id (by omega) (by omega)
  have e3 : w32 (μ 240 5 - l_w (k_ln fs cols recs x h s) i) = W - l_w (k_ln fs cols recs x h s) i := by rw [c1]; exact w32_id (by omega) (by omega)
  rw [e1, e2, e3]
  unfold l_s
  generalize l_w (k_ln fs cols recs x h s) i = w at *
  generalize b_m Lf A (k_O fs cols recs x h s).length i = b at *
  by_cases q : W < b - w / 2 + w
  · rw [if_pos (by rw [c1]; exact q)]
    by_cases q2 : W - w < 0
    · rw [if_pos q2]; congr 2; omega
    · rw [if_neg q2]; congr 2; omega
  · rw [if_neg (by rw [c1]; exact q)]
    by_cases q2 : b - w / 2 < 0
    · rw [if_pos q2]; congr 2; omega
    · rw [if_neg q2]; congr 2; omega
theorem L215_ok {μ : am_M} (hG : RG fs cols recs x ws h s μ) (hx : x < cols) (hhx : h.2.1 = (x : Int)) (hD : BD Lf A (k_O fs cols recs x h s).length) (hB : BR W Lf A (k_O fs cols recs x h s).length μ) (hf : ∀ i, i < (k_O fs cols recs x h s).length → l_w (k_ln fs cols recs x h s) i ≤ W) {k : Nat} (hk1 : 1 ≤ k) (hk8 : k ≤ 8) {kk : Int} (hkk : kk = k) : ∀ (N i : Nat) (b : Bool) (y : Int), 1 ≤ N → (k_O fs cols recs x h s).length < N + i → y = i → k ≤ i → i % k = 0 → i < (k_O fs cols recs x h s).length + k → b = frr W Lf A (k_O fs cols recs x h s).length (k_ln fs cols recs x h s) k i → ∃ y', L215_4 240 kk N (bI b) y μ = some (.inr (bI (frr W Lf A (k_O fs cols recs x h s).length (k_ln fs cols recs x h s) k (k_O fs cols recs x h s).length), y', μ))
  | 0, _, _, _, hN, _, _, _, _, _, _ => absurd hN (by omega)
  | N + 1, i, b, y, hN, hc, hy, hki, hi0, hic, hb => by
    have h47 := hB.2.2.1
    have hO8 := hD.2.2.2
    rw [L215_4]
    by_cases e : i < (k_O fs cols recs x h s).length
    · have nf : frr W Lf A (k_O fs cols recs x h s).length (k_ln fs cols recs x h s) k (i + k) = (b && fr1 W Lf A (k_O fs cols recs x h s).length (k_ln fs cols recs x h s) k i) := by
        rw [show i + k = (i + 1) + (k - 1) by omega, frr_skip (k - 1) (fun j h1 h2 => no_mul hi0 (by omega) (by omega)), hb]; rfl
      have go := fun b' hb' => L215_ok hG hx hhx hD hB hf hk1 hk8 hkk N (i + k) b' (y + kk) (by omega) (by omega) (by omega) (by omega) (by rw [Nat.add_mod, hi0, Nat.mod_self]; simp) (by omega) hb'
      have kr := k_ln_rng (h := h) (s := s) hG.1.1 hx (show i - k < _ by omega)
      have rs := l_s_rng (W := W) (Lf := Lf) (A := A) (c := (k_O fs cols recs x h s).length) kr.1 (hf (i - k) (by omega))
      have lw : l_w (k_ln fs cols recs x h s) (i - k) = 4 * ((k_ln fs cols recs x h s (i - k) : Nat) : Int) - 1 := rfl
      have w96 := hB.2.2.2.2.2
      rw [if_pos (by rw [h47]; omega), w32_id (x := y + kk) (by omega) (by omega), w32_id (x := y - kk) (by omega) (by omega)]
      cases hbb : b with
      | false =>
        rw [if_pos (show bI false = 0 from rfl)]
        exact go false (by rw [nf, hbb]; rfl)
      | true =>
        rw [hbb, Bool.true_and] at nf
        rw [if_neg (by decide), fn214_ok hG hx hhx hD hB e (hf i e) hy, am_op_some]
        dsimp only
        rw [fn214_ok hG hx hhx hD hB (i := i - k) (by omega) (hf _ (by omega)) (by omega), am_op_some]
        dsimp only
        rw [fn210_ok hG hx hhx (i := i - k) (by omega) (by omega), am_op_some]
        dsimp only
        rw [w32_id (x := 4 * _) (by omega) (by omega), w32_id (x := l_s W Lf A (k_O fs cols recs x h s).length (k_ln fs cols recs x h s) (i - k) + 4 * _) (by omega) (by omega), w32_id (x := _ - 2) (by omega) (by omega), w32_id (x := _ + 2) (by omega) (by omega)]
        by_cases q : l_s W Lf A (k_O fs cols recs x h s).length (k_ln fs cols recs x h s) (i - k) + l_w (k_ln fs cols recs x h s) (i - k) + 1 ≤ l_s W Lf A (k_O fs cols recs x h s).length (k_ln fs cols recs x h s) i
        · rw [if_neg (by omega)]
          exact go true (by rw [nf]; exact (decide_eq_true (Or.inr (Or.inr q))).symm)
        · rw [if_pos (by omega)]
          exact go false (by rw [nf]; exact (decide_eq_false (by omega)).symm)
    · rw [if_neg (by rw [h47]; omega), hb]
      obtain ⟨d, hd⟩ : ∃ d, i = (k_O fs cols recs x h s).length + d := ⟨i - (k_O fs cols recs x h s).length, by omega⟩
      have hkm : (i - k) % k = 0 := by
        have : (i - k + k) % k = i % k := by rw [show i - k + k = i by omega]
        rw [Nat.add_mod_right] at this
        omega
      have := frr_skip (W := W) (Lf := Lf) (A := A) (c := (k_O fs cols recs x h s).length) (ln := k_ln fs cols recs x h s) (k := k) (a := (k_O fs cols recs x h s).length) d (fun j h1 h2 => no_mul hkm (by omega) (by omega))
      rw [hd, this]
      exact ⟨_, rfl⟩
theorem fn215_ok {μ : am_M} (hG : RG fs cols recs x ws h s μ) (hx : x < cols) (hhx : h.2.1 = (x : Int)) (hD : BD Lf A (k_O fs cols recs x h s).length) (hB : BR W Lf A (k_O fs cols recs x h s).length μ) (hf : ∀ i, i < (k_O fs cols recs x h s).length → l_w (k_ln fs cols recs x h s) i ≤ W) {k : Nat} (hk1 : 1 ≤ k) (hkc : k ≤ (k_O fs cols recs x h s).length) {kk : Int} (hkk : kk = k) : fn215 240 kk μ = some (bI (frr W Lf A (k_O fs cols recs x h s).length (k_ln fs cols recs x h s) k (k_O fs cols recs x h s).length), μ) := by
  have hO8 := hD.2.2.2
  have hO1 := hD.2.2.1
  obtain ⟨y', q⟩ := L215_ok hG hx hhx hD hB hf hk1 (by omega) hkk am_fuel k true kk (by unfold am_fuel; omega) (by unfold am_fuel; omega) hkk (Nat.le_refl _) (Nat.mod_self _) (by omega) (frr_lt k (Nat.le_refl _)).symm
  unfold fn215
  rw [show L215_4 240 kk am_fuel 1 kk μ = _ from q, am_op_some, am_lp_r]
  dsimp only
  rw [if_pos (by cases frr W Lf A (k_O fs cols recs x h s).length (k_ln fs cols recs x h s) k (k_O fs cols recs x h s).length <;> decide)]
theorem L216_67_ok {μ : am_M} (hG : RG fs cols recs x ws h s μ) (hx : x < cols) (hhx : h.2.1 = (x : Int)) (hO8 : (k_O fs cols recs x h s).length ≤ 8) (h47 : μ 240 47 = (((k_O fs cols recs x h s).length : Nat) : Int)) (h5 : μ 240 5 = W) {b0 : Bool} : ∀ (k N i : Nat) (b : Bool) (y : Int), k < N → y = i → i + k = (k_O fs cols recs x h s).length → b = (b0 && ftb W (k_ln fs cols recs x h s) i) → ∃ y', L216_67 240 N (bI b) y μ = some (.inr (bI (b0 && ftb W (k_ln fs cols recs x h s) (k_O fs cols recs x h s).length), y', μ))
  | k, 0, _, _, _, hN, _, _, _ => absurd hN (by omega)
  | 0, N + 1, i, b, y, hN, hy, hk, hb => by
    rw [L216_67, if_neg (by rw [h47]; omega), hb, show i = (k_O fs cols recs x h s).length by omega]
    exact ⟨_, rfl⟩
  | k + 1, N + 1, i, b, y, hN, hy, hk, hb => by
    have go : ∀ b', b' = (b0 && ftb W (k_ln fs cols recs x h s) (i + 1)) → ∃ y', L216_67 240 N (bI b') (y + 1) μ = some (.inr (bI (b0 && ftb W (k_ln fs cols recs x h s) (k_O fs cols recs x h s).length), y', μ)) := fun b' hb' => L216_67_ok hG hx hhx hO8 h47 h5 k N (i + 1) b' (y + 1) (by omega) (by omega) (by omega) hb'
    have kr := k_ln_rng (h := h) (s := s) hG.1.1 hx (show i < _ by omega)
    have hf : (b0 && ftb W (k_ln fs cols recs x h s) (i + 1)) = (b && decide (l_w (k_ln fs cols recs x h s) i ≤ W)) := by rw [hb, Bool.and_assoc]; rfl
    rw [L216_67, if_pos (by rw [h47]; omega), w32_id (x := y + 1) (by omega) (by omega)]
    cases hbb : b with
    | false =>
      rw [if_pos (show bI false = 0 from rfl)]
      exact go false (by rw [hf, hbb]; rfl)
    | true =>
      rw [hbb, Bool.true_and] at hf
      rw [if_neg (by decide), fn210_ok hG hx hhx (i := i) (by omega) hy, am_op_some]
      dsimp only
      rw [w32_id (x := 4 * _) (by omega) (by omega), w32_id (x := 4 * _ - 1) (by omega) (by omega)]
      by_cases q : W < l_w (k_ln fs cols recs x h s) i
      · rw [if_pos (by rw [h5]; exact q)]
        exact go false (by rw [hf]; exact (decide_eq_false (by omega)).symm)
      · rw [if_neg (by rw [h5]; exact q)]
        exact go true (by rw [hf]; exact (decide_eq_true (by omega)).symm)
theorem L216_112_ok (hx : x < cols) (hhx : h.2.1 = (x : Int)) (hD : BD Lf A (k_O fs cols recs x h s).length) (hf : ∀ i, i < (k_O fs cols recs x h s).length → l_w (k_ln fs cols recs x h s) i ≤ W) : ∀ (m N i : Nat) (μ : am_M), m < N → i + m = (k_O fs cols recs x h s).length → 1 ≤ i → RG fs cols recs x ws h s μ → BR W Lf A (k_O fs cols recs x h s).length μ → μ 240 46 = (i : Int) → ∃ μ', L216_112 240 1 N μ = some (.inr μ') ∧ μ' 240 46 = ((st_f (fun k => frr W Lf A (k_O fs cols recs x h s).length (k_ln fs cols recs x h s) k (k_O fs cols recs x h s).length) m i : Nat) : Int) ∧ ∀ c t, ¬ (c = 240 ∧ t = 46) → μ' c t = μ c t
  | m, 0, _, _, hN, _, _, _, _, _ => absurd hN (by omega)
  | 0, N + 1, i, μ, hN, hm, h1, hG, hB, h46 => by
    rw [L216_112, if_neg (by decide), h46, fn215_ok hG hx hhx hD hB hf h1 (by omega) rfl, am_op_some]
    dsimp only
    rw [show i = (k_O fs cols recs x h s).length by omega, frr_lt _ (Nat.le_refl _), if_neg (by decide)]
    rw [show i = (k_O fs cols recs x h s).length by omega] at h46
    exact ⟨_, rfl, h46, fun _ _ _ => rfl⟩
  | m + 1, N + 1, i, μ, hN, hm, h1, hG, hB, h46 => by
    have hO8 := hD.2.2.2
    rw [L216_112, if_neg (by decide), h46, fn215_ok hG hx hhx hD hB hf h1 (by omega) rfl, am_op_some]
    dsimp only
    unfold st_f
    cases hb : frr W Lf A (k_O fs cols recs x h s).length (k_ln fs cols recs x h s) i (k_O fs cols recs x h s).length with
    | true =>
      rw [if_neg (by decide), if_pos rfl]
      exact ⟨_, rfl, h46, fun _ _ _ => rfl⟩
    | false =>
      rw [if_pos (show bI false = 0 from rfl), if_neg (by decide), h46, w32_id (by omega) (by omega)]
      obtain ⟨μ', r1, r2, r3⟩ := L216_112_ok hx hhx hD hf m N (i + 1) (am_up μ 240 46 ((i : Int) + 1)) (by omega) (by omega) (by omega) (hG.fr (fun c t hc => up_ne (by omega))) (hB.fr (fun t ht => up_ne (by omega))) (by rw [am_up_at]; omega)
      exact ⟨μ', r1, r2, fun c t h => by rw [r3 c t h, up_ne h]⟩
/-- as laid -/
def LYR (W Lf A : Int) (c : Nat) (ln : Nat → Nat) (μ : am_M) : Prop := BR W Lf A c μ ∧ μ 240 46 = ((srd W Lf A c ln : Nat) : Int)
theorem fn216_ok {st fi la lo hi : Int} {n : Nat} (hS : SN st fi la n lo hi) {μ : am_M} (hR3 : R3 st fi la n μ) (hG : RG fs cols recs x ws h s μ) (hx : x < cols) (hhx : h.2.1 = (x : Int)) (hO1 : 1 ≤ (k_O fs cols recs x h s).length) (hO8 : (k_O fs cols recs x h s).length ≤ 8) (h5 : μ 240 5 = W) (hW0 : 20 ≤ W) (hW : W ≤ 96) :
    ∃ b μ', fn216 240 μ = some (bI b, μ') ∧ b = (decide (2 * (((k_O fs cols recs x h s).length : Nat) : Int) ≤ W - 1 - (4 * mxl st fi n + 2)) && ftb W (k_ln fs cols recs x h s) (k_O fs cols recs x h s).length) ∧ (b = true → LYR W (4 * mxl st fi n + 2) (W - 1 - (4 * mxl st fi n + 2)) (k_O fs cols recs x h s).length (k_ln fs cols recs x h s) μ') ∧ ∀ c t, ¬ (c = 240 ∧ (t = 45 ∨ t = 46)) → c ≠ 258 → μ' c t = μ c t := by
  have hn := hS.2.1
  have mr := mxl_rng st fi n
  have mr1 := mr.2.2 (by omega)
  obtain ⟨y1, μ1, q1, q2⟩ := L216_4_ok hS n am_fuel 0 μ 0 0 (by unfold am_fuel; omega) rfl (by omega) hR3 rfl
  unfold fn216
  rw [q1, am_op_some, am_lp_r]
  dsimp only
  rw [w32_id (x := 4 * mxl st fi n) (by omega) (by omega), w32_id (x := 4 * mxl st fi n - 1) (by omega) (by omega), w32_id (x := 4 * mxl st fi n - 1 + 3) (by omega) (by omega), show 4 * mxl st fi n - 1 + 3 = 4 * mxl st fi n + 2 by omega]
  generalize hL : 4 * mxl st fi n + 2 = Lf at *
  have K : ∀ c t, ¬ (c = 240 ∧ t = 45) → c ≠ 258 → am_up μ1 240 45 Lf c t = μ c t := fun c t a b => by rw [up_ne a, q2 c t b]
  have k45 : am_up μ1 240 45 Lf 240 45 = Lf := am_up_at _ _ _ _
  generalize am_up μ1 240 45 Lf = μ2 at *
  generalize hA : W - 1 - Lf = A at *
  have hG2 : RG fs cols recs x ws h s μ2 := hG.fr (fun c t hc => K c t (by omega) (by omega))
  have h47 : μ2 240 47 = (((k_O fs cols recs x h s).length : Nat) : Int) := hG2.2.2.2.1
  have h52 : μ2 240 5 = W := by rw [K _ _ (by omega) (by omega)]; exact h5
  have hB : BR W Lf A (k_O fs cols recs x h s).length μ2 := ⟨h52, k45, h47, hA, by omega, by omega⟩
  rw [fn209_ok hB (by omega) (by omega), am_op_some]
  dsimp only
  have fin : ∀ b0 : Bool, b0 = decide (2 * (((k_O fs cols recs x h s).length : Nat) : Int) ≤ A) → ∃ b μ', (am_op (L216_67 240 am_fuel (bI b0) 0 μ2) (fun s => am_lp s (fun q4 => some q4) (fun t4 => (am_op (L216_112 240 t4.1 am_fuel (am_up t4.2.2 240 46 1)) (fun s => am_lp s (fun q5 => some q5) (fun t5 => (if t4.1 = 0 ∨ t4.1 = 1 then some (t4.1, t5) else none))))))) = some (bI b, μ') ∧ b = (decide (2 * (((k_O fs cols recs x h s).length : Nat) : Int) ≤ A) && ftb W (k_ln fs cols recs x h s) (k_O fs cols recs x h s).length) ∧ (b = true → LYR W Lf A (k_O fs cols recs x h s).length (k_ln fs cols recs x h s) μ') ∧ ∀ c t, ¬ (c = 240 ∧ (t = 45 ∨ t = 46)) → c ≠ 258 → μ' c t = μ c t := fun b0 hb0 => by
    obtain ⟨y', r1⟩ := L216_67_ok hG2 hx hhx hO8 h47 h52 (b0 := b0) (k_O fs cols recs x h s).length am_fuel 0 b0 0 (by unfold am_fuel; omega) rfl (by omega) (by unfold ftb; rw [Bool.and_true])
    rw [r1, am_op_some, am_lp_r]
    dsimp only
    rw [← hb0]
    cases hb : (b0 && ftb W (k_ln fs cols recs x h s) (k_O fs cols recs x h s).length) with
    | false =>
      have e : L216_112 240 (bI false) am_fuel (am_up μ2 240 46 1) = some (.inr (am_up μ2 240 46 1)) := by
        unfold am_fuel; rw [L216_112, if_pos (show bI false = 0 from rfl)]
      rw [e, am_op_some, am_lp_r, if_pos (by decide)]
      exact ⟨false, _, rfl, rfl, fun h => absurd h (by decide), fun c t a b => by rw [up_ne (by omega), K c t (by omega) b]⟩
    | true =>
      rw [Bool.and_eq_true] at hb
      rw [hb.1] at hb0
      have hA2 : 2 * (((k_O fs cols recs x h s).length : Nat) : Int) ≤ A := of_decide_eq_true hb0.symm
      have hD : BD Lf A (k_O fs cols recs x h s).length := ⟨by omega, by omega, hO1, hO8⟩
      have hB3 : BR W Lf A (k_O fs cols recs x h s).length (am_up μ2 240 46 1) := hB.fr (fun t ht => up_ne (by omega))
      obtain ⟨μ', u1, u2, u3⟩ := L216_112_ok (W := W) hx hhx hD (ftb_all _ hb.2) ((k_O fs cols recs x h s).length - 1) am_fuel 1 (am_up μ2 240 46 1) (by unfold am_fuel; omega) (by omega) (Nat.le_refl _) (hG2.fr (fun c t hc => up_ne (by omega))) hB3 (am_up_at _ _ _ _)
      rw [show L216_112 240 (bI true) am_fuel (am_up μ2 240 46 1) = _ from u1, am_op_some, am_lp_r, if_pos (by decide)]
      exact ⟨true, μ', rfl, rfl, fun _ => ⟨hB3.fr (fun t ht => u3 _ _ (by omega)), u2⟩, fun c t a b => by rw [u3 c t (by omega), up_ne (by omega), K c t (by omega) b]⟩
  by_cases q : A < 2 * (((k_O fs cols recs x h s).length : Nat) : Int)
  · rw [if_pos (by rw [h47, w32_id (by omega) (by omega)]; exact q)]
    exact fin false (decide_eq_false (by omega)).symm
  · rw [if_neg (by rw [h47, w32_id (by omega) (by omega)]; exact q)]
    exact fin true (decide_eq_true (by omega)).symm
end RL
