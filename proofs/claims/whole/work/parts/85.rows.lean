/-! Which rows count. -/
section DR
variable (fs : List (List Int)) (cols recs : Nat)
def d_wor (r c : Nat) : Int := sp_wo (sp_ty fs cols recs c) (sp_c fs cols c r)
def d_hold (k : Nat × List Int × List Int) (r : Nat) : Bool :=
  if sp_c fs cols k.1 r = [] then false else
  if sp_ty fs cols recs k.1 = 3 then decide (sp_c fs cols k.1 r = k.2.2) else
  if k.2.1 = lit 18 then decide (d_wor fs cols recs r k.1 = sp_wo (sp_ty fs cols recs k.1) k.2.2) else
  if k.2.1 = lit 19 then decide (d_wor fs cols recs r k.1 < sp_wo (sp_ty fs cols recs k.1) k.2.2) else
  decide (sp_wo (sp_ty fs cols recs k.1) k.2.2 < d_wor fs cols recs r k.1)
def d_cnt (x : Nat) (cs : List (Nat × List Int × List Int)) (r : Nat) : Bool := (!decide (sp_c fs cols x r = [])) && cs.all (fun k => d_hold fs cols recs k r)
end DR
section DC
variable {fs : List (List Int)} {cols recs : Nat} {μ : am_M}
theorem len0 {l : List Int} : (l.length = 0) ↔ l = [] := List.length_eq_zero_iff
theorem fn79_ok (h : CT μ fs cols recs) {r c : Nat} (hr : r + 1 < recs) (hc : c < cols) {a b : Int} (ha : a = r) (hb : b = c) : fn79 5 a b μ = some (bI (decide (sp_c fs cols c r = [])), μ) := by
  obtain ⟨i1, i2, i3⟩ := h.idx (r := r + 1) hr hc
  obtain ⟨y1, y2, y3, y4, y5⟩ := h.lt i1
  unfold fn79
  rw [fn28_ok h (r := r + 1) hr hc (by omega) hb, am_op_some]
  dsimp only
  rw [Int.toNat_natCast, fn29_ok y3, am_op_some]
  dsimp only
  rw [if_pos (bI_or _)]
  unfold sp_c
  rw [decide_eq_decide.mpr len0]
theorem fn80_ok (h : CT μ fs cols recs) (hW : CW μ fs cols recs cols) {r c : Nat} (hr : r + 1 < recs) (hc : c < cols) {a b : Int} (ha : a = r) (hb : b = c) : fn80 5 a b μ = some (d_wor fs cols recs r c, μ) := by
  obtain ⟨i1, i2, i3⟩ := h.idx (r := r + 1) hr hc
  unfold fn80
  rw [fn27_ok h (r := r + 1) hr hc (by omega) hb, am_op_some, rf_1.2.2.2.2.2.2.2.1, rf_1.2.2.2.2.2.2.2.2.2.1]
  dsimp only
  rw [if_neg (by omega), if_pos (by omega), Int.toNat_natCast, (hW c hc).2 r hr]
  rfl
theorem sp_ty_v (c : Nat) : sp_ty fs cols recs c = 1 ∨ sp_ty fs cols recs c = 2 ∨ sp_ty fs cols recs c = 3 := by
  unfold sp_ty
  split
  · exact Or.inl rfl
  · split
    · exact Or.inr (Or.inl rfl)
    · exact Or.inr (Or.inr rfl)
theorem fn81_ok (h : CT μ fs cols recs) (hW : CW μ fs cols recs cols) {j : Nat} (hj : j < 2) {k : Nat × List Int × List Int} (hd : Qd μ j k) (he : Qe (sp_ty fs cols recs) μ j k) (hc : k.1 < cols) {r : Nat} (hr : r + 1 < recs) {b : Int} (hb : b = r) : fn81 (186 + 5 * j) 5 b μ = some (bI (d_hold fs cols recs k r), μ) := by
  obtain ⟨y1, y2, y3, y4, y5, y6, y7⟩ := rf_9 j hj
  obtain ⟨h1, h2, h4, h5, h6, h7, h8⟩ := hd
  obtain ⟨e3, e4⟩ := he
  have is : ∀ t, 18 ≤ t → t ≤ 20 → fn60 (187 + 5 * j) t μ = some (bI (decide (k.2.1 = lit t)), μ) := fun t t1 t2 => by
    refine fn60_ok y4 y5 h2 h5 (by omega) ?_ (by omega)
    have : ∀ t, t < 21 → 18 ≤ t → am_slen t ≤ 1 := by decide +kernel
    exact Or.inl (this t (by omega) t1)
  unfold fn81 d_hold
  rw [fn79_ok h hr hc hb h1, am_op_some]
  dsimp only
  by_cases hm : sp_c fs cols k.1 r = []
  · rw [if_pos hm, if_neg (show ¬ (bI (decide (sp_c fs cols k.1 r = [])) = 0) by rw [decide_eq_true hm]; decide)]
    rfl
  · rw [if_neg hm, if_pos (show bI (decide (sp_c fs cols k.1 r = [])) = 0 by rw [decide_eq_false hm]; rfl)]
    by_cases t3 : sp_ty fs cols recs k.1 = 3
    · obtain ⟨i1, i2, i3⟩ := h.idx (r := r + 1) hr hc
      obtain ⟨z1, z2, z3, z4, z5⟩ := h.lt i1
      rw [if_pos t3, if_pos (show μ (186 + 5 * j) 3 = 3 by rw [e3]; exact t3), fn28_ok h (r := r + 1) hr hc (by omega) h1, am_op_some]
      dsimp only
      rw [Int.toNat_natCast, y3, fn62_ok z1 z2 z3 z4 y6 y7 h4 h6 z5 (Or.inl (by omega)) (by omega), am_op_some]
      dsimp only
      rw [if_pos (bI_or _)]
      rfl
    · rw [if_neg t3, if_neg (show ¬ (μ (186 + 5 * j) 3 = 3) by rw [e3]; exact t3), fn80_ok h hW hr hc hb h1, am_op_some]
      dsimp only
      rw [y2, is 18 (by decide) (by decide), am_op_some]
      dsimp only
      have cm : ∀ (p : Prop) [Decidable p] (q : Prop) [Decidable q], (p ↔ q) → (if p then some ((1 : Int), μ) else some (0, μ)) = some (bI (decide q), μ) := fun p _ q _ hpq => by
        by_cases hp : p
        · rw [if_pos hp, decide_eq_true (hpq.mp hp)]; rfl
        · rw [if_neg hp, decide_eq_false (fun z => hp (hpq.mpr z))]; rfl
      by_cases s18 : k.2.1 = lit 18
      · rw [if_pos s18, if_neg (show ¬ (bI (decide (k.2.1 = lit 18)) = 0) by rw [decide_eq_true s18]; decide)]
        exact cm _ _ (by rw [o_cmp_eq, e4])
      · rw [if_neg s18, if_pos (show bI (decide (k.2.1 = lit 18)) = 0 by rw [decide_eq_false s18]; rfl), is 19 (by decide) (by decide), am_op_some]
        dsimp only
        by_cases s19 : k.2.1 = lit 19
        · rw [if_pos s19, if_neg (show ¬ (bI (decide (k.2.1 = lit 19)) = 0) by rw [decide_eq_true s19]; decide)]
          exact cm _ _ (by rw [o_cmp_lt, e4])
        · rw [if_neg s19, if_pos (show bI (decide (k.2.1 = lit 19)) = 0 by rw [decide_eq_false s19]; rfl)]
          exact cm _ _ (by rw [o_cmp_gt, e4])
theorem L82_ok (h : CT μ fs cols recs) (hW : CW μ fs cols recs cols) {cs : List (Nat × List Int × List Int)} (h9 : μ 141 9 = ((cs.length : Nat) : Int)) (hl : cs.length ≤ 2) (hd : ∀ j, j < cs.length → Qd μ j (cs.getD j (0, [], [])) ∧ (cs.getD j (0, [], [])).1 < cols ∧ Qe (sp_ty fs cols recs) μ j (cs.getD j (0, [], []))) {r : Nat} (hr : r + 1 < recs) {y : Int} (hy : y = r) : ∀ (k N i : Nat) (b : Bool) (x : Int), k < N → x = i → i + k = cs.length → ∃ x', L82_21 141 5 y N (bI b) x μ = some (.inr (bI (b && (cs.drop i).all (fun q => d_hold fs cols recs q r)), x', μ))
  | k, 0, _, _, _, hN, _, _ => absurd hN (by omega)
  | 0, N + 1, i, b, x, hN, hx, hk => by
    rw [List.drop_eq_nil_of_le (by omega), L82_21, List.all_nil, Bool.and_true]
    cases b with
    | false => rw [if_pos (show bI false = 0 from rfl)]; exact ⟨_, rfl⟩
    | true => rw [if_neg (by decide), if_neg (by rw [h9]; omega)]; exact ⟨_, rfl⟩
  | k + 1, N + 1, i, b, x, hN, hx, hk => by
    rw [L82_21, rf_6.2.2.2.2.1, rf_6.2.2.2.2.2.2.1]
    cases b with
    | false => rw [if_pos (show bI false = 0 from rfl)]; exact ⟨_, rfl⟩
    | true =>
      obtain ⟨d1, d2, d3⟩ := hd i (by omega)
      have e3 : cs.drop i = cs.getD i (0, [], []) :: cs.drop (i + 1) := by
        have hi : i < cs.length := by omega
        rw [List.getD_eq_getElem?_getD, List.getElem?_eq_getElem hi]
        exact List.drop_eq_getElem_cons hi
      rw [if_neg (by decide), if_pos (by rw [h9]; omega), if_pos (by omega), if_pos (by omega), show x.toNat = i by omega, (rf_9 i (by omega)).1, fn81_ok h hW (by omega) d1 d3 d2 hr hy, am_op_some]
      dsimp only
      rw [w32_id (by omega) (by omega), e3, List.all_cons, Bool.true_and]
      exact L82_ok h hW h9 hl hd hr hy k N (i + 1) _ (x + 1) (by omega) (by omega) (by omega)
theorem fn82_ok (h : CT μ fs cols recs) (hW : CW μ fs cols recs cols) {cs : List (Nat × List Int × List Int)} (h9 : μ 141 9 = ((cs.length : Nat) : Int)) (hl : cs.length ≤ 2) (hd : ∀ j, j < cs.length → Qd μ j (cs.getD j (0, [], [])) ∧ (cs.getD j (0, [], [])).1 < cols ∧ Qe (sp_ty fs cols recs) μ j (cs.getD j (0, [], []))) {x : Nat} (hx : x < cols) (h6 : μ 141 6 = (x : Int)) {r : Nat} (hr : r + 1 < recs) {y : Int} (hy : y = r) : fn82 141 5 y μ = some (bI (d_cnt fs cols recs x cs r), μ) := by
  have L : ∀ b, ∃ x', L82_21 141 5 y am_fuel (bI b) 0 μ = some (.inr (bI (b && (cs.drop 0).all (fun q => d_hold fs cols recs q r)), x', μ)) := fun b => L82_ok h hW h9 hl hd hr hy cs.length am_fuel 0 b 0 (by unfold am_fuel; omega) rfl (by omega)
  unfold fn82 d_cnt
  rw [h6, fn79_ok h hr hx hy rfl, am_op_some]
  dsimp only
  by_cases hm : sp_c fs cols x r = []
  · rw [decide_eq_true hm, if_neg (by decide)]
    obtain ⟨x', q⟩ := L false
    rw [show L82_21 141 5 y am_fuel 0 0 μ = _ from q, am_op_some, am_lp_r]
    dsimp only
    rw [if_pos (bI_or _)]
    rfl
  · rw [decide_eq_false hm, if_pos (show bI false = 0 from rfl)]
    obtain ⟨x', q⟩ := L true
    rw [show L82_21 141 5 y am_fuel 1 0 μ = _ from q, am_op_some, am_lp_r]
    dsimp only
    rw [if_pos (bI_or _)]
    rfl
end DC
section DRR
variable {fs : List (List Int)} {cols recs : Nat} {μ : am_M}
theorem fn192_ok (h : RT μ fs cols recs) {r c : Nat} (hr : r + 1 < recs) (hc : c < cols) {a b : Int} (ha : a = r) (hb : b = c) : fn192 240 a b μ = some (bI (decide (sp_c fs cols c r = [])), μ) := by
  obtain ⟨i1, i2, i3⟩ := h.idx (r := r + 1) hr hc
  have y := h.2.2.2.2.2.2.2.2.2 _ i1
  obtain ⟨r4, l4, r17, l17, r18, l18, r10, l10, r11, l11, -⟩ := rf_8
  unfold fn192
  rw [fn173_ok h (r := r + 1) hr hc (by omega) hb, am_op_some, r11, l11]
  dsimp only
  rw [if_pos (by omega), Int.toNat_natCast]
  unfold sp_c
  have y2 := y.2.1
  by_cases hm : fs.getD ((r + 1) * cols + c) [] = []
  · rw [decide_eq_true hm, if_pos (by rw [y2, hm]; rfl)]; rfl
  · have : (fs.getD ((r + 1) * cols + c) []).length ≠ 0 := fun e => hm (len0.mp e)
    rw [decide_eq_false hm, if_neg (by omega)]; rfl
theorem fn188_at {ind : Int} {p : Nat} {w : List Int} (hS : Sp μ ind p w.length (sp_g w)) (hw : w ≠ []) {a b t : Int} (ha : a = p) (hb : b = ((w.length : Nat) : Int)) (ht : t = 1 ∨ t = 2) : fn188 240 t a b ind μ = some (sp_wo t w, μ) := by
  have h0 : w.length ≠ 0 := fun e => hw (len0.mp e)
  unfold fn188 sp_wo
  rw [if_neg h0, if_neg (show ¬ (t = 3) by omega)]
  by_cases h1 : t = 1
  · rw [if_pos h1, fn176_ok hS (by omega) ha hb, am_op_some, if_pos h1]
    rfl
  · rw [if_neg h1, fn179_ok hS ha hb, am_op_some, if_neg h1]
    rfl
theorem fn193_ok (h : RT μ fs cols recs) (hY : ∀ c, c < cols → μ 246 c = sp_ty fs cols recs c) {r c : Nat} (hr : r + 1 < recs) (hc : c < cols) (hne : sp_c fs cols c r ≠ []) (ht : sp_ty fs cols recs c ≠ 3) {a b : Int} (ha : a = r) (hb : b = c) : fn193 240 a b μ = some (d_wor fs cols recs r c, μ) := by
  obtain ⟨i1, i2, i3⟩ := h.idx (r := r + 1) hr hc
  have y := h.2.2.2.2.2.2.2.2.2 _ i1
  have h5 := h.2.2.2.1
  have hv := sp_ty_v (fs := fs) (cols := cols) (recs := recs) c
  obtain ⟨r4, l4, r17, l17, r18, l18, r10, l10, r11, l11, r15, l15, -⟩ := rf_8
  unfold fn193
  rw [fn173_ok h (r := r + 1) hr hc (by omega) hb, am_op_some, r15, l15, r10, l10, r11, l11]
  dsimp only
  rw [if_pos (by omega), if_pos (by omega), if_pos (by omega), show b.toNat = c by omega, hY c hc, Int.toNat_natCast, fn188_at (h.sp i1) hne y.1 y.2.1 (by omega), am_op_some]
  rfl
theorem fn194_ok (h : RT μ fs cols recs) (hY : ∀ c, c < cols → μ 246 c = sp_ty fs cols recs c) {ws : List (List Int)} (hRW : RW μ ws) (hne : ∀ w ∈ ws, w ≠ []) {j : Nat} (hj : j < 2) {k : Nat × List Int × List Int} (hd : Rd cols μ ws j k) (hf : q_fit (sp_ty fs cols recs) k) {r : Nat} (hr : r + 1 < recs) {a b : Int} (ha : a = r) (hb : b = j) : fn194 240 a b μ = some (bI (d_hold fs cols recs k r), μ) := by
  obtain ⟨d1, hc, d3, kk, d4, d5, d6⟩ := hd
  obtain ⟨p, p1, p2, p3⟩ := hRW.2.2 kk d5
  have h80 := hRW.2.1
  have h5 := h.2.2.2.1
  obtain ⟨i1, i2, i3⟩ := h.idx (r := r + 1) hr hc
  have y := h.2.2.2.2.2.2.2.2.2 _ i1
  have hv := sp_ty_v (fs := fs) (cols := cols) (recs := recs) k.1
  have hwne : k.2.2 ≠ [] := by
    rw [← d6, List.getD_eq_getElem?_getD, List.getElem?_eq_getElem d5]
    exact hne _ (List.getElem_mem d5)
  rw [d6] at p2 p3
  obtain ⟨r4, l4, r17, l17, r18, l18, r10, l10, r11, l11, r15, l15, r25, l25, r26, l26, r27, l27⟩ := rf_8
  have e25 : μ 249 b.toNat = (k.1 : Int) := by rw [show b.toNat = j by omega]; exact d1
  have e26 : μ 250 b.toNat = q_sg k.2.1 := by rw [show b.toNat = j by omega]; exact d3
  have e27 : μ 251 b.toNat = (kk : Int) := by rw [show b.toNat = j by omega]; exact d4
  have cm : ∀ (p : Prop) [Decidable p] (q : Prop) [Decidable q], (p ↔ q) → (if p then some ((1 : Int), μ) else some (0, μ)) = some (bI (decide q), μ) := fun p _ q _ hpq => by
    by_cases hp : p
    · rw [if_pos hp, decide_eq_true (hpq.mp hp)]; rfl
    · rw [if_neg hp, decide_eq_false (fun z => hp (hpq.mpr z))]; rfl
  unfold fn194 d_hold
  rw [r25, l25, r27, l27, r26, l26, r15, l15, r17, l17, r18, l18, r10, l10, r11, l11, if_pos (by omega), fn192_ok h hr hc ha e25, am_op_some]
  dsimp only
  by_cases hm : sp_c fs cols k.1 r = []
  · rw [if_pos hm, if_neg (show ¬ (bI (decide (sp_c fs cols k.1 r = [])) = 0) by rw [decide_eq_true hm]; decide)]
    rfl
  · rw [if_neg hm, if_pos (show bI (decide (sp_c fs cols k.1 r = [])) = 0 by rw [decide_eq_false hm]; rfl), if_pos (show (0 : Int) ≤ b ∧ b < ((2 : Nat) : Int) by omega), if_pos (show (0 : Int) ≤ μ 249 b.toNat ∧ μ 249 b.toNat < ((5 : Nat) : Int) by omega)]
    have ety : μ 246 (μ 249 b.toNat).toNat = sp_ty fs cols recs k.1 := by rw [e25, Int.toNat_natCast]; exact hY _ hc
    have b27 : (0 : Int) ≤ μ 251 b.toNat ∧ μ 251 b.toNat < ((80 : Nat) : Int) := by omega
    have e247 : μ 247 (μ 251 b.toNat).toNat = (p : Int) := by rw [e27, Int.toNat_natCast]; exact p1
    have e248 : μ 248 (μ 251 b.toNat).toNat = ((k.2.2.length : Nat) : Int) := by rw [e27, Int.toNat_natCast]; exact p2
    by_cases t3 : sp_ty fs cols recs k.1 = 3
    · rw [if_pos t3, if_pos (show μ 246 (μ 249 b.toNat).toNat = 3 by rw [ety]; exact t3), if_pos b27, if_pos b27, fn173_ok h (r := r + 1) hr hc (by omega) e25, am_op_some]
      dsimp only
      rw [if_pos (by omega), fn173_ok h (r := r + 1) hr hc (by omega) e25, am_op_some]
      dsimp only
      rw [if_pos (by omega), Int.toNat_natCast, fn185_ok p3 (h.sp i1) e247 e248 y.1 y.2.1, am_op_some]
      dsimp only
      rw [if_pos (bI_or _)]
      have : decide (k.2.2 = fs.getD ((r + 1) * cols + k.1) []) = decide (sp_c fs cols k.1 r = k.2.2) := decide_eq_decide.mpr ⟨fun z => z.symm, fun z => z.symm⟩
      rw [this]
    · rw [if_neg t3, if_neg (show ¬ (μ 246 (μ 249 b.toNat).toNat = 3) by rw [ety]; exact t3), fn193_ok h hY hr hc hm t3 ha e25, am_op_some]
      dsimp only
      rw [if_pos (show (0 : Int) ≤ μ 249 b.toNat ∧ μ 249 b.toNat < ((5 : Nat) : Int) by omega), if_pos b27, if_pos b27, fn188_at p3 hwne e247 e248 (t := μ 246 (μ 249 b.toNat).toNat) (by rw [ety]; omega), am_op_some, ety]
      dsimp only
      rw [if_pos (show (0 : Int) ≤ b ∧ b < ((2 : Nat) : Int) by omega)]
      by_cases s18 : k.2.1 = lit 18
      · rw [if_pos s18, if_pos (show μ 250 b.toNat = 0 by rw [e26]; unfold q_sg; rw [if_pos s18])]
        exact cm _ _ o_cmp_eq
      · rw [if_neg s18]
        by_cases s19 : k.2.1 = lit 19
        · have e : μ 250 b.toNat = -1 := by rw [e26]; unfold q_sg; rw [if_neg s18, if_pos s19]
          rw [if_pos s19, if_neg (by omega), if_pos (by omega), if_pos (by omega)]
          exact cm _ _ o_cmp_lt
        · have e : μ 250 b.toNat = 1 := by rw [e26]; unfold q_sg; rw [if_neg s18, if_neg s19]
          rw [if_neg s19, if_neg (by omega), if_pos (by omega), if_neg (by omega)]
          exact cm _ _ o_cmp_gt
end DRR
