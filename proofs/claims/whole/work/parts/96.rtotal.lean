/-! The reference adds up. -/
def bT (l1 l2 : Int) (n : Nat) (l3 l5 l7 l9 l10 l11 : Int) (μ : am_M) : Option ((Int × am_M) ⊕ (Int × Int × Int × Int × Int × Int × am_M)) := (if μ 240 22 = 0 then (L199_21 240 l1 l2 n l3 l5 l7 (w32 (l9 + 1)) l10 (w32 (l11 + 1)) μ) else (am_op (fn192 240 l11 (μ 240 23) μ) (fun y1 => (if y1.1 = 0 then (am_op (fn193 240 l11 (y1.2 240 23) y1.2) (fun y2 => (if l10 = 0 then (if l10 = 0 then (L199_21 240 l1 l2 n (w64 (l3 + y2.1)) y2.1 y2.1 (w32 (l9 + 1)) (w32 (l10 + 1)) (w32 (l11 + 1)) y2.2) else (if 0 < o_cmp y2.1 l7 then (L199_21 240 l1 l2 n (w64 (l3 + y2.1)) y2.1 y2.1 (w32 (l9 + 1)) (w32 (l10 + 1)) (w32 (l11 + 1)) y2.2) else (L199_21 240 l1 l2 n (w64 (l3 + y2.1)) y2.1 l7 (w32 (l9 + 1)) (w32 (l10 + 1)) (w32 (l11 + 1)) y2.2))) else (if o_cmp y2.1 l5 < 0 then (if l10 = 0 then (L199_21 240 l1 l2 n (w64 (l3 + y2.1)) y2.1 y2.1 (w32 (l9 + 1)) (w32 (l10 + 1)) (w32 (l11 + 1)) y2.2) else (if 0 < o_cmp y2.1 l7 then (L199_21 240 l1 l2 n (w64 (l3 + y2.1)) y2.1 y2.1 (w32 (l9 + 1)) (w32 (l10 + 1)) (w32 (l11 + 1)) y2.2) else (L199_21 240 l1 l2 n (w64 (l3 + y2.1)) y2.1 l7 (w32 (l9 + 1)) (w32 (l10 + 1)) (w32 (l11 + 1)) y2.2))) else (if l10 = 0 then (L199_21 240 l1 l2 n (w64 (l3 + y2.1)) l5 y2.1 (w32 (l9 + 1)) (w32 (l10 + 1)) (w32 (l11 + 1)) y2.2) else (if 0 < o_cmp y2.1 l7 then (L199_21 240 l1 l2 n (w64 (l3 + y2.1)) l5 y2.1 (w32 (l9 + 1)) (w32 (l10 + 1)) (w32 (l11 + 1)) y2.2) else (L199_21 240 l1 l2 n (w64 (l3 + y2.1)) l5 l7 (w32 (l9 + 1)) (w32 (l10 + 1)) (w32 (l11 + 1)) y2.2))))))) else (L199_21 240 l1 l2 n l3 l5 l7 (w32 (l9 + 1)) l10 (w32 (l11 + 1)) y1.2)))))
def d_sg (cnt : Nat → Bool) (gi si : Nat → Nat) (g : Nat) (sI : Int) (r : Nat) : Bool := (cnt r && decide (gi r = g)) && (decide (sI < 0) || decide ((si r : Int) = sI))
def Rn (cnt : Nat → Bool) (gi si : Nat → Nat) (n : Nat) (μ : am_M) : Prop := ∀ q, q < n → μ 257 q = bI (cnt q) ∧ (cnt q = true → μ 252 q = ((gi q : Nat) : Int) ∧ μ 253 q = ((si q : Nat) : Int))
section RTot
variable {fs : List (List Int)} {cols recs : Nat} {ws : List (List Int)} {h : Int × Int × Int × Int} {s : QC} {cnt : Nat → Bool} {gi si : Nat → Nat}
def tRs (t : T5) (l3 l5 l7 l9 l10 : Int) : Prop := l9 = t.1 ∧ l10 = t.2.1 ∧ l3 = t.2.2.1 ∧ (t.2.1 ≠ 0 → l5 = t.2.2.2.1 ∧ l7 = t.2.2.2.2)
theorem bT_ok {μ : am_M} (hX : RX fs cols recs μ ws h s) (hyy : (h.2.2.1 = 0 ∧ h.2.2.2 = -1) ∨ (h.2.2.1 ≠ 0 ∧ 0 ≤ h.2.2.2 ∧ h.2.2.2 < (cols : Int) ∧ sp_ty fs cols recs h.2.2.2.toNat = 1)) {r : Nat} (hr : r + 1 < recs) {t : T5} {k : Nat} (hI : tI t k) (hk : k ≤ 12) {l1 l2 l3 l5 l7 l9 l10 l11 : Int} {n : Nat} (hT : tRs t l3 l5 l7 l9 l10) (hl : l11 = r) (h13 : recs ≤ 13) :
    ∃ l3' l5' l7' l9' l10', bT l1 l2 n l3 l5 l7 l9 l10 l11 μ = L199_21 240 l1 l2 n l3' l5' l7' l9' l10' (l11 + 1) μ ∧ tRs (t_row (d_val fs cols recs h.2.2.2 r) t) l3' l5' l7' l9' l10' := by
  obtain ⟨i1, i2, i3, i4, i5, i6, -⟩ := hI
  obtain ⟨t1, t2, t3, t4⟩ := hT
  have h22 : μ 240 22 = h.2.2.1 := hX.2.2.2.2.2.1
  have h23 : μ 240 23 = h.2.2.2 := hX.2.2.2.2.2.2.1
  unfold bT d_val
  rw [w32_id (x := l9 + 1) (by omega) (by omega), w32_id (x := l11 + 1) (by omega) (by omega), w32_id (x := l10 + 1) (by omega) (by omega)]
  rcases hyy with ⟨m0, y0⟩ | ⟨m0, y0, y1, y2⟩
  · rw [if_pos (by omega), if_pos (by omega)]
    exact ⟨_, _, _, _, _, rfl, by dsimp only [t_row]; omega, t2, t3, t4⟩
  · rw [if_neg (by omega), if_neg (by omega), h23, fn192_ok hX.1 hr (c := h.2.2.2.toNat) (by omega) hl (by omega), am_op_some]
    dsimp only
    by_cases hm : sp_c fs cols h.2.2.2.toNat r = []
    · rw [decide_eq_true hm, if_neg (by decide), if_pos hm]
      exact ⟨_, _, _, _, _, rfl, by dsimp only [t_row]; omega, t2, t3, t4⟩
    · rw [decide_eq_false hm, if_pos (show bI false = 0 from rfl), if_neg hm, h23, fn193_ok hX.1 hX.2.1 hr (c := h.2.2.2.toNat) (by omega) hm (by omega) hl (by omega), am_op_some]
      dsimp only
      have hv := d_wor_9 (fs := fs) (cols := cols) (recs := recs) (r := r) (c := h.2.2.2.toNat) hr y2
      generalize d_wor fs cols recs r h.2.2.2.toNat = v at *
      rw [w64_id (by omega) (by omega)]
      have b9 : l9 + 1 = (t_row (some v) t).1 := by dsimp only [t_row]; omega
      have b10 : l10 + 1 = (t_row (some v) t).2.1 := by dsimp only [t_row]; omega
      have b3 : l3 + v = (t_row (some v) t).2.2.1 := by dsimp only [t_row]; omega
      by_cases k0 : l10 = 0
      · rw [if_pos k0, if_pos k0]
        refine ⟨_, _, _, _, _, rfl, b9, b10, b3, fun _ => ⟨?_, ?_⟩⟩
        · dsimp only [t_row]; rw [if_pos (by omega)]
        · dsimp only [t_row]; rw [if_pos (by omega)]
      · obtain ⟨e5, e7⟩ := t4 (by omega)
        rw [if_neg k0]
        by_cases c1 : v < l5
        · rw [if_pos (o_cmp_lt.mpr c1), if_neg k0]
          by_cases c2 : l7 < v
          · rw [if_pos (o_cmp_gt.mpr c2)]
            refine ⟨_, _, _, _, _, rfl, b9, b10, b3, fun _ => ⟨?_, ?_⟩⟩
            · dsimp only [t_row]; rw [if_pos (by omega)]
            · dsimp only [t_row]; rw [if_pos (by omega)]
          · rw [if_neg (fun z => c2 (o_cmp_gt.mp z))]
            refine ⟨_, _, _, _, _, rfl, b9, b10, b3, fun _ => ⟨?_, ?_⟩⟩
            · dsimp only [t_row]; rw [if_pos (by omega)]
            · dsimp only [t_row]; rw [if_neg (by omega)]; exact e7
        · rw [if_neg (fun z => c1 (o_cmp_lt.mp z)), if_neg k0]
          by_cases c2 : l7 < v
          · rw [if_pos (o_cmp_gt.mpr c2)]
            refine ⟨_, _, _, _, _, rfl, b9, b10, b3, fun _ => ⟨?_, ?_⟩⟩
            · dsimp only [t_row]; rw [if_neg (by omega)]; exact e5
            · dsimp only [t_row]; rw [if_pos (by omega)]
          · rw [if_neg (fun z => c2 (o_cmp_gt.mp z))]
            refine ⟨_, _, _, _, _, rfl, b9, b10, b3, fun _ => ⟨?_, ?_⟩⟩
            · dsimp only [t_row]; rw [if_neg (by omega)]; exact e5
            · dsimp only [t_row]; rw [if_neg (by omega)]; exact e7
theorem L199_ok {μ : am_M} (hX : RX fs cols recs μ ws h s) (hN : Rn cnt gi si (recs - 1) μ) (hyy : (h.2.2.1 = 0 ∧ h.2.2.2 = -1) ∨ (h.2.2.1 ≠ 0 ∧ 0 ≤ h.2.2.2 ∧ h.2.2.2 < (cols : Int) ∧ sp_ty fs cols recs h.2.2.2.toNat = 1)) {g : Nat} {gg sI : Int} (hg : gg = g) : ∀ (k N r : Nat) (l3 l5 l7 l9 l10 y : Int), k < N → y = r → r + k + 1 = recs → tRs (tly (d_sg cnt gi si g sI) (d_val fs cols recs h.2.2.2) r) l3 l5 l7 l9 l10 →
    ∃ l3' l5' l7' l9' l10' y', L199_21 240 gg sI N l3 l5 l7 l9 l10 y μ = some (.inr (l3', l5', l7', l9', l10', y', μ)) ∧ tRs (tly (d_sg cnt gi si g sI) (d_val fs cols recs h.2.2.2) (recs - 1)) l3' l5' l7' l9' l10'
  | k, 0, _, _, _, _, _, _, _, hN', _, _, _ => absurd hN' (by omega)
  | 0, N + 1, r, l3, l5, l7, l9, l10, y, hN', hy, hk, hT => by
    have h8 := hX.1.2.1
    have h13 := hX.1.2.2.2.2.2.1
    rw [L199_21, w32_id (by omega) (by omega), if_neg (by rw [h8]; omega)]
    rw [show r = recs - 1 by omega] at hT
    exact ⟨_, _, _, _, _, _, rfl, hT⟩
  | k + 1, N + 1, r, l3, l5, l7, l9, l10, y, hN', hy, hk, hT => by
    have h8 := hX.1.2.1
    have h13 := hX.1.2.2.2.2.2.1
    obtain ⟨q57, q52⟩ := hN r (by omega)
    have inv := tly_inv (sel := d_sg cnt gi si g sI) (val := d_val fs cols recs h.2.2.2) r (fun q hq => d_val_rng (by omega) (by omega))
    obtain ⟨r31, l31, r32, l32, r34, l34, r35, l35, r36, l36, r37, l37⟩ := rf_12
    have b1 : (0 : Int) ≤ y ∧ y < ((12 : Nat) : Int) := by omega
    have ey : y.toNat = r := by omega
    rw [L199_21, r37, l37, r31, l31, r32, l32, w32_id (x := y + 1) (by omega) (by omega), if_pos (by rw [h8]; omega), if_pos b1, ey]
    have skip : d_sg cnt gi si g sI r = false → ∃ l3' l5' l7' l9' l10' y', L199_21 240 gg sI N l3 l5 l7 l9 l10 (y + 1) μ = some (.inr (l3', l5', l7', l9', l10', y', μ)) ∧ tRs (tly (d_sg cnt gi si g sI) (d_val fs cols recs h.2.2.2) (recs - 1)) l3' l5' l7' l9' l10' := fun e =>
      L199_ok hX hN hyy hg k N (r + 1) l3 l5 l7 l9 l10 (y + 1) (by omega) (by omega) (by omega) (by unfold tly; rw [e, if_neg (by decide)]; exact hT)
    have take : d_sg cnt gi si g sI r = true → ∃ l3' l5' l7' l9' l10' y', bT gg sI N l3 l5 l7 l9 l10 y μ = some (.inr (l3', l5', l7', l9', l10', y', μ)) ∧ tRs (tly (d_sg cnt gi si g sI) (d_val fs cols recs h.2.2.2) (recs - 1)) l3' l5' l7' l9' l10' := fun e => by
      obtain ⟨a3, a5, a7, a9, a10, q1, q2⟩ := bT_ok (l1 := gg) (l2 := sI) (n := N) hX hyy (r := r) (by omega) inv (by omega) hT hy h13
      rw [q1]
      exact L199_ok hX hN hyy hg k N (r + 1) a3 a5 a7 a9 a10 (y + 1) (by omega) (by omega) (by omega) (by unfold tly; rw [e, if_pos rfl]; exact q2)
    have bTe : ∀ l9' l11', w32 (l11' + 1) = l11' + 1 → bT gg sI N l3 l5 l7 l9' l10 l11' μ = bT gg sI N l3 l5 l7 l9' l10 l11' μ := fun _ _ _ => rfl
    cases hc : cnt r with
    | false =>
      rw [hc] at q57
      rw [if_pos (show μ 257 r = 0 from q57)]
      exact skip (by unfold d_sg; rw [hc]; rfl)
    | true =>
      rw [hc] at q57
      obtain ⟨q2, q3⟩ := q52 hc
      rw [if_neg (by rw [q57]; decide), if_pos b1]
      by_cases c1 : μ 252 r = gg
      · rw [if_pos c1]
        have hgi : gi r = g := by omega
        by_cases c2 : sI < 0
        · rw [if_pos c2]
          have := take (by unfold d_sg; rw [hc, decide_eq_true hgi, decide_eq_true c2]; rfl)
          unfold bT at this
          rw [w32_id (x := y + 1) (by omega) (by omega)] at this
          exact this
        · rw [if_neg c2, if_pos b1]
          by_cases c3 : μ 253 r = sI
          · rw [if_pos c3]
            have := take (by unfold d_sg; rw [hc, decide_eq_true hgi, decide_eq_false c2, decide_eq_true (show (si r : Int) = sI by omega)]; rfl)
            unfold bT at this
            rw [w32_id (x := y + 1) (by omega) (by omega)] at this
            exact this
          · rw [if_neg c3]
            exact skip (by unfold d_sg; rw [decide_eq_false c2, decide_eq_false (show ¬ ((si r : Int) = sI) by omega)]; simp)
      · rw [if_neg c1]
        exact skip (by unfold d_sg; rw [decide_eq_false (show ¬ (gi r = g) by omega)]; simp)
def r_t (fs : List (List Int)) (cols recs : Nat) (h : Int × Int × Int × Int) (cnt : Nat → Bool) (gi si : Nat → Nat) (g : Nat) (sI : Int) : T5 := tly (d_sg cnt gi si g sI) (d_val fs cols recs h.2.2.2) (recs - 1)
def r_kp (me : Int) (t : T5) : Bool := decide (me = 0 ∨ me = 1 ∨ t.2.1 ≠ 0)
theorem fn199_ok {μ : am_M} (hX : RX fs cols recs μ ws h s) (hN : Rn cnt gi si (recs - 1) μ) (hyy : (h.2.2.1 = 0 ∧ h.2.2.2 = -1) ∨ (h.2.2.1 ≠ 0 ∧ 0 ≤ h.2.2.2 ∧ h.2.2.2 < (cols : Int) ∧ sp_ty fs cols recs h.2.2.2.toNat = 1)) (hme : 0 ≤ h.2.2.1 ∧ h.2.2.1 ≤ 4) {g : Nat} {gg sI : Int} (hg : gg = g) : fn199 240 gg sI μ = some (if r_kp h.2.2.1 (r_t fs cols recs h cnt gi si g sI) = true then t_amt h.2.2.1 (r_t fs cols recs h cnt gi si g sI) else -9223372036854775808, μ) := by
  have h13 := hX.1.2.2.2.2.2.1
  have h1 := hX.1.2.2.2.2.1
  obtain ⟨l3, l5, l7, l9, l10, y', a1, a2⟩ := L199_ok (cnt := cnt) (gi := gi) (si := si) (sI := sI) hX hN hyy hg (recs - 1) am_fuel 0 0 (-9223372036854775808) (-9223372036854775808) 0 0 0 (by unfold am_fuel; omega) rfl (by omega) ⟨rfl, rfl, rfl, fun z => absurd rfl z⟩
  have inv := tly_inv (sel := d_sg cnt gi si g sI) (val := d_val fs cols recs h.2.2.2) (recs - 1) (fun q hq => d_val_rng (by omega) (by omega))
  have z := t_amt_rng inv (by omega) h.2.2.1
  have h22 : μ 240 22 = h.2.2.1 := hX.2.2.2.2.2.1
  unfold fn199
  rw [a1, am_op_some, am_lp_r]
  dsimp only
  unfold r_t r_kp
  generalize tly (d_sg cnt gi si g sI) (d_val fs cols recs h.2.2.2) (recs - 1) = t at *
  obtain ⟨t1, t2, t3, t4⟩ := a2
  obtain ⟨i1, i2, i3, i4, i5, i6, -⟩ := inv
  unfold t_amt at z ⊢
  by_cases m0 : h.2.2.1 = 0
  · rw [if_pos m0] at z
    rw [if_pos (by rw [h22]; exact m0), decide_eq_true (Or.inl m0), if_pos rfl, if_pos m0, w64_id (x := l9 * 1000) (by omega) (by omega), w64_id (by omega) (by omega), t1]
    congr 2
    omega
  · rw [if_neg m0] at z
    rw [if_neg (by rw [h22]; exact m0)]
    by_cases m1 : h.2.2.1 = 1
    · rw [if_pos m1] at z
      rw [if_pos (by rw [h22]; exact m1), decide_eq_true (Or.inr (Or.inl m1)), if_pos rfl, if_neg m0, if_pos m1, w64_id (by omega) (by omega), t3]
    · rw [if_neg m1] at z
      rw [if_neg (by rw [h22]; exact m1)]
      by_cases k0 : t.2.1 = 0
      · rw [if_pos (by omega), decide_eq_false (by omega), if_neg (by decide)]
      · rw [if_neg k0] at z
        obtain ⟨e5, e7⟩ := t4 k0
        rw [if_neg (by omega), decide_eq_true (Or.inr (Or.inr k0)), if_pos rfl, if_neg m0, if_neg m1, if_neg k0]
        by_cases m2 : h.2.2.1 = 2
        · rw [if_pos m2] at z ⊢
          rw [if_pos (by rw [h22]; exact m2), if_neg (by omega), o_divl_nn (by omega) (by omega) (by omega) (by omega), t2, t3, w64_id (by omega) (by omega)]
        · rw [if_neg m2] at z ⊢
          rw [if_neg (by rw [h22]; exact m2)]
          by_cases m3 : h.2.2.1 = 3
          · rw [if_pos m3] at z ⊢
            rw [if_pos (by rw [h22]; exact m3), w64_id (by omega) (by omega), e5]
          · rw [if_neg m3] at z ⊢
            rw [if_neg (by rw [h22]; exact m3), w64_id (by omega) (by omega), e7]
end RTot
