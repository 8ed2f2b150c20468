/-! The class adds up. -/
def d_val (fs : List (List Int)) (cols recs : Nat) (y : Int) (r : Nat) : Option Int := if y < 0 then none else if sp_c fs cols y.toNat r = [] then none else some (d_wor fs cols recs r y.toNat)
def d_sel (cnt : Nat → Bool) (gi si : Nat → Nat) (g s r : Nat) : Bool := (cnt r && decide (gi r = g)) && decide (si r = s)
def dsum (f : Nat → Int) : Nat → Int
  | 0 => 0
  | k + 1 => dsum f k + f k
def dany (f : Nat → Bool) : Nat → Bool
  | 0 => false
  | k + 1 => dany f k || f k
def t_has (me : Int) (t : T5) : Bool := decide (me = 0 ∨ me = 1 ∨ 0 < t.2.1)
theorem dsum_rng {f : Nat → Int} {B : Int} (hf : ∀ k, -B ≤ f k ∧ f k ≤ B) : ∀ k : Nat, -(k * B) ≤ dsum f k ∧ dsum f k ≤ k * B
  | 0 => by unfold dsum; simp
  | k + 1 => by
    have ih := dsum_rng hf k
    have := hf k
    unfold dsum
    have e : ((k + 1 : Nat) : Int) * B = (k : Int) * B + B := by rw [Int.natCast_add, Int.add_mul]; simp
    rw [e]
    omega
section AU
variable {fs : List (List Int)} {cols recs : Nat} {h : Int × Int × Int × Int} {s : QC} {cnt : Nat → Bool} {gi si : Nat → Nat}
theorem d_val_rng {y : Int} (hy : y < 0 ∨ sp_ty fs cols recs y.toNat = 1) {r : Nat} (hr : r + 1 < recs) : ∀ v, d_val fs cols recs y r = some v → -1000000000 ≤ v ∧ v ≤ 1000000000 := fun v e => by
  unfold d_val at e
  split at e
  · cases e
  · split at e
    · cases e
    · injection e with e
      rw [← e]
      exact d_wor_9 hr (by omega)
/-- one row into the tally -/
theorem fn92_ok {μ : am_M} (hC : CT μ fs cols recs) (hW : CW μ fs cols recs cols) {y : Int} (hy : y = -1 ∨ (0 ≤ y ∧ y < (cols : Int) ∧ sp_ty fs cols recs y.toNat = 1)) {r : Nat} (hr : r + 1 < recs) {t : T5} (hT : Ty μ t) {k : Nat} (hI : tI t k) (hk : k ≤ 12) {rr : Int} (hrr : rr = r) : ∃ μ', fn92 196 5 y rr μ = some (0, μ') ∧ Ty μ' (t_row (d_val fs cols recs y r) t) ∧ ∀ c t, c ≠ 229 → μ' c t = μ c t := by
  obtain ⟨i1, i2, i3, i4, i5, i6, -⟩ := hI
  obtain ⟨μ1, a1, a2, a3⟩ := fn90_ok hT i1 (by omega)
  unfold fn92 d_val
  rw [rf_10.2.2.2.2.2.2.2.2.2.2.2.2.2.2.2.2, a1, am_op_some]
  dsimp only
  by_cases hy1 : y = -1
  · rw [if_pos hy1, if_pos (by omega)]
    exact ⟨μ1, rfl, a2, a3⟩
  · have hC1 : CT μ1 fs cols recs := hC.fw (fun c t hc => a3 c t (by omega))
    have hW1 : CW μ1 fs cols recs cols := hW.fw (fun c t hc => a3 c t (by omega))
    rw [if_neg hy1, if_neg (by omega), fn79_ok hC1 hr (c := y.toNat) (by omega) hrr (by omega), am_op_some]
    dsimp only
    by_cases hm : sp_c fs cols y.toNat r = []
    · rw [decide_eq_true hm, if_neg (by decide), if_pos hm]
      exact ⟨μ1, rfl, a2, a3⟩
    · rw [decide_eq_false hm, if_pos (show bI false = 0 from rfl), if_neg hm, fn80_ok hC1 hW1 hr (c := y.toNat) (by omega) hrr (by omega), am_op_some]
      dsimp only
      have hv := d_wor_9 (fs := fs) (cols := cols) (recs := recs) (r := r) (c := y.toNat) hr (by omega)
      obtain ⟨μ2, b1, b2, b3⟩ := fn91_ok a2 i3 (by dsimp only; omega) (y := d_wor fs cols recs r y.toNat) (by dsimp only; omega)
      rw [b1, am_op_some]
      exact ⟨μ2, rfl, b2, fun c t hc => by rw [b3 c t hc, a3 c t hc]⟩
/-- rows carry their numbers -/
def Gn (cnt : Nat → Bool) (gi si : Nat → Nat) (n : Nat) (μ : am_M) : Prop := ∀ q, q < n → μ 197 q = (if cnt q = true then ((gi q : Nat) : Int) else -1) ∧ μ 198 q = if cnt q = true then ((si q : Nat) : Int) else -1
theorem L96_39_ok {μ0 : am_M} (hyy : h.2.2.2 = -1 ∨ (0 ≤ h.2.2.2 ∧ h.2.2.2 < (cols : Int) ∧ sp_ty fs cols recs h.2.2.2.toNat = 1)) (h13 : recs ≤ 13) {g sn : Nat} {gg ss l5 n : Int} (hg : gg = g) (hs : ss = sn) (hn : n = (recs : Int) - 1) : ∀ (k N r : Nat) (μ : am_M) (y : Int), k < N → y = r → r + k + 1 = recs → CX fs cols recs μ h s → Gn cnt gi si (recs - 1) μ → Ty μ (tly (d_sel cnt gi si g sn) (d_val fs cols recs h.2.2.2) r) → (∀ c t, c ≠ 229 → μ c t = μ0 c t) →
    ∃ x' μ', L96_39 196 5 141 gg n l5 ss N y μ = some (.inr (x', μ')) ∧ Ty μ' (tly (d_sel cnt gi si g sn) (d_val fs cols recs h.2.2.2) (recs - 1)) ∧ ∀ c t, c ≠ 229 → μ' c t = μ0 c t
  | k, 0, _, _, _, hN, _, _, _, _, _, _ => absurd hN (by omega)
  | 0, N + 1, r, μ, y, hN, hy, hk, hC, hG, hT, hF => by
    rw [L96_39, if_neg (by omega)]
    exact ⟨_, _, rfl, by rw [show recs - 1 = r by omega]; exact hT, hF⟩
  | k + 1, N + 1, r, μ, y, hN, hy, hk, hC, hG, hT, hF => by
    obtain ⟨e7, e8⟩ := hG r (by omega)
    have q7 : μ 197 y.toNat = (if cnt r = true then ((gi r : Nat) : Int) else -1) := by rw [show y.toNat = r by omega]; exact e7
    have q8 : μ 198 y.toNat = (if cnt r = true then ((si r : Nat) : Int) else -1) := by rw [show y.toNat = r by omega]; exact e8
    have inv := tly_inv (sel := d_sel cnt gi si g sn) (val := d_val fs cols recs h.2.2.2) r (fun q hq => d_val_rng (by omega) (by omega))
    have b1 : (0 : Int) ≤ y ∧ y < ((12 : Nat) : Int) := by omega
    rw [L96_39, rf_10.1, rf_10.2.1, rf_10.2.2.1, rf_10.2.2.2.1, if_pos (by omega), if_pos b1, w32_id (by omega) (by omega)]
    have skip : d_sel cnt gi si g sn r = false → ∃ x' μ', L96_39 196 5 141 gg n l5 ss N (y + 1) μ = some (.inr (x', μ')) ∧ Ty μ' (tly (d_sel cnt gi si g sn) (d_val fs cols recs h.2.2.2) (recs - 1)) ∧ ∀ c t, c ≠ 229 → μ' c t = μ0 c t := fun e =>
      L96_39_ok hyy h13 hg hs hn k N (r + 1) μ (y + 1) (by omega) (by omega) (by omega) hC hG (by unfold tly; rw [e, if_neg (by decide)]; exact hT) hF
    by_cases c1 : μ 197 y.toNat = gg
    · rw [if_pos c1, if_pos b1]
      cases hc : cnt r with
      | false =>
        rw [hc, if_neg (by decide)] at q7
        omega
      | true =>
        rw [hc, if_pos rfl] at q7 q8
        by_cases c2 : μ 198 y.toNat = ss
        · rw [if_pos c2]
          unfold fn89
          rw [am_op_some]
          dsimp only
          rw [hC.2.2.2.2.2.1]
          obtain ⟨μ1, a1, a2, a3⟩ := fn92_ok hC.1 hC.2.1 hyy (r := r) (by omega) hT inv (by omega) hy
          rw [a1, am_op_some]
          dsimp only
          have e : d_sel cnt gi si g sn r = true := by unfold d_sel; rw [hc, decide_eq_true (show gi r = g by omega), decide_eq_true (show si r = sn by omega)]; rfl
          exact L96_39_ok hyy h13 hg hs hn k N (r + 1) μ1 (y + 1) (by omega) (by omega) (by omega) (hC.fr (fun c t hc => a3 c t (by omega))) (fun q hq => by rw [a3 _ _ (by omega), a3 _ _ (by omega)]; exact hG q hq) (by unfold tly; rw [e, if_pos rfl]; exact a2) (fun c t hc => by rw [a3 c t hc, hF c t hc])
        · rw [if_neg c2]
          exact skip (by unfold d_sel; rw [hc, decide_eq_false (show ¬ (si r = sn) by omega), Bool.and_false])
    · rw [if_neg c1]
      refine skip ?_
      unfold d_sel
      cases hc : cnt r with
      | false => rfl
      | true =>
        rw [hc, if_pos rfl] at q7
        rw [decide_eq_false (show ¬ (gi r = g) by omega)]; rfl
def d_seg (fs : List (List Int)) (cols recs : Nat) (h : Int × Int × Int × Int) (cnt : Nat → Bool) (gi si : Nat → Nat) (g s : Nat) : Int := t_amt h.2.2.1 (tly (d_sel cnt gi si g s) (d_val fs cols recs h.2.2.2) (recs - 1))
def d_hs (fs : List (List Int)) (cols recs : Nat) (h : Int × Int × Int × Int) (cnt : Nat → Bool) (gi si : Nat → Nat) (g s : Nat) : Bool := t_has h.2.2.1 (tly (d_sel cnt gi si g s) (d_val fs cols recs h.2.2.2) (recs - 1))
theorem fn95_ok {μ : am_M} {t : T5} (hT : Ty μ t) (me : Int) : fn95 229 me μ = some (bI (t_has me t), μ) := by
  obtain ⟨a0, a1, a2, a3, a4⟩ := hT
  unfold fn95 t_has
  by_cases m0 : me = 0
  · rw [if_pos m0, decide_eq_true (Or.inl m0)]; rfl
  · rw [if_neg m0]
    by_cases m1 : me = 1
    · rw [if_pos m1, decide_eq_true (Or.inr (Or.inl m1))]; rfl
    · rw [if_neg m1]
      by_cases k : 0 < t.2.1
      · rw [if_pos (by rw [a1]; exact k), decide_eq_true (Or.inr (Or.inr k))]; rfl
      · rw [if_neg (by rw [a1]; exact k), decide_eq_false (by omega)]; rfl
theorem d_seg_rng (hyy : h.2.2.2 < 0 ∨ sp_ty fs cols recs h.2.2.2.toNat = 1) (h13 : recs ≤ 13) (g s : Nat) : -332640000000000 ≤ d_seg fs cols recs h cnt gi si g s ∧ d_seg fs cols recs h cnt gi si g s ≤ 332640000000000 :=
  t_amt_rng (tly_inv (recs - 1) (fun q hq => d_val_rng hyy (by omega))) (by omega) _
theorem L96_13_ok (hyy : h.2.2.2 = -1 ∨ (0 ≤ h.2.2.2 ∧ h.2.2.2 < (cols : Int) ∧ sp_ty fs cols recs h.2.2.2.toNat = 1)) (hme : 0 ≤ h.2.2.1 ∧ h.2.2.1 ≤ 4) (h13 : recs ≤ 13) (h1 : 1 ≤ recs) {S g : Nat} (hS : S ≤ 12) (hg12 : g < 12) {gg n : Int} (hg : gg = g) (hn : n = (recs : Int) - 1) : ∀ (k N i : Nat) (μ : am_M) (b : Bool) (x : Int), k < N → x = i → i + k = S → CX fs cols recs μ h s → Gn cnt gi si (recs - 1) μ → μ 196 10 = ((S : Nat) : Int) → μ 226 g = dsum (d_seg fs cols recs h cnt gi si g) i → (∀ j, j < i → μ 225 (g * 12 + j) = d_seg fs cols recs h cnt gi si g j) → b = dany (d_hs fs cols recs h cnt gi si g) i →
    ∃ x' μ', L96_13 196 5 141 gg n N (bI b) x μ = some (.inr (bI (dany (d_hs fs cols recs h cnt gi si g) S), x', μ')) ∧ μ' 226 g = dsum (d_seg fs cols recs h cnt gi si g) S ∧ (∀ j, j < S → μ' 225 (g * 12 + j) = d_seg fs cols recs h cnt gi si g j) ∧ ∀ c t, c ≠ 229 → ¬ (c = 226 ∧ t = g) → ¬ (c = 225 ∧ g * 12 ≤ t ∧ t < g * 12 + 12) → μ' c t = μ c t
  | k, 0, _, _, _, _, hN, _, _, _, _, _, _, _, _ => absurd hN (by omega)
  | 0, N + 1, i, μ, b, x, hN, hx, hk, hC, hG, h10, h226, h225, hb => by
    rw [L96_13, if_neg (by rw [h10]; omega), hb, show i = S by omega]
    rw [show i = S by omega] at h226 h225
    exact ⟨_, _, rfl, h226, h225, fun _ _ _ _ _ => rfl⟩
  | k + 1, N + 1, i, μ, b, x, hN, hx, hk, hC, hG, h10, h226, h225, hb => by
    have hsr := dsum_rng (f := d_seg fs cols recs h cnt gi si g) (fun j => d_seg_rng (by omega) h13 g j) i
    have hdr := d_seg_rng (fs := fs) (cols := cols) (recs := recs) (h := h) (cnt := cnt) (gi := gi) (si := si) (by omega) h13 g i
    have hB : (i : Int) * 332640000000000 ≤ 12 * 332640000000000 := by omega
    obtain ⟨μ1, a1, a2, a3⟩ := fn88_ok μ
    obtain ⟨x1, μ2, b1, b2, b3⟩ := L96_39_ok (fs := fs) (cols := cols) (recs := recs) (h := h) (s := s) (cnt := cnt) (gi := gi) (si := si) (μ0 := μ) hyy h13 (g := g) (sn := i) (gg := gg) (ss := x) (l5 := bI b) (n := n) hg hx hn (recs - 1) am_fuel 0 μ1 0 (by unfold am_fuel; omega) rfl (by omega) (hC.fr (fun c t hc => a3 c t (by omega))) (fun q hq => by rw [a3 _ _ (by omega), a3 _ _ (by omega)]; exact hG q hq) a2 a3
    have hinv := tly_inv (sel := d_sel cnt gi si g i) (val := d_val fs cols recs h.2.2.2) (recs - 1) (fun q hq => d_val_rng (by omega) (by omega))
    have hme7 : μ2 141 7 = h.2.2.1 := by rw [b3 _ _ (by omega)]; exact hC.2.2.2.2.1
    rw [L96_13, rf_10.2.2.2.2.2.2.2.2.2.2.2.2.2.2.2.2, rf_10.2.2.2.2.2.2.2.2.1, rf_10.2.2.2.2.2.2.2.2.2.1, rf_10.2.2.2.2.2.2.2.2.2.2.1, rf_10.2.2.2.2.2.2.2.2.2.2.2.1, if_pos (by rw [h10]; omega), if_pos (by omega), a1, am_op_some]
    dsimp only
    rw [b1, am_op_some, am_lp_r]
    dsimp only
    unfold fn93
    rw [am_op_some]
    dsimp only
    rw [hme7, fn94_ok b2 hinv (by omega) hme, am_op_some]
    dsimp only
    have eix : w32 (w32 (gg * 12) + x) = ((g * 12 + i : Nat) : Int) := by rw [w32_id (x := gg * 12) (by omega) (by omega), w32_id (by omega) (by omega)]; omega
    have bg : (0 : Int) ≤ gg ∧ gg < ((12 : Nat) : Int) := by omega
    rw [if_pos (by rw [eix]; omega), if_pos bg, if_pos bg, eix, Int.toNat_natCast, show gg.toNat = g by omega, w32_id (x := x + 1) (by omega) (by omega)]
    have e0 : t_amt h.2.2.1 (tly (d_sel cnt gi si g i) (d_val fs cols recs h.2.2.2) (recs - 1)) = d_seg fs cols recs h cnt gi si g i := rfl
    rw [e0]
    have e226 : am_up μ2 225 (g * 12 + i) (d_seg fs cols recs h cnt gi si g i) 226 g = dsum (d_seg fs cols recs h cnt gi si g) i := by rw [am_up_c _ _ (by decide), b3 _ _ (by omega)]; exact h226
    rw [e226, w64_id (by omega) (by omega)]
    have g3 : ∀ c t, ¬ (c = 226 ∧ t = g) → ¬ (c = 225 ∧ t = g * 12 + i) → am_up (am_up μ2 225 (g * 12 + i) (d_seg fs cols recs h cnt gi si g i)) 226 g (dsum (d_seg fs cols recs h cnt gi si g) i + d_seg fs cols recs h cnt gi si g i) c t = μ2 c t := fun c t c1 c2 => by rw [up_ne c1, up_ne c2]
    have g26 : am_up (am_up μ2 225 (g * 12 + i) (d_seg fs cols recs h cnt gi si g i)) 226 g (dsum (d_seg fs cols recs h cnt gi si g) i + d_seg fs cols recs h cnt gi si g i) 226 g = dsum (d_seg fs cols recs h cnt gi si g) (i + 1) := am_up_at _ _ _ _
    have g25 : am_up (am_up μ2 225 (g * 12 + i) (d_seg fs cols recs h cnt gi si g i)) 226 g (dsum (d_seg fs cols recs h cnt gi si g) i + d_seg fs cols recs h cnt gi si g i) 225 (g * 12 + i) = d_seg fs cols recs h cnt gi si g i := by rw [am_up_c _ _ (by decide), am_up_at]
    generalize am_up (am_up μ2 225 (g * 12 + i) (d_seg fs cols recs h cnt gi si g i)) 226 g (dsum (d_seg fs cols recs h cnt gi si g) i + d_seg fs cols recs h cnt gi si g i) = μ3 at *
    have G3 : ∀ c t, c ≠ 229 → ¬ (c = 226 ∧ t = g) → ¬ (c = 225 ∧ t = g * 12 + i) → μ3 c t = μ c t := fun c t c0 c1 c2 => by rw [g3 c t c1 c2, b3 c t c0]
    have next : ∀ b' : Bool, b' = dany (d_hs fs cols recs h cnt gi si g) (i + 1) → ∃ x' μ', L96_13 196 5 141 gg n N (bI b') (x + 1) μ3 = some (.inr (bI (dany (d_hs fs cols recs h cnt gi si g) S), x', μ')) ∧ μ' 226 g = dsum (d_seg fs cols recs h cnt gi si g) S ∧ (∀ j, j < S → μ' 225 (g * 12 + j) = d_seg fs cols recs h cnt gi si g j) ∧ ∀ c t, c ≠ 229 → ¬ (c = 226 ∧ t = g) → ¬ (c = 225 ∧ g * 12 ≤ t ∧ t < g * 12 + 12) → μ' c t = μ c t := fun b' hb' => by
      obtain ⟨x', μ', r1, r2, r3, r4⟩ := L96_13_ok hyy hme h13 h1 hS hg12 hg hn k N (i + 1) μ3 b' (x + 1) (by omega) (by omega) (by omega) (hC.fr (fun c t hc => G3 c t (by omega) (by omega) (by omega))) (fun q hq => by rw [G3 _ _ (by omega) (by omega) (by omega), G3 _ _ (by omega) (by omega) (by omega)]; exact hG q hq) (by rw [G3 _ _ (by omega) (by omega) (by omega)]; exact h10) g26 (fun j hj => by
        by_cases hji : j = i
        · rw [hji]; exact g25
        · rw [G3 _ _ (by omega) (by omega) (by omega)]; exact h225 j (by omega)) hb'
      exact ⟨x', μ', r1, r2, r3, fun c t c0 c1 c2 => by rw [r4 c t c0 c1 c2, G3 c t c0 c1 (by omega)]⟩
    cases b with
    | true =>
      rw [if_neg (by decide)]
      exact next true (by unfold dany; rw [← hb]; rfl)
    | false =>
      rw [if_pos (show bI false = 0 from rfl)]
      rw [am_op_some]
      dsimp only
      have hme7' : μ3 141 7 = h.2.2.1 := by rw [G3 _ _ (by omega) (by omega) (by omega)]; exact hC.2.2.2.2.1
      obtain ⟨t0, t1, t2, t3, t4⟩ := b2
      rw [hme7', fn95_ok (t := tly (d_sel cnt gi si g i) (d_val fs cols recs h.2.2.2) (recs - 1)) ⟨by rw [g3 _ _ (by omega) (by omega)]; exact t0, by rw [g3 _ _ (by omega) (by omega)]; exact t1, by rw [g3 _ _ (by omega) (by omega)]; exact t2, by rw [g3 _ _ (by omega) (by omega)]; exact t3, by rw [g3 _ _ (by omega) (by omega)]; exact t4⟩, am_op_some]
      dsimp only
      have e1 : t_has h.2.2.1 (tly (d_sel cnt gi si g i) (d_val fs cols recs h.2.2.2) (recs - 1)) = d_hs fs cols recs h cnt gi si g i := rfl
      rw [e1]
      cases hh : d_hs fs cols recs h cnt gi si g i with
      | false =>
        rw [if_pos (show bI false = 0 from rfl)]
        exact next false (by unfold dany; rw [← hb, hh]; rfl)
      | true =>
        rw [if_neg (by decide)]
        exact next true (by unfold dany; rw [← hb, hh]; rfl)
end AU
