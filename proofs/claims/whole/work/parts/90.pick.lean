/-! pickRows. -/
section RPR
variable {fs : List (List Int)} {cols recs : Nat} {cnt : Nat → Bool}
theorem sk_0 {st : Int} (h : st < 0) (q : Nat) : fI (d_sk fs cols st) cnt q = 0 := by
  unfold fI
  cases hF : fF (d_sk fs cols st) cnt q with
  | nil => rfl
  | cons a l =>
    rw [List.findIdx_cons]
    unfold d_sk
    rw [if_pos h, if_pos h]
    rfl
theorem fT_ok {st : Int} {z : am_M} {r : Nat} (hr : r < 12) (hcr : cnt r = true) (h29 : z 240 29 = st) (h38 : 0 ≤ st → z 240 38 = (((fF (d_sk fs cols st) cnt r).length : Nat) : Int)) {v rr : Int} (hB : PB (d_sk fs cols st) cnt st r v r) (hrr : rr = r) : ∃ μ', fT rr v z = some (0, μ') ∧ μ' 253 r = ((fI (d_sk fs cols st) cnt r : Nat) : Int) ∧ (0 ≤ st → μ' 240 38 = (((fF (d_sk fs cols st) cnt (r + 1)).length : Nat) : Int)) ∧ ∀ c t, ¬ (c = 253 ∧ t = r) → ¬ (c = 240 ∧ t = 38) → μ' c t = z c t := by
  have hlen := fF_len (key := d_sk fs cols st) (cnt := cnt) r
  have b1 : (0 : Int) ≤ rr ∧ rr < ((12 : Nat) : Int) := by omega
  unfold fT
  rw [show rr.toNat = r by omega]
  by_cases hs : st < 0
  · rw [if_pos (by omega), if_pos (by omega), if_pos b1]
    exact ⟨_, rfl, by rw [am_up_at, sk_0 hs]; rfl, fun z => by omega, fun c t c1 c2 => up_ne c1⟩
  · have hP : PA (d_sk fs cols st) cnt r v r := by
      rcases hB with hB | hB
      · omega
      · exact hB.2
    have e38 := h38 (by omega)
    rw [if_neg (by omega)]
    rcases hP with ⟨⟨q', a1, a2, a3⟩, a4⟩ | ⟨a1, a2⟩
    · have hI : fI (d_sk fs cols st) cnt r < (fF (d_sk fs cols st) cnt r).length := by
        rw [fI_eq a1 a2 a3]; exact (fI_st r q' a1 a2).2
      rw [if_neg (by omega), if_neg (by omega), if_pos b1]
      exact ⟨_, rfl, by rw [am_up_at]; exact a4, fun _ => by rw [fF_next hcr, if_pos hI, am_up_c _ _ (by decide)]; exact e38, fun c t c1 c2 => up_ne c1⟩
    · have hI : fI (d_sk fs cols st) cnt r = (fF (d_sk fs cols st) cnt r).length := fI_new a1
      rw [if_pos (by omega), if_neg (by rw [am_up_s _ _ (by decide)]; omega), if_pos b1, e38, w32_id (by omega) (by omega)]
      exact ⟨_, rfl, by rw [am_up_at, hI], fun _ => by rw [fF_next hcr, if_neg (by omega), am_up_c _ _ (by decide), am_up_at]; simp, fun c t c1 c2 => by rw [up_ne c1, up_ne c2]⟩
theorem fn197_ok {ws : List (List Int)} {h : Int × Int × Int × Int} {s : QC} {x : Nat} (hx : x < cols) (hhx : h.2.1 = (x : Int)) (hst : s.2.2.1 = -1 ∨ (0 ≤ s.2.2.1 ∧ s.2.2.1 < (cols : Int))) (hcnt : ∀ q, cnt q = true → sp_c fs cols x q ≠ []) {r : Nat} (hr : r + 1 < recs) (h13 : recs ≤ 13) (hcr : cnt r = true) {rr : Int} (hrr : rr = r) {μ : am_M} (hX : RX fs cols recs μ ws h s) (hI : RGi (d_gk fs cols recs x) (d_sk fs cols s.2.2.1) cnt s.2.2.1 μ r) (h252 : μ 252 r = -1) (h257 : μ 257 r = bI true) : ∃ μ', fn197 240 rr μ = some (0, μ') ∧ RGi (d_gk fs cols recs x) (d_sk fs cols s.2.2.1) cnt s.2.2.1 μ' (r + 1) ∧ ∀ c t, ¬ (c = 240 ∧ (t = 33 ∨ t = 38)) → ¬ (c = 254) → ¬ (c = 252 ∧ t = r) → ¬ (c = 253 ∧ t = r) → μ' c t = μ c t := by
  have hB0 : PB (d_sk fs cols s.2.2.1) cnt s.2.2.1 r (-1) 0 := by
    by_cases z : s.2.2.1 < 0
    · exact Or.inl ⟨z, rfl⟩
    · exact Or.inr ⟨by omega, Or.inr ⟨fun q' hq => absurd hq (by omega), rfl⟩⟩
  obtain ⟨l2, x', μ1, a1, a2, a3, a4⟩ := L197_ok hx hhx hst hcnt hr h13 hcr hrr r am_fuel 0 μ (-1) 0 (by unfold am_fuel; omega) rfl (by omega) hX hI (Or.inr ⟨fun q' hq => absurd hq (by omega), h252⟩) hB0
  have hlen := fF_len (key := d_gk fs cols recs x) (cnt := cnt) r
  have b1 : (0 : Int) ≤ rr ∧ rr < ((12 : Nat) : Int) := by omega
  have hX1 : RX fs cols recs μ1 ws h s := hX.fr (fun c t hct => a4 c t (by omega))
  have hI1 : RGi (d_gk fs cols recs x) (d_sk fs cols s.2.2.1) cnt s.2.2.1 μ1 r := hI.fr (by omega) (fun c t hct => a4 c t (by omega))
  have h29 : μ1 240 29 = s.2.2.1 := hX1.2.2.2.2.2.2.2.2.2.2.2.1
  have e57 : μ1 257 r = bI true := by rw [a4 _ _ (by omega)]; exact h257
  obtain ⟨i1, i2, i3, i4⟩ := hI1
  obtain ⟨r31, l31, r32, l32, r34, l34, r35, l35, r36, l36, r37, l37⟩ := rf_12
  unfold fn197
  rw [a1, am_op_some, am_lp_r, r31, l31, r34, l34, r32, l32]
  dsimp only
  rw [if_pos b1]
  have e252 : μ1 252 rr.toNat = μ1 252 r := by rw [show rr.toNat = r by omega]
  rcases a2 with ⟨⟨q', c1, c2, c3⟩, c4⟩ | ⟨c1, c2⟩
  · have hIl : fI (d_gk fs cols recs x) cnt r < (fF (d_gk fs cols recs x) cnt r).length := by
      rw [fI_eq c1 c2 c3]; exact (fI_st r q' c1 c2).2
    rw [if_neg (by rw [e252]; omega)]
    obtain ⟨μ2, d1, d2, d3, d4⟩ := fT_ok (fs := fs) (cols := cols) (cnt := cnt) (by omega) hcr h29 i2 a3 hrr
    refine ⟨μ2, d1, ⟨by rw [fF_next hcr, if_pos hIl, d4 _ _ (by omega) (by omega)]; exact i1, d3, ?_, fun q hq => ?_⟩, fun c t e1 e2 e3 e4 => by rw [d4 c t e4 (by omega), a4 c t e3]⟩
    · rw [fF_next hcr, if_pos hIl]
      exact fun g hg => by rw [d4 _ _ (by omega) (by omega)]; exact i3 g hg
    · by_cases hqr : q = r
      · rw [hqr, hcr]
        exact ⟨by rw [d4 _ _ (by omega) (by omega)]; exact e57, fun _ => ⟨by rw [d4 _ _ (by omega) (by omega)]; exact c4, d2⟩⟩
      · rw [d4 _ _ (by omega) (by omega), d4 _ _ (by omega) (by omega), d4 _ _ (by omega) (by omega)]
        exact i4 q (by omega)
  · have hIl : fI (d_gk fs cols recs x) cnt r = (fF (d_gk fs cols recs x) cnt r).length := fI_new c1
    rw [if_pos (by rw [e252]; omega), if_pos b1, show rr.toNat = r by omega]
    have m1 : ∀ c t, ¬ (c = 252 ∧ t = r) → am_up μ1 252 r (μ1 240 33) c t = μ1 c t := fun c t hct => up_ne hct
    have m1r : am_up μ1 252 r (μ1 240 33) 252 r = ((fI (d_gk fs cols recs x) cnt r : Nat) : Int) := by rw [am_up_at, i1, hIl]
    generalize am_up μ1 252 r (μ1 240 33) = μ2 at *
    have e33 : μ2 240 33 = (((fF (d_gk fs cols recs x) cnt r).length : Nat) : Int) := by rw [m1 _ _ (by omega)]; exact i1
    rw [if_pos (by rw [e33]; omega), e33, Int.toNat_natCast]
    have m2 : ∀ c t, ¬ (c = 254 ∧ t = (fF (d_gk fs cols recs x) cnt r).length) → am_up μ2 254 (fF (d_gk fs cols recs x) cnt r).length rr c t = μ2 c t := fun c t hct => up_ne hct
    have m2r : am_up μ2 254 (fF (d_gk fs cols recs x) cnt r).length rr 254 (fF (d_gk fs cols recs x) cnt r).length = (r : Int) := by rw [am_up_at, hrr]
    generalize am_up μ2 254 (fF (d_gk fs cols recs x) cnt r).length rr = μ3 at *
    have e33' : μ3 240 33 = (((fF (d_gk fs cols recs x) cnt r).length : Nat) : Int) := by rw [m2 _ _ (by omega)]; exact e33
    rw [e33', w32_id (by omega) (by omega)]
    have m3 : ∀ c t, ¬ (c = 240 ∧ t = 33) → am_up μ3 240 33 ((((fF (d_gk fs cols recs x) cnt r).length : Nat) : Int) + 1) c t = μ3 c t := fun c t hct => up_ne hct
    have m3r : am_up μ3 240 33 ((((fF (d_gk fs cols recs x) cnt r).length : Nat) : Int) + 1) 240 33 = (((fF (d_gk fs cols recs x) cnt r).length : Nat) : Int) + 1 := am_up_at _ _ _ _
    generalize am_up μ3 240 33 ((((fF (d_gk fs cols recs x) cnt r).length : Nat) : Int) + 1) = μ4 at *
    have M : ∀ c t, ¬ (c = 240 ∧ t = 33) → ¬ (c = 254 ∧ t = (fF (d_gk fs cols recs x) cnt r).length) → ¬ (c = 252 ∧ t = r) → μ4 c t = μ1 c t := fun c t f1 f2 f3 => by rw [m3 c t f1, m2 c t f2, m1 c t f3]
    obtain ⟨μ5, d1, d2, d3, d4⟩ := fT_ok (fs := fs) (cols := cols) (cnt := cnt) (z := μ4) (by omega) hcr (by rw [M _ _ (by omega) (by omega) (by omega)]; exact h29) (fun z => by rw [M _ _ (by omega) (by omega) (by omega)]; exact i2 z) a3 hrr
    refine ⟨μ5, (by unfold fT at d1; rw [show rr.toNat = r by omega] at d1; exact d1), ⟨?_, d3, ?_, fun q hq => ?_⟩, fun c t e1 e2 e3 e4 => by rw [d4 c t e4 (by omega), M c t (by omega) (by omega) e3, a4 c t e3]⟩
    · rw [fF_next hcr, if_neg (by omega), d4 _ _ (by omega) (by omega), m3r]; simp
    · rw [fF_next hcr, if_neg (by omega)]
      intro g hg
      rw [getD_app, d4 _ _ (by omega) (by omega)]
      simp at hg
      by_cases hg2 : g < (fF (d_gk fs cols recs x) cnt r).length
      · rw [if_pos hg2, M _ _ (by omega) (by omega) (by omega)]; exact i3 g hg2
      · rw [if_neg hg2, if_pos (by omega), show g = (fF (d_gk fs cols recs x) cnt r).length by omega, m3 _ _ (by omega)]; exact m2r
    · by_cases hqr : q = r
      · rw [hqr, hcr]
        exact ⟨by rw [d4 _ _ (by omega) (by omega), M _ _ (by omega) (by omega) (by omega)]; exact e57, fun _ => ⟨by rw [d4 _ _ (by omega) (by omega), m3 _ _ (by omega), m2 _ _ (by omega)]; exact m1r, d2⟩⟩
      · rw [d4 _ _ (by omega) (by omega), d4 _ _ (by omega) (by omega), d4 _ _ (by omega) (by omega), M _ _ (by omega) (by omega) (by omega), M _ _ (by omega) (by omega) (by omega), M _ _ (by omega) (by omega) (by omega)]
        exact i4 q (by omega)
theorem L198_12_ok {ws : List (List Int)} {h : Int × Int × Int × Int} {s : QC} {x : Nat} (hx : x < cols) (hhx : h.2.1 = (x : Int)) (hst : s.2.2.1 = -1 ∨ (0 ≤ s.2.2.1 ∧ s.2.2.1 < (cols : Int))) (hcnt : cnt = d_cnt fs cols recs x s.1) (hne : ∀ w ∈ ws, w ≠ []) (hf : ∀ c ∈ s.1, q_fit (sp_ty fs cols recs) c) : ∀ (k N r : Nat) (μ : am_M) (y : Int), k < N → y = r → r + k + 1 = recs → RX fs cols recs μ ws h s → RGi (d_gk fs cols recs x) (d_sk fs cols s.2.2.1) cnt s.2.2.1 μ r →
    ∃ x' μ', L198_12 240 N y μ = some (.inr (x', μ')) ∧ RGi (d_gk fs cols recs x) (d_sk fs cols s.2.2.1) cnt s.2.2.1 μ' (recs - 1) ∧ ∀ c t, ¬ (c = 240 ∧ (t = 33 ∨ t = 38)) → ¬ (c = 252 ∨ c = 253 ∨ c = 254 ∨ c = 257) → μ' c t = μ c t
  | k, 0, _, _, _, hN, _, _, _, _ => absurd hN (by omega)
  | 0, N + 1, r, μ, y, hN, hy, hk, hX, hI => by
    have h8 := hX.1.2.1
    have h13 := hX.1.2.2.2.2.2.1
    rw [L198_12, w32_id (by omega) (by omega), if_neg (by rw [h8]; omega)]
    exact ⟨_, _, rfl, by rw [show recs - 1 = r by omega]; exact hI, fun _ _ _ _ => rfl⟩
  | k + 1, N + 1, r, μ, y, hN, hy, hk, hX, hI => by
    have h8 := hX.1.2.1
    have h13 := hX.1.2.2.2.2.2.1
    have h21 : μ 240 21 = (x : Int) := by rw [← hhx]; exact hX.2.2.2.2.1
    have hcn : ∀ q, cnt q = true → sp_c fs cols x q ≠ [] := fun q hq e => by
      rw [hcnt] at hq
      unfold d_cnt at hq
      rw [decide_eq_true e] at hq
      simp at hq
    obtain ⟨r31, l31, r32, l32, r34, l34, r35, l35, r36, l36, r37, l37⟩ := rf_12
    have b1 : (0 : Int) ≤ y ∧ y < ((12 : Nat) : Int) := by omega
    rw [L198_12, r37, l37, r31, l31, r32, l32, w32_id (by omega) (by omega), if_pos (by rw [h8]; omega), h21, fn192_ok hX.1 (r := r) (by omega) hx hy rfl, am_op_some]
    dsimp only
    /- what comes behind the first test -/
    have go : ∀ b : Bool, cnt r = (b && s.1.all (fun q => d_hold fs cols recs q r)) → ∃ x' μ', (am_op (L198_47 240 y am_fuel 0 (am_up μ 257 y.toNat (o_nar .boolean (bI b)))) (fun s => am_lp s (fun q2 => some (.inl q2)) (fun t2 => (if (0 : Int) ≤ y ∧ y < ((12 : Nat) : Int) then (if (0 : Int) ≤ y ∧ y < ((12 : Nat) : Int) then (if (0 : Int) ≤ y ∧ y < ((12 : Nat) : Int) then (if (am_up (am_up t2.2 252 y.toNat (-1)) 253 y.toNat 0) 257 y.toNat = 0 then (L198_12 240 N (y + 1) (am_up (am_up t2.2 252 y.toNat (-1)) 253 y.toNat 0)) else (am_op (fn197 240 y (am_up (am_up t2.2 252 y.toNat (-1)) 253 y.toNat 0)) (fun z4 => (L198_12 240 N (y + 1) z4.2)))) else none) else none) else none))) : Option ((Int × am_M) ⊕ (Int × am_M))) = some (.inr (x', μ')) ∧ RGi (d_gk fs cols recs x) (d_sk fs cols s.2.2.1) cnt s.2.2.1 μ' (recs - 1) ∧ ∀ c t, ¬ (c = 240 ∧ (t = 33 ∨ t = 38)) → ¬ (c = 252 ∨ c = 253 ∨ c = 254 ∨ c = 257) → μ' c t = μ c t := by
      intro b hb
      have en : o_nar .boolean (bI b) = bI b := by cases b; exact o_nz_0; exact o_nz_1
      rw [en, show y.toNat = r by omega]
      obtain ⟨x1, μ1, a1, a2, a3⟩ := L198_47_ok (fs := fs) (cols := cols) (ws := ws) (h := h) hne hf (r := r) (by omega) h13 hy s.1.length am_fuel 0 (am_up μ 257 r (bI b)) b 0 (by have := hX.2.2.2.2.2.2.2.2.1; unfold am_fuel; omega) rfl (by omega) (hX.fr (fun c t hct => am_up_c _ _ (by omega))) (am_up_at _ _ _ _)
      rw [List.drop_zero, ← hb] at a2
      rw [a1, am_op_some, am_lp_r]
      dsimp only
      rw [if_pos b1, if_pos b1, if_pos b1]
      have g0 : ∀ c t, ¬ ((c = 252 ∨ c = 253) ∧ t = r) → am_up (am_up μ1 252 r (-1)) 253 r 0 c t = μ1 c t := fun c t hct => by rw [up_ne (by omega), up_ne (by omega)]
      have g52 : am_up (am_up μ1 252 r (-1)) 253 r 0 252 r = -1 := by rw [am_up_c _ _ (by decide), am_up_at]
      generalize am_up (am_up μ1 252 r (-1)) 253 r 0 = μ2 at *
      have G : ∀ c t, ¬ ((c = 252 ∨ c = 253 ∨ c = 257) ∧ t = r) → μ2 c t = μ c t := fun c t hct => by rw [g0 c t (by omega), a3 c t (by omega), up_ne (by omega)]
      have e57 : μ2 257 r = bI (cnt r) := by rw [g0 _ _ (by omega)]; exact a2
      have hX2 : RX fs cols recs μ2 ws h s := hX.fr (fun c t hct => G c t (by omega))
      have hI2 : RGi (d_gk fs cols recs x) (d_sk fs cols s.2.2.1) cnt s.2.2.1 μ2 r := hI.fr (by omega) (fun c t hct => G c t (by omega))
      cases hc : cnt r with
      | false =>
        rw [hc] at e57
        rw [if_pos (show μ2 257 r = 0 from e57)]
        obtain ⟨i1, i2, i3, i4⟩ := hI2
        obtain ⟨x', μ', r1, r2, r3⟩ := L198_12_ok hx hhx hst hcnt hne hf k N (r + 1) μ2 (y + 1) (by omega) (by omega) (by omega) hX2 ⟨by rw [fF_skip hc]; exact i1, by rw [fF_skip hc]; exact i2, by rw [fF_skip hc]; exact i3, fun q hq => by
          by_cases hqr : q = r
          · rw [hqr, hc]; exact ⟨e57, fun z => by cases z⟩
          · exact i4 q (by omega)⟩
        exact ⟨x', μ', r1, r2, fun c t c1 c2 => by rw [r3 c t c1 c2, G c t (by omega)]⟩
      | true =>
        rw [hc] at e57
        rw [if_neg (by rw [e57]; decide)]
        obtain ⟨μ3, d1, d2, d3⟩ := fn197_ok hx hhx hst hcn (r := r) (by omega) h13 hc hy hX2 hI2 g52 e57
        rw [d1, am_op_some]
        dsimp only
        obtain ⟨x', μ', r1, r2, r3⟩ := L198_12_ok hx hhx hst hcnt hne hf k N (r + 1) μ3 (y + 1) (by omega) (by omega) (by omega) (hX2.fr (fun c t hct => d3 c t (by omega) (by omega) (by omega) (by omega))) d2
        exact ⟨x', μ', r1, r2, fun c t c1 c2 => by rw [r3 c t c1 c2, d3 c t (by omega) (by omega) (by omega) (by omega), G c t (by omega)]⟩
    by_cases hm : sp_c fs cols x r = []
    · rw [decide_eq_true hm, if_neg (by decide), if_pos b1]
      exact go false (by rw [hcnt]; unfold d_cnt; rw [decide_eq_true hm]; rfl)
    · rw [decide_eq_false hm, if_pos (show bI false = 0 from rfl), if_pos b1]
      exact go true (by rw [hcnt]; unfold d_cnt; rw [decide_eq_false hm]; rfl)
theorem fn198_ok {ws : List (List Int)} {h : Int × Int × Int × Int} {s : QC} {x : Nat} (hx : x < cols) (hhx : h.2.1 = (x : Int)) (hst : s.2.2.1 = -1 ∨ (0 ≤ s.2.2.1 ∧ s.2.2.1 < (cols : Int))) (hcnt : cnt = d_cnt fs cols recs x s.1) (hne : ∀ w ∈ ws, w ≠ []) (hf : ∀ c ∈ s.1, q_fit (sp_ty fs cols recs) c) {μ : am_M} (hX : RX fs cols recs μ ws h s) : ∃ μ', fn198 240 μ = some (0, μ') ∧ RGi (d_gk fs cols recs x) (d_sk fs cols s.2.2.1) cnt s.2.2.1 μ' (recs - 1) ∧ (s.2.2.1 < 0 → μ' 240 38 = 1) ∧ ∀ c t, ¬ (c = 240 ∧ (t = 33 ∨ t = 38)) → ¬ (c = 252 ∨ c = 253 ∨ c = 254 ∨ c = 257) → μ' c t = μ c t := by
  have h13 := hX.1.2.2.2.2.2.1
  have h1 := hX.1.2.2.2.2.1
  have g0 : ∀ c t, ¬ (c = 240 ∧ (t = 33 ∨ t = 38)) → am_up (am_up μ 240 33 0) 240 38 0 c t = μ c t := fun c t hct => by rw [up_ne (by omega), up_ne (by omega)]
  have e33 : am_up (am_up μ 240 33 0) 240 38 0 240 33 = 0 := by rw [am_up_s _ _ (by decide), am_up_at]
  have e38 : am_up (am_up μ 240 33 0) 240 38 0 240 38 = 0 := am_up_at _ _ _ _
  unfold fn198
  generalize am_up (am_up μ 240 33 0) 240 38 0 = μ0 at *
  have hX0 : RX fs cols recs μ0 ws h s := hX.fr (fun c t hct => g0 c t (by omega))
  obtain ⟨x', μ1, a1, a2, a3⟩ := L198_12_ok (cnt := cnt) hx hhx hst hcnt hne hf (recs - 1) am_fuel 0 μ0 0 (by unfold am_fuel; omega) rfl (by omega) hX0 ⟨by rw [e33]; rfl, fun _ => by rw [e38]; rfl, fun g hg => absurd hg (by unfold fF; simp), fun q hq => absurd hq (by omega)⟩
  have h29 : μ1 240 29 = s.2.2.1 := by rw [a3 _ _ (by omega) (by omega)]; exact hX0.2.2.2.2.2.2.2.2.2.2.2.1
  rw [a1, am_op_some, am_lp_r]
  dsimp only
  obtain ⟨i1, i2, i3, i4⟩ := a2
  by_cases hs : s.2.2.1 < 0
  · rw [if_pos (by omega)]
    refine ⟨_, rfl, ⟨by rw [up_ne (by omega)]; exact i1, fun z => absurd z (by omega), fun g hg => by rw [up_ne (by omega)]; exact i3 g hg, fun q hq => ?_⟩, fun _ => am_up_at _ _ _ _, fun c t c1 c2 => by rw [up_ne (by omega), a3 c t c1 c2, g0 c t c1]⟩
    rw [up_ne (by omega), up_ne (by omega), up_ne (by omega)]
    exact i4 q hq
  · rw [if_neg (by omega), am_up_id]
    exact ⟨μ1, rfl, ⟨i1, i2, i3, i4⟩, fun z => absurd z hs, fun c t c1 c2 => by rw [a3 c t c1 c2, g0 c t c1]⟩
end RPR
