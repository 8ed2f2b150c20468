/-! The class meets its rows. -/
section GS
variable {fs : List (List Int)} {cols recs : Nat} {cnt : Nat → Bool} {st : Int}
theorem L87_ok {μ : am_M} (h : CT μ fs cols recs) (hst : st = -1 ∨ (0 ≤ st ∧ st < (cols : Int))) {r : Nat} (hr : r + 1 < recs) (h198 : ∀ q, q < r → μ 198 q = if cnt q = true then ((fI (d_sk fs cols st) cnt q : Nat) : Int) else -1) {rr : Int} (hrr : rr = r) : ∀ (k N q : Nat) (y : Int), k < N → y = q → q + k = r → ((∃ q', q ≤ q' ∧ q' < r ∧ cnt q' = true ∧ d_sk fs cols st q' = d_sk fs cols st r) → L87_3 196 5 st rr N y μ = some (.inl (0, am_up μ 198 r ((fI (d_sk fs cols st) cnt r : Nat) : Int)))) ∧ ((¬ ∃ q', q ≤ q' ∧ q' < r ∧ cnt q' = true ∧ d_sk fs cols st q' = d_sk fs cols st r) → ∃ x', L87_3 196 5 st rr N y μ = some (.inr (x', μ)))
  | k, 0, _, _, hN, _, _ => absurd hN (by omega)
  | 0, N + 1, q, y, hN, hy, hk => by
    rw [L87_3, if_neg (by omega)]
    exact ⟨(fun ⟨q', z1, z2, _⟩ => by omega), fun _ => ⟨_, rfl⟩⟩
  | k + 1, N + 1, q, y, hN, hy, hk => by
    have hr12 := h.2.2.2.2.2.1
    have e := h198 q (by omega)
    have hs2 : ¬ st = -1 → st.toNat < cols ∧ st = ((st.toNat : Nat) : Int) := fun z => by omega
    have ih := L87_ok h hst hr h198 hrr k N (q + 1) (y + 1) (by omega) (by omega) (by omega)
    rw [L87_3, rf_10.2.2.1, rf_10.2.2.2.1, if_pos (by omega), if_pos (by omega), w32_id (by omega) (by omega)]
    have skip : (cnt q = true → d_sk fs cols st q ≠ d_sk fs cols st r) → ((∃ q', q ≤ q' ∧ q' < r ∧ cnt q' = true ∧ d_sk fs cols st q' = d_sk fs cols st r) ↔ (∃ q', q + 1 ≤ q' ∧ q' < r ∧ cnt q' = true ∧ d_sk fs cols st q' = d_sk fs cols st r)) := fun hs => by
      constructor
      · rintro ⟨q', z1, z2, z3, z4⟩
        by_cases hq : q' = q
        · subst hq; exact absurd z4 (hs z3)
        · exact ⟨q', by omega, z2, z3, z4⟩
      · rintro ⟨q', z1, z2, z3, z4⟩
        exact ⟨q', by omega, z2, z3, z4⟩
    have eq : μ 198 y.toNat = if cnt q = true then ((fI (d_sk fs cols st) cnt q : Nat) : Int) else -1 := by rw [show y.toNat = q by omega]; exact e
    cases hc : cnt q with
    | false =>
      rw [hc, if_neg (by decide)] at eq
      rw [if_pos eq, skip (fun z => by rw [hc] at z; cases z)]
      exact ih
    | true =>
      rw [hc, if_pos rfl] at eq
      rw [if_neg (by rw [eq]; omega)]
      have found : d_sk fs cols st q = d_sk fs cols st r → ∀ X : Option ((Int × am_M) ⊕ (Int × am_M)), X = some (.inl (0, am_up μ 198 rr.toNat (μ 198 y.toNat))) → ((∃ q', q ≤ q' ∧ q' < r ∧ cnt q' = true ∧ d_sk fs cols st q' = d_sk fs cols st r) → X = some (.inl (0, am_up μ 198 r ((fI (d_sk fs cols st) cnt r : Nat) : Int)))) ∧ ((¬ ∃ q', q ≤ q' ∧ q' < r ∧ cnt q' = true ∧ d_sk fs cols st q' = d_sk fs cols st r) → ∃ x', X = some (.inr (x', μ))) := fun hs X hX => by
        refine ⟨fun _ => ?_, fun z => absurd ⟨q, by omega, by omega, hc, hs⟩ z⟩
        rw [hX, eq, fI_eq (by omega) hc hs, show rr.toNat = r by omega]
      by_cases hs1 : st = -1
      · rw [if_pos hs1, if_pos (by omega), if_pos (by omega)]
        exact found (by unfold d_sk; rw [if_pos (by omega), if_pos (by omega)]) _ rfl
      · rw [if_neg hs1, fn28_ok h (r := q + 1) (by omega) (c := st.toNat) (hs2 hs1).1 (by omega) (hs2 hs1).2, am_op_some]
        dsimp only
        rw [fn28_ok h (r := r + 1) hr (c := st.toNat) (hs2 hs1).1 (by omega) (hs2 hs1).2, am_op_some]
        dsimp only
        rw [Int.toNat_natCast, Int.toNat_natCast, fn62_cells h (by omega) hr (hs2 hs1).1, am_op_some]
        dsimp only
        have ek : (d_sk fs cols st q = d_sk fs cols st r) ↔ (sp_c fs cols st.toNat q = sp_c fs cols st.toNat r) := by
          unfold d_sk
          rw [if_neg (by omega), if_neg (by omega)]
        by_cases hs : sp_c fs cols st.toNat q = sp_c fs cols st.toNat r
        · rw [decide_eq_true hs, if_neg (by decide), if_pos (by omega), if_pos (by omega)]
          exact found (ek.mpr hs) _ rfl
        · rw [decide_eq_false hs, if_pos (show bI false = 0 from rfl), skip (fun _ z => hs (ek.mp z))]
          exact ih
theorem fn87_ok {μ : am_M} (h : CT μ fs cols recs) (hst : st = -1 ∨ (0 ≤ st ∧ st < (cols : Int))) {r : Nat} (hr : r + 1 < recs) (hcr : cnt r = true) (h198 : ∀ q, q < r → μ 198 q = if cnt q = true then ((fI (d_sk fs cols st) cnt q : Nat) : Int) else -1) (h10 : μ 196 10 = (((fF (d_sk fs cols st) cnt r).length : Nat) : Int)) {rr : Int} (hrr : rr = r) : ∃ μ', fn87 196 5 st rr μ = some (0, μ') ∧ μ' 196 10 = (((fF (d_sk fs cols st) cnt (r + 1)).length : Nat) : Int) ∧ μ' 198 r = ((fI (d_sk fs cols st) cnt r : Nat) : Int) ∧ ∀ c t, ¬ (c = 196 ∧ t = 10) → ¬ (c = 198 ∧ t = r) → μ' c t = μ c t := by
  have hr12 := h.2.2.2.2.2.1
  have hlen := fF_len (key := d_sk fs cols st) (cnt := cnt) r
  have z := L87_ok h hst hr h198 hrr r am_fuel 0 0 (by unfold am_fuel; omega) rfl (by omega)
  have a1 : ∀ v c t, ¬ (c = 198 ∧ t = r) → am_up μ 198 r v c t = μ c t := fun v c t hct => by
    by_cases h9 : c = 198
    · exact am_up_s _ _ (by omega)
    · exact am_up_c _ _ h9
  unfold fn87
  rw [rf_10.2.2.1, rf_10.2.2.2.1]
  by_cases hf : ∃ q', 0 ≤ q' ∧ q' < r ∧ cnt q' = true ∧ d_sk fs cols st q' = d_sk fs cols st r
  · have hI : fI (d_sk fs cols st) cnt r < (fF (d_sk fs cols st) cnt r).length := by
      obtain ⟨q', y1, y2, y3, y4⟩ := hf
      rw [fI_eq y2 y3 y4]
      exact (fI_st r q' y2 y3).2
    rw [z.1 hf, am_op_some, am_lp_l]
    exact ⟨_, rfl, by rw [fF_next hcr, if_pos hI, a1 _ _ _ (by omega)]; exact h10, am_up_at _ _ _ _, fun c t c1 c2 => a1 _ c t c2⟩
  · obtain ⟨x', q⟩ := z.2 hf
    have hI : fI (d_sk fs cols st) cnt r = (fF (d_sk fs cols st) cnt r).length := fI_new (fun q hq hc e => hf ⟨q, by omega, hq, hc, e⟩)
    rw [q, am_op_some, am_lp_r]
    dsimp only
    rw [if_pos (by omega), show rr.toNat = r by omega]
    have e10 : am_up μ 198 r (μ 196 10) 196 10 = (((fF (d_sk fs cols st) cnt r).length : Nat) : Int) := by rw [a1 _ _ _ (by omega)]; exact h10
    have e198 : am_up μ 198 r (μ 196 10) 198 r = ((fI (d_sk fs cols st) cnt r : Nat) : Int) := by rw [am_up_at, h10, hI]
    have a2 := a1 (μ 196 10)
    generalize am_up μ 198 r (μ 196 10) = μ1 at *
    rw [e10, w32_id (by omega) (by omega)]
    have g4 : ∀ v c t, ¬ (c = 196 ∧ t = 10) → am_up μ1 196 10 v c t = μ1 c t := fun v c t hct => by
      by_cases h9 : c = 196
      · exact am_up_s _ _ (by omega)
      · exact am_up_c _ _ h9
    exact ⟨_, rfl, by rw [am_up_at, fF_next hcr, if_neg (by omega)]; simp, by rw [g4 _ _ _ (by omega)]; exact e198, fun c t c1 c2 => by rw [g4 _ _ _ c1, a2 c t c2]⟩
/-- all that the class's rows and text give to the rest -/
def CX (fs : List (List Int)) (cols recs : Nat) (μ : am_M) (h : Int × Int × Int × Int) (s : QC) : Prop := CT μ fs cols recs ∧ CW μ fs cols recs cols ∧ Qfin fs cols recs (sp_ty fs cols recs) μ h s
theorem CX.fr {μ μ' : am_M} {h : Int × Int × Int × Int} {s : QC} (q : CX fs cols recs μ h s) (g : ∀ c t, c < 196 → μ' c t = μ c t) : CX fs cols recs μ' h s := by
  obtain ⟨q1, q2, a5, a6, a7, a8, a9, al, ad, a10, a11, a12⟩ := q
  refine ⟨q1.fw (fun c t hc => g c t (by omega)), q2.fw (fun c t hc => g c t (by omega)), by rw [g _ _ (by omega)]; exact a5, by rw [g _ _ (by omega)]; exact a6, by rw [g _ _ (by omega)]; exact a7, by rw [g _ _ (by omega)]; exact a8, by rw [g _ _ (by omega)]; exact a9, al, fun j hj => ?_, by rw [g _ _ (by omega)]; exact a10, by rw [g _ _ (by omega)]; exact a11, by rw [g _ _ (by omega)]; exact a12⟩
  obtain ⟨d1, d2, d3⟩ := ad j hj
  exact ⟨d1.fr (fun q t q1 q2 q3 => g q t (by omega)), d2, by rw [g _ _ (by omega)]; exact d3.1, by rw [g _ _ (by omega)]; exact d3.2⟩
def GI (gk sk : Nat → List Int) (cnt : Nat → Bool) (lab : Nat → List Int) (μ : am_M) (r : Nat) : Prop :=
  GF lab μ (fF gk cnt r) ∧ μ 196 10 = (((fF sk cnt r).length : Nat) : Int) ∧ ∀ q, q < r → μ 197 q = (if cnt q = true then ((fI gk cnt q : Nat) : Int) else -1) ∧ μ 198 q = if cnt q = true then ((fI sk cnt q : Nat) : Int) else -1
theorem L100_28_ok {h : Int × Int × Int × Int} {s : QC} {x : Nat} (hx : x < cols) (hhx : h.2.1 = (x : Int)) (hst : s.2.2.1 = -1 ∨ (0 ≤ s.2.2.1 ∧ s.2.2.1 < (cols : Int))) (hcnt : cnt = d_cnt fs cols recs x s.1) : ∀ (k N r : Nat) (μ : am_M) (y n : Int), k < N → y = r → r + k + 1 = recs → n = (recs : Int) - 1 → CX fs cols recs μ h s → GI (d_gk fs cols recs x) (d_sk fs cols s.2.2.1) cnt (sp_c fs cols x) μ r →
    ∃ x' μ', L100_28 196 5 141 n N y μ = some (.inr (x', μ')) ∧ GI (d_gk fs cols recs x) (d_sk fs cols s.2.2.1) cnt (sp_c fs cols x) μ' (recs - 1) ∧ ∀ c t, ¬ (c = 196 ∧ (t = 9 ∨ t = 10)) → ¬ (197 ≤ c ∧ c ≤ 224) → μ' c t = μ c t
  | k, 0, _, _, _, _, hN, _, _, _, _, _ => absurd hN (by omega)
  | 0, N + 1, r, μ, y, n, hN, hy, hk, hn, hC, hG => by
    rw [L100_28, if_neg (by omega)]
    exact ⟨_, _, rfl, by rw [show recs - 1 = r by omega]; exact hG, fun _ _ _ _ => rfl⟩
  | k + 1, N + 1, r, μ, y, n, hN, hy, hk, hn, hC, hG => by
    have hr12 := hC.1.2.2.2.2.2.1
    rw [L100_28, rf_10.1, rf_10.2.1, rf_10.2.2.1, rf_10.2.2.2.1, if_pos (by omega), if_pos (by omega), if_pos (by omega), show y.toNat = r by omega]
    have g0 : ∀ c t, ¬ (197 ≤ c ∧ c ≤ 198 ∧ t = r) → am_up (am_up μ 197 r (-1)) 198 r (-1) c t = μ c t := fun c t hct => by
      by_cases h1 : c = 198
      · rw [am_up_s _ _ (by omega), am_up_c _ _ (by omega)]
      · rw [am_up_c _ _ h1]
        by_cases h2 : c = 197
        · rw [am_up_s _ _ (by omega)]
        · rw [am_up_c _ _ h2]
    have e7 : am_up (am_up μ 197 r (-1)) 198 r (-1) 197 r = -1 := by rw [am_up_c _ _ (by decide), am_up_at]
    have e8 : am_up (am_up μ 197 r (-1)) 198 r (-1) 198 r = -1 := am_up_at _ _ _ _
    generalize am_up (am_up μ 197 r (-1)) 198 r (-1) = μ0 at *
    have hC0 : CX fs cols recs μ0 h s := hC.fr (fun c t hc => g0 c t (by omega))
    obtain ⟨⟨h9, hgf⟩, h10, hq⟩ := hG
    have hlen := fF_len (key := d_gk fs cols recs x) (cnt := cnt) r
    have hGF0 : GF (sp_c fs cols x) μ0 (fF (d_gk fs cols recs x) cnt r) := ⟨by rw [g0 _ _ (by omega)]; exact h9, fun g hg => ⟨by rw [g0 _ _ (by omega)]; exact (hgf g hg).1, (hgf g hg).2.fr (g0 _ _ (by omega)) (fun i => g0 _ _ (by omega))⟩⟩
    have hC0' := hC0
    obtain ⟨q1, q2, a5, a6, a7, a8, a9, al, ad, a10, a11, a12⟩ := hC0'
    rw [fn82_ok q1 q2 a9 al ad hx (by rw [a6]; exact hhx) (r := r) (by omega) hy, am_op_some, ← hcnt]
    dsimp only
    rw [w32_id (by omega) (by omega)]
    cases hc : cnt r with
    | false =>
      rw [if_pos (show bI false = 0 from rfl)]
      obtain ⟨x', μ', r1, r2, r3⟩ := L100_28_ok hx hhx hst hcnt k N (r + 1) μ0 (y + 1) n (by omega) (by omega) (by omega) hn hC0 ⟨by rw [fF_skip hc]; exact hGF0, by rw [fF_skip hc, g0 _ _ (by omega)]; exact h10, fun q hq2 => by
        by_cases hqr : q = r
        · rw [hqr, hc, if_neg (by decide), if_neg (by decide)]; exact ⟨e7, e8⟩
        · rw [g0 _ _ (by omega), g0 _ _ (by omega)]; exact hq q (by omega)⟩
      exact ⟨x', μ', r1, r2, fun c t c1 c2 => by rw [r3 c t c1 c2, g0 c t (by omega)]⟩
    | true =>
      rw [if_neg (by decide)]
      unfold fn83 fn86
      rw [am_op_some]
      dsimp only
      rw [a6, hhx]
      obtain ⟨μ1, b1, b2, b3, b4⟩ := fn85_ok q1 q2 hx (r := r) (by omega) hc hGF0 (xx := (x : Int)) (rr := y) rfl hy
      rw [b1, am_op_some]
      dsimp only
      rw [am_op_some]
      dsimp only
      have e11 : μ1 141 11 = s.2.2.1 := by rw [b4 _ _ (by omega) (by omega) (by omega)]; exact a11
      rw [e11]
      have hC1 : CX fs cols recs μ1 h s := hC0.fr (fun c t hc => b4 c t (by omega) (by omega) (by omega))
      obtain ⟨μ2, d1, d2, d3, d4⟩ := fn87_ok (cnt := cnt) hC1.1 hst (r := r) (by omega) hc (fun q hq2 => by rw [b4 _ _ (by omega) (by omega) (by omega), g0 _ _ (by omega)]; exact (hq q hq2).2) (by rw [b4 _ _ (by omega) (by omega) (by omega), g0 _ _ (by omega)]; exact h10) hy
      rw [d1, am_op_some]
      dsimp only
      obtain ⟨x', μ', r1, r2, r3⟩ := L100_28_ok hx hhx hst hcnt k N (r + 1) μ2 (y + 1) n (by omega) (by omega) (by omega) hn (hC1.fr (fun c t hc => d4 c t (by omega) (by omega))) ⟨⟨by rw [d4 _ _ (by omega) (by omega)]; exact b2.1, fun g hg => ⟨by rw [d4 _ _ (by omega) (by omega)]; exact (b2.2 g hg).1, (b2.2 g hg).2.fr (d4 _ _ (by omega) (by omega)) (fun i => d4 _ _ (by omega) (by omega))⟩⟩, d2, fun q hq2 => by
        by_cases hqr : q = r
        · rw [hqr, hc, if_pos rfl, if_pos rfl]; exact ⟨by rw [d4 _ _ (by omega) (by omega)]; exact b3, d3⟩
        · rw [d4 _ _ (by omega) (by omega), d4 _ _ (by omega) (by omega), b4 _ _ (by omega) (by omega) (by omega), b4 _ _ (by omega) (by omega) (by omega), g0 _ _ (by omega), g0 _ _ (by omega)]; exact hq q (by omega)⟩
      exact ⟨x', μ', r1, r2, fun c t c1 c2 => by rw [r3 c t c1 c2, d4 c t (by omega) (by omega), b4 c t (by omega) (by omega) (by omega), g0 c t (by omega)]⟩
end GS
