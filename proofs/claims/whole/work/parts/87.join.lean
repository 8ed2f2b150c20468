/-! The class's groups and series of rows. -/
theorem rf_10 : am_ref 196 0 = 197 ∧ am_len 197 = 12 ∧ am_ref 196 1 = 198 ∧ am_len 198 = 12 ∧ am_ref 196 2 = 199 ∧ am_len 199 = 12 ∧ am_ref 196 3 = 200 ∧ am_len 200 = 12 ∧ am_ref 196 4 = 225 ∧ am_len 225 = 144 ∧ am_ref 196 5 = 226 ∧ am_len 226 = 12 ∧ am_ref 196 6 = 227 ∧ am_len 227 = 12 ∧ am_ref 196 7 = 228 ∧ am_len 228 = 12 ∧ am_ref 196 8 = 229 := by decide +kernel
theorem rf_11 : ∀ g, g < 12 → am_ref 200 g = 201 + 2 * g ∧ am_ref (201 + 2 * g) 0 = 202 + 2 * g ∧ am_len (202 + 2 * g) = 12 := by decide +kernel
section GJ
variable (fs : List (List Int)) (cols recs : Nat)
def d_gk (x : Nat) (r : Nat) : List Int := if sp_ty fs cols recs x = 3 then sp_c fs cols x r else [d_wor fs cols recs r x]
def d_sk (st : Int) (r : Nat) : List Int := if st < 0 then [] else sp_c fs cols st.toNat r
end GJ
theorem CW.fw {fs : List (List Int)} {cols recs m : Nat} {μ μ' : am_M} (h : CW μ fs cols recs m) (g : ∀ c t, c < 141 → μ' c t = μ c t) : CW μ' fs cols recs m := fun c hc => ⟨by rw [g _ _ (by omega)]; exact (h c hc).1, fun j hj => by rw [g _ _ (by omega)]; exact (h c hc).2 j hj⟩
theorem fn67_g {o ao cap a b : Nat} {w : List Int} {μ : am_M} (hr : am_ref o 0 = ao) (hc : am_len ao = cap) (hoa : o ≠ ao) (hcap : cap ≤ 12) (h3 : am_ref a 0 = b) (h4 : am_len b = 12) (h5 : Lt μ a b 12 w) (hR : Cr w) (hl : w.length ≤ 160) (n1 : o ≠ a) (n2 : o ≠ b) (n3 : ao ≠ a) (n4 : ao ≠ b) : ∃ μ', fn67 o a μ = some (0, μ') ∧ Lt μ' o ao cap w ∧ ∀ c t, ¬ (c = o ∧ t = 1) → c ≠ ao → μ' c t = μ c t := by
  unfold fn67 fn14
  rw [am_op_some]
  dsimp only
  have hf : ∀ c t, ¬ (c = o ∧ t = 1) → am_up μ o 1 0 c t = μ c t := fun c t hc => by
    by_cases h9 : c = o
    · exact am_up_s _ _ (by omega)
    · exact am_up_c _ _ h9
  obtain ⟨x', μ', r1, r2, r3⟩ := L67_ok (w := w) hr hc hoa hcap h3 h4 (Or.inl rfl) hR hl n1 n2 n3 n4 w.length am_fuel 0 (am_up μ o 1 0) 0 (by unfold am_fuel; omega) rfl (by omega) (h5.fr (hf _ _ (by omega)) (fun i => hf _ _ (by omega))) ⟨by rw [am_up_at]; simp, fun i hi => absurd hi (by simp)⟩
  rw [r1, am_op_some, am_lp_r]
  exact ⟨μ', rfl, r2, fun c t c1 c2 => by rw [r3 c t c1 c2, hf c t c1]⟩
section GL
variable {fs : List (List Int)} {cols recs : Nat}
theorem fn62_cells {μ : am_M} (h : CT μ fs cols recs) {a b c : Nat} (ha : a + 1 < recs) (hb : b + 1 < recs) (hc : c < cols) : fn62 (7 + 2 * ((a + 1) * cols + c)) (7 + 2 * ((b + 1) * cols + c)) μ = some (bI (decide (sp_c fs cols c a = sp_c fs cols c b)), μ) := by
  obtain ⟨i1, i2, i3⟩ := h.idx (r := a + 1) ha hc
  obtain ⟨y1, y2, y3, y4, y5⟩ := h.lt i1
  obtain ⟨j1, j2, j3⟩ := h.idx (r := b + 1) hb hc
  obtain ⟨z1, z2, z3, z4, z5⟩ := h.lt j1
  rw [fn62_ok y1 y2 y3 y4 z1 z2 z3 z4 y5 (Or.inl y5) (by omega)]
  rfl
theorem fn84_ok {μ : am_M} (h : CT μ fs cols recs) (hW : CW μ fs cols recs cols) {a b c : Nat} (ha : a + 1 < recs) (hb : b + 1 < recs) (hc : c < cols) {x y z : Int} (hx : x = a) (hy : y = b) (hz : z = c) : fn84 5 x y z μ = some (bI (decide (d_gk fs cols recs c a = d_gk fs cols recs c b)), μ) := by
  have hY : ∀ c, c < cols → μ 140 c = sp_ty fs cols recs c := fun c hc => (hW c hc).1
  unfold fn84 d_gk
  rw [fn45_ty hY h.2.2.2.1 (by omega) (by omega), am_op_some, show z.toNat = c by omega]
  dsimp only
  by_cases t3 : sp_ty fs cols recs c = 3
  · rw [if_pos t3, if_pos t3, if_pos t3, fn28_ok h (r := a + 1) ha hc (by omega) hz, am_op_some]
    dsimp only
    rw [fn28_ok h (r := b + 1) hb hc (by omega) hz, am_op_some]
    dsimp only
    rw [Int.toNat_natCast, Int.toNat_natCast, fn62_cells h ha hb hc, am_op_some]
    dsimp only
    rw [if_pos (bI_or _)]
  · rw [if_neg t3, if_neg t3, if_neg t3, fn80_ok h hW ha hc hx hz, am_op_some]
    dsimp only
    rw [fn80_ok h hW hb hc hy hz, am_op_some]
    dsimp only
    by_cases e : d_wor fs cols recs a c = d_wor fs cols recs b c
    · rw [if_pos (o_cmp_eq.mpr e), decide_eq_true (by rw [e])]; rfl
    · rw [if_neg (fun q => e (o_cmp_eq.mp q)), decide_eq_false (fun q => e (by injection q))]; rfl
variable {cnt : Nat → Bool} {sk : Nat → List Int} {x : Nat}
theorem L85_ok {μ : am_M} (h : CT μ fs cols recs) (hW : CW μ fs cols recs cols) (hx : x < cols) {r : Nat} (hr : r + 1 < recs) {F : List Nat} (hF : ∀ f ∈ F, f < r) (hl : F.length ≤ 12) (h9 : μ 196 9 = ((F.length : Nat) : Int)) (h199 : ∀ g, g < F.length → μ 199 g = ((F.getD g 0 : Nat) : Int)) {i : Nat} (hi : i = F.findIdx (fun f => decide (d_gk fs cols recs x f = d_gk fs cols recs x r))) {xx rr : Int} (hxx : xx = x) (hrr : rr = r) : ∀ (k N g : Nat) (y : Int), k < N → y = g → g + k = F.length → g ≤ i → ∃ x', L85_3 196 5 xx rr N y μ = some (if i < F.length then .inl (0, am_up μ 197 r ((i : Nat) : Int)) else .inr (x', μ))
  | k, 0, _, _, hN, _, _, _ => absurd hN (by omega)
  | 0, N + 1, g, y, hN, hy, hk, hg => by
    rw [L85_3, if_neg (by rw [h9]; omega)]
    refine ⟨y, ?_⟩
    rw [if_neg (by omega)]
  | k + 1, N + 1, g, y, hN, hy, hk, hg => by
    have hr12 := h.2.2.2.2.2.1
    have hgl : g < F.length := by omega
    have hm : F.getD g 0 ∈ F := by
      rw [List.getD_eq_getElem?_getD, List.getElem?_eq_getElem hgl]; exact List.getElem_mem hgl
    have hfr := hF _ hm
    rw [L85_3, rf_10.2.2.2.2.1, rf_10.2.2.2.2.2.1, rf_10.1, rf_10.2.1, if_pos (by rw [h9]; omega), if_pos (by omega), if_pos (by omega), show y.toNat = g by omega, fn84_ok h hW (a := F.getD g 0) (b := r) (by omega) hr hx (h199 g hgl) hrr hxx, am_op_some]
    dsimp only
    by_cases e : d_gk fs cols recs x (F.getD g 0) = d_gk fs cols recs x r
    · have hgi : i = g := by
        by_cases hlt : g < i
        · exfalso
          rw [hi] at hlt
          have := List.not_of_lt_findIdx hlt
          rw [List.getD_eq_getElem?_getD, List.getElem?_eq_getElem hgl] at e
          exact absurd (decide_eq_true e) (by simpa using this)
        · omega
      rw [decide_eq_true e, if_neg (by decide), if_pos (by omega)]
      refine ⟨0, ?_⟩
      rw [if_pos (show i < F.length by omega), show rr.toNat = r by omega, hy, hgi]
    · have hgi : g + 1 ≤ i := by
        by_cases hlt : g = i
        · exfalso
          subst hlt
          have z := List.findIdx_getElem (p := fun f => decide (d_gk fs cols recs x f = d_gk fs cols recs x r)) (xs := F) (w := by rw [← hi]; exact hgl)
          have z2 := of_decide_eq_true z
          simp only [← hi] at z2
          rw [List.getD_eq_getElem?_getD, List.getElem?_eq_getElem hgl] at e
          exact e z2
        · omega
      rw [decide_eq_false e, if_pos (show bI false = 0 from rfl), w32_id (by omega) (by omega)]
      exact L85_ok h hW hx hr hF hl h9 h199 hi hxx hrr k N (g + 1) (y + 1) (by omega) (by omega) (by omega) hgi
/-- firsts and labels -/
def GF (lab : Nat → List Int) (μ : am_M) (F : List Nat) : Prop := μ 196 9 = ((F.length : Nat) : Int) ∧ ∀ g, g < F.length → μ 199 g = ((F.getD g 0 : Nat) : Int) ∧ Lt μ (201 + 2 * g) (202 + 2 * g) 12 (lab (F.getD g 0))
theorem fn85_ok {μ : am_M} (h : CT μ fs cols recs) (hW : CW μ fs cols recs cols) (hx : x < cols) {r : Nat} (hr : r + 1 < recs) (hcr : cnt r = true) (hG : GF (sp_c fs cols x) μ (fF (d_gk fs cols recs x) cnt r)) {xx rr : Int} (hxx : xx = x) (hrr : rr = r) : ∃ μ', fn85 196 5 xx rr μ = some (0, μ') ∧ GF (sp_c fs cols x) μ' (fF (d_gk fs cols recs x) cnt (r + 1)) ∧ μ' 197 r = ((fI (d_gk fs cols recs x) cnt r : Nat) : Int) ∧ ∀ c t, ¬ (c = 196 ∧ t = 9) → ¬ (c = 197 ∧ t = r) → ¬ (199 ≤ c ∧ c ≤ 224) → μ' c t = μ c t := by
  have hr12 := h.2.2.2.2.2.1
  have hlen := fF_len (key := d_gk fs cols recs x) (cnt := cnt) r
  have hmem := fF_mem (key := d_gk fs cols recs x) (cnt := cnt) r
  rw [fF_next hcr]
  have hI : fI (d_gk fs cols recs x) cnt r = (fF (d_gk fs cols recs x) cnt r).findIdx (fun f => decide (d_gk fs cols recs x f = d_gk fs cols recs x r)) := rfl
  have hIle : fI (d_gk fs cols recs x) cnt r ≤ (fF (d_gk fs cols recs x) cnt r).length := by rw [hI]; exact List.findIdx_le_length
  generalize fF (d_gk fs cols recs x) cnt r = F at *
  generalize fI (d_gk fs cols recs x) cnt r = i at *
  obtain ⟨h9, hg⟩ := hG
  obtain ⟨x', q⟩ := L85_ok h hW hx hr (fun f hf => (hmem f hf).1) (by omega) h9 (fun g hgl => (hg g hgl).1) hI hxx hrr F.length am_fuel 0 0 (by unfold am_fuel; omega) rfl (by omega) (by omega)
  unfold fn85
  rw [q, am_op_some]
  by_cases hi : i < F.length
  · rw [if_pos hi, if_pos hi, am_lp_l]
    have g0 : ∀ c t, ¬ (c = 197 ∧ t = r) → am_up μ 197 r (i : Int) c t = μ c t := fun c t hct => by
      by_cases h9 : c = 197
      · exact am_up_s _ _ (by omega)
      · exact am_up_c _ _ h9
    exact ⟨_, rfl, ⟨by rw [g0 _ _ (by omega)]; exact h9, fun g hgl => ⟨by rw [g0 _ _ (by omega)]; exact (hg g hgl).1, (hg g hgl).2.fr (g0 _ _ (by omega)) (fun j => g0 _ _ (by omega))⟩⟩, am_up_at _ _ _ _, fun c t c1 c2 c3 => g0 c t c2⟩
  · have hil : i = F.length := by omega
    obtain ⟨w1, w2, w3⟩ := rf_11 F.length (by omega)
    obtain ⟨i1, i2, i3⟩ := h.idx (r := r + 1) hr hx
    have a1 : ∀ c t, ¬ (c = 197 ∧ t = r) → am_up μ 197 rr.toNat (μ 196 9) c t = μ c t := fun c t hct => by
      by_cases h9 : c = 197
      · exact am_up_s _ _ (by omega)
      · exact am_up_c _ _ h9
    have a1r : am_up μ 197 rr.toNat (μ 196 9) 197 r = (i : Int) := by rw [show rr.toNat = r by omega, am_up_at, h9, hil]
    rw [if_neg hi, if_neg hi, am_lp_r, rf_10.2.2.2.2.1, rf_10.2.2.2.2.2.1, rf_10.1, rf_10.2.1, rf_10.2.2.2.2.2.2.1, rf_10.2.2.2.2.2.2.2.1]
    dsimp only
    rw [if_pos (by omega), if_pos (by omega)]
    generalize am_up μ 197 rr.toNat (μ 196 9) = μ1 at *
    have e9 : μ1 196 9 = ((F.length : Nat) : Int) := by rw [a1 _ _ (by omega)]; exact h9
    rw [if_pos (by rw [e9]; omega)]
    have a2 : ∀ c t, ¬ (c = 199 ∧ t = F.length) → am_up μ1 199 (μ1 196 9).toNat rr c t = μ1 c t := fun c t hct => by
      rw [e9, Int.toNat_natCast]
      by_cases h9 : c = 199
      · exact am_up_s _ _ (by omega)
      · exact am_up_c _ _ h9
    have a2r : am_up μ1 199 (μ1 196 9).toNat rr 199 F.length = (r : Int) := by rw [e9, Int.toNat_natCast, am_up_at, hrr]
    generalize am_up μ1 199 (μ1 196 9).toNat rr = μ2 at *
    have e9' : μ2 196 9 = ((F.length : Nat) : Int) := by rw [a2 _ _ (by omega)]; exact e9
    have g2 : ∀ c t, ¬ (c = 197 ∧ t = r) → ¬ (c = 199 ∧ t = F.length) → μ2 c t = μ c t := fun c t c1 c2 => by rw [a2 c t c2, a1 c t c1]
    have hT2 : CT μ2 fs cols recs := h.fw (fun c t hc => g2 c t (by omega) (by omega))
    obtain ⟨y1, y2, y3, y4, y5⟩ := hT2.lt i1
    rw [if_pos (by rw [e9']; omega), fn28_ok hT2 (r := r + 1) hr hx (by omega) hxx, am_op_some]
    dsimp only
    rw [Int.toNat_natCast, e9', Int.toNat_natCast, w1]
    obtain ⟨μ3, b1, b2, b3⟩ := fn67_g (cap := 12) w2 w3 (by omega) (by omega) y1 y2 y3 y4 (by omega) (by omega) (by omega) (by omega) (by omega)
    rw [b1, am_op_some]
    dsimp only
    have e9'' : μ3 196 9 = ((F.length : Nat) : Int) := by rw [b3 _ _ (by omega) (by omega)]; exact e9'
    rw [e9'', w32_id (by omega) (by omega)]
    have g4 : ∀ c t, ¬ (c = 196 ∧ t = 9) → am_up μ3 196 9 (((F.length : Nat) : Int) + 1) c t = μ3 c t := fun c t hct => by
      by_cases h9 : c = 196
      · exact am_up_s _ _ (by omega)
      · exact am_up_c _ _ h9
    refine ⟨_, rfl, ⟨by rw [am_up_at]; simp, fun g hgl => ?_⟩, ?_, fun c t c1 c2 c3 => ?_⟩
    · rw [getD_app]
      simp at hgl
      by_cases hg2 : g < F.length
      · rw [if_pos hg2]
        refine ⟨by rw [g4 _ _ (by omega), b3 _ _ (by omega) (by omega), g2 _ _ (by omega) (by omega)]; exact (hg g hg2).1, (hg g hg2).2.fr ?_ (fun j => ?_)⟩
        · rw [g4 _ _ (by omega), b3 _ _ (by omega) (by omega), g2 _ _ (by omega) (by omega)]
        · rw [g4 _ _ (by omega), b3 _ _ (by omega) (by omega), g2 _ _ (by omega) (by omega)]
      · rw [if_neg hg2, if_pos (by omega), show g = F.length by omega]
        refine ⟨by rw [g4 _ _ (by omega), b3 _ _ (by omega) (by omega)]; exact a2r, b2.fr (g4 _ _ (by omega)) (fun j => g4 _ _ (by omega))⟩
    · rw [g4 _ _ (by omega), b3 _ _ (by omega) (by omega), a2 _ _ (by omega)]; exact a1r
    · rw [g4 _ _ (by omega), b3 _ _ (by omega) (by omega), g2 _ _ (by omega) (by omega)]
end GL
