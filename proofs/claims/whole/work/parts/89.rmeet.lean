/-! The reference meets its rows. -/
def sT (l1 : Int) (n : Nat) (l2 l3 : Int) (z : am_M) : Option ((Int × am_M) ⊕ (Int × Int × am_M)) := (if z 240 29 < 0 then (L197_4 240 l1 n l2 (w32 (l3 + 1)) z) else (if (0 : Int) ≤ l3 ∧ l3 < ((12 : Nat) : Int) then (if z 257 (l3 : Int).toNat = 0 then (L197_4 240 l1 n l2 (w32 (l3 + 1)) z) else (if l2 < 0 then (am_op (fn195 240 l3 l1 (z 240 29) z) (fun w1 => (if w1.1 = 0 then (L197_4 240 l1 n l2 (w32 (l3 + 1)) w1.2) else (if (0 : Int) ≤ l3 ∧ l3 < ((12 : Nat) : Int) then (L197_4 240 l1 n (w1.2 253 (l3 : Int).toNat) (w32 (l3 + 1)) w1.2) else none)))) else (L197_4 240 l1 n l2 (w32 (l3 + 1)) z))) else none))
def fT (a s : Int) (z : am_M) : Option (Int × am_M) := (if z 240 29 < 0 then (if z 240 29 < 0 then (if (0 : Int) ≤ a ∧ a < ((12 : Nat) : Int) then some (0, am_up z 253 (a : Int).toNat 0) else none) else (if (0 : Int) ≤ a ∧ a < ((12 : Nat) : Int) then some (0, am_up z 253 (a : Int).toNat s) else none)) else (if s < 0 then (if (am_up z 240 38 (w32 ((z 240 38) + 1))) 240 29 < 0 then (if (0 : Int) ≤ a ∧ a < ((12 : Nat) : Int) then some (0, am_up (am_up z 240 38 (w32 ((z 240 38) + 1))) 253 (a : Int).toNat 0) else none) else (if (0 : Int) ≤ a ∧ a < ((12 : Nat) : Int) then some (0, am_up (am_up z 240 38 (w32 ((z 240 38) + 1))) 253 (a : Int).toNat (z 240 38)) else none)) else (if z 240 29 < 0 then (if (0 : Int) ≤ a ∧ a < ((12 : Nat) : Int) then some (0, am_up z 253 (a : Int).toNat 0) else none) else (if (0 : Int) ≤ a ∧ a < ((12 : Nat) : Int) then some (0, am_up z 253 (a : Int).toNat s) else none))))
theorem rf_12 : am_ref 240 31 = 252 ∧ am_len 252 = 12 ∧ am_ref 240 32 = 253 ∧ am_len 253 = 12 ∧ am_ref 240 34 = 254 ∧ am_len 254 = 12 ∧ am_ref 240 35 = 255 ∧ am_len 255 = 12 ∧ am_ref 240 36 = 256 ∧ am_len 256 = 12 ∧ am_ref 240 37 = 257 ∧ am_len 257 = 12 := by decide +kernel
theorem am_up_id (μ : am_M) (o k : Nat) : am_up μ o k (μ o k) = μ := by
  funext a b
  by_cases h1 : a = o
  · by_cases h2 : b = k
    · rw [h1, h2, am_up_at]
    · exact am_up_s _ _ h2
  · exact am_up_c _ _ h1
theorem up_ne {μ : am_M} {o k : Nat} {v : Int} {c t : Nat} (h : ¬ (c = o ∧ t = k)) : am_up μ o k v c t = μ c t := by
  by_cases h1 : c = o
  · exact am_up_s _ _ (by omega)
  · exact am_up_c _ _ h1
section RP
variable {fs : List (List Int)} {cols recs : Nat}
theorem fn195_ok {μ : am_M} (h : RT μ fs cols recs) {r q c : Nat} (hr : r + 1 < recs) (hq : q + 1 < recs) (hc : c < cols) {a b z : Int} (ha : a = r) (hb : b = q) (hz : z = c) : fn195 240 a b z μ = some (bI (decide (sp_c fs cols c r = sp_c fs cols c q)), μ) := by
  obtain ⟨i1, i2, i3⟩ := h.idx (r := r + 1) hr hc
  obtain ⟨j1, j2, j3⟩ := h.idx (r := q + 1) hq hc
  have y := h.2.2.2.2.2.2.2.2.2 _ i1
  have w := h.2.2.2.2.2.2.2.2.2 _ j1
  obtain ⟨r4, l4, r17, l17, r18, l18, r10, l10, r11, l11, -⟩ := rf_8
  have f1 := fn173_ok h (r := r + 1) hr hc (a := a) (b := z) (by omega) hz
  have f2 := fn173_ok h (r := q + 1) hq hc (a := b) (b := z) (by omega) hz
  unfold fn195
  rw [r10, l10, r11, l11, f1, am_op_some]
  dsimp only
  rw [if_pos (by omega), f1, am_op_some]
  dsimp only
  rw [if_pos (by omega), f2, am_op_some]
  dsimp only
  rw [if_pos (by omega), f2, am_op_some]
  dsimp only
  rw [if_pos (by omega), Int.toNat_natCast, Int.toNat_natCast, fn185_ok (h.sp i1) (h.sp j1) y.1 y.2.1 w.1 w.2.1, am_op_some]
  dsimp only
  rw [if_pos (bI_or _)]
  rfl
theorem fn196_ok {μ : am_M} (h : RT μ fs cols recs) (hY : ∀ c, c < cols → μ 246 c = sp_ty fs cols recs c) {r q c : Nat} (hr : r + 1 < recs) (hq : q + 1 < recs) (hc : c < cols) (nr : sp_c fs cols c r ≠ []) (nq : sp_c fs cols c q ≠ []) {a b z : Int} (ha : a = r) (hb : b = q) (hz : z = c) : fn196 240 a b z μ = some (bI (decide (d_gk fs cols recs c r = d_gk fs cols recs c q)), μ) := by
  have h5 := h.2.2.2.1
  obtain ⟨r4, l4, r17, l17, r18, l18, r10, l10, r11, l11, r15, l15, -⟩ := rf_8
  have ety : μ 246 z.toNat = sp_ty fs cols recs c := by rw [show z.toNat = c by omega]; exact hY c hc
  unfold fn196 d_gk
  rw [r15, l15, if_pos (by omega)]
  by_cases t3 : sp_ty fs cols recs c = 3
  · rw [if_pos (ety.trans t3), if_pos t3, if_pos t3, fn195_ok h hr hq hc ha hb hz, am_op_some]
    dsimp only
    rw [if_pos (bI_or _)]
  · rw [if_neg (fun e => t3 (ety.symm.trans e)), if_neg t3, if_neg t3, fn193_ok h hY hr hc nr t3 ha hz, am_op_some]
    dsimp only
    rw [fn193_ok h hY hq hc nq t3 hb hz, am_op_some]
    dsimp only
    by_cases e : d_wor fs cols recs r c = d_wor fs cols recs q c
    · rw [if_pos (o_cmp_eq.mpr e), decide_eq_true (by rw [e])]; rfl
    · rw [if_neg (fun q => e (o_cmp_eq.mp q)), decide_eq_false (fun q => e (by injection q))]; rfl
def RX (fs : List (List Int)) (cols recs : Nat) (μ : am_M) (ws : List (List Int)) (h : Int × Int × Int × Int) (s : QC) : Prop := RT μ fs cols recs ∧ (∀ c, c < cols → μ 246 c = sp_ty fs cols recs c) ∧ Rfin cols μ ws h s
theorem RX.fr {μ μ' : am_M} {ws : List (List Int)} {h : Int × Int × Int × Int} {s : QC} (q : RX fs cols recs μ ws h s) (g : ∀ c t, (c = 240 ∧ t ≤ 30) ∨ (241 ≤ c ∧ c ≤ 251) → μ' c t = μ c t) : RX fs cols recs μ' ws h s := by
  obtain ⟨q1, q2, a0, a1, a2, a3, a4, a5, a6, a7, a8, a9, a10⟩ := q
  refine ⟨q1.fw (g _ _ (by omega)) (g _ _ (by omega)) (fun c t hc => g c t (by omega)), fun c hc => by rw [g _ _ (by omega)]; exact q2 c hc, a0.fr (g _ _ (by omega)) (fun c t hc => g c t (by omega)), by rw [g _ _ (by omega)]; exact a1, by rw [g _ _ (by omega)]; exact a2, by rw [g _ _ (by omega)]; exact a3, by rw [g _ _ (by omega)]; exact a4, by rw [g _ _ (by omega)]; exact a5, a6, fun j hj => ?_, by rw [g _ _ (by omega)]; exact a8, by rw [g _ _ (by omega)]; exact a9, by rw [g _ _ (by omega)]; exact a10⟩
  obtain ⟨y1, y2, y3, k, y4, y5⟩ := a7 j hj
  exact ⟨by rw [g _ _ (by omega)]; exact y1, y2, by rw [g _ _ (by omega)]; exact y3, k, by rw [g _ _ (by omega)]; exact y4, y5⟩
theorem L198_47_ok {ws : List (List Int)} {h : Int × Int × Int × Int} {s : QC} (hne : ∀ w ∈ ws, w ≠ []) (hf : ∀ c ∈ s.1, q_fit (sp_ty fs cols recs) c) {r : Nat} (hr : r + 1 < recs) (h13 : recs ≤ 13) {rr : Int} (hrr : rr = r) : ∀ (k N i : Nat) (μ : am_M) (b : Bool) (x : Int), k < N → x = i → i + k = s.1.length → RX fs cols recs μ ws h s → μ 257 r = bI b → ∃ x' μ', L198_47 240 rr N x μ = some (.inr (x', μ')) ∧ μ' 257 r = bI (b && (s.1.drop i).all (fun q => d_hold fs cols recs q r)) ∧ ∀ c t, ¬ (c = 257 ∧ t = r) → μ' c t = μ c t
  | k, 0, _, _, _, _, hN, _, _, _, _ => absurd hN (by omega)
  | 0, N + 1, i, μ, b, x, hN, hx, hk, hX, hb => by
    have h24 := hX.2.2.2.2.2.2.2.1
    rw [L198_47, if_neg (by rw [h24]; omega), List.drop_eq_nil_of_le (by omega), List.all_nil, Bool.and_true]
    exact ⟨_, _, rfl, hb, fun _ _ _ => rfl⟩
  | k + 1, N + 1, i, μ, b, x, hN, hx, hk, hX, hb => by
    have h24 := hX.2.2.2.2.2.2.2.1
    have h2 := hX.2.2.2.2.2.2.2.2.1
    have hd := hX.2.2.2.2.2.2.2.2.2.1
    have hil : i < s.1.length := by omega
    have e3 : s.1.drop i = s.1.getD i (0, [], []) :: s.1.drop (i + 1) := by
      rw [List.getD_eq_getElem?_getD, List.getElem?_eq_getElem hil]
      exact List.drop_eq_getElem_cons hil
    have hm : s.1.getD i (0, [], []) ∈ s.1 := by
      rw [List.getD_eq_getElem?_getD, List.getElem?_eq_getElem hil]; exact List.getElem_mem hil
    rw [L198_47, rf_12.2.2.2.2.2.2.2.2.2.2.1, rf_12.2.2.2.2.2.2.2.2.2.2.2, if_pos (by rw [h24]; omega), if_pos (by omega), e3, List.all_cons]
    have eb : μ 257 rr.toNat = bI b := by rw [show rr.toNat = r by omega]; exact hb
    have go : ∀ b' : Bool, ∃ x' μ', L198_47 240 rr N (w32 (x + 1)) (am_up μ 257 rr.toNat (o_nar .boolean (bI b'))) = some (.inr (x', μ')) ∧ μ' 257 r = bI (b' && (s.1.drop (i + 1)).all (fun q => d_hold fs cols recs q r)) ∧ ∀ c t, ¬ (c = 257 ∧ t = r) → μ' c t = μ c t := fun b' => by
      have en : o_nar .boolean (bI b') = bI b' := by cases b'; exact o_nz_0; exact o_nz_1
      rw [en, w32_id (by omega) (by omega), show rr.toNat = r by omega]
      obtain ⟨x', μ', q1, q2, q3⟩ := L198_47_ok hne hf hr h13 hrr k N (i + 1) (am_up μ 257 r (bI b')) b' (x + 1) (by omega) (by omega) (by omega) (hX.fr (fun c t hc => am_up_c _ _ (by omega))) (am_up_at _ _ _ _)
      exact ⟨x', μ', q1, q2, fun c t hct => by rw [q3 c t hct, up_ne hct]⟩
    cases b with
    | false =>
      rw [if_pos (show μ 257 rr.toNat = 0 from eb), if_pos (by omega)]
      have := go false
      rw [Bool.false_and] at this ⊢
      exact this
    | true =>
      rw [if_neg (by rw [eb]; decide), fn194_ok hX.1 hX.2.1 hX.2.2.1 hne (by omega) (hd i hil) (hf _ hm) hr hrr hx, am_op_some, Bool.true_and]
      dsimp only
      cases hh : d_hold fs cols recs (s.1.getD i (0, [], [])) r with
      | false =>
        rw [if_pos (show bI false = 0 from rfl), if_pos (by omega)]
        exact go false
      | true =>
        rw [if_neg (by decide), if_pos (by omega)]
        exact go true
variable {cnt : Nat → Bool} {gk sk : Nat → List Int} {st : Int}
def PA (gk : Nat → List Int) (cnt : Nat → Bool) (r : Nat) (v : Int) (q : Nat) : Prop := ((∃ q', q' < q ∧ cnt q' = true ∧ gk q' = gk r) ∧ v = ((fI gk cnt r : Nat) : Int)) ∨ ((∀ q', q' < q → cnt q' = true → gk q' ≠ gk r) ∧ v = -1)
theorem PA.keep {r q : Nat} {v : Int} (h : PA gk cnt r v q) (hc : cnt q = true → gk q = gk r → v ≠ -1) : PA gk cnt r v (q + 1) := by
  rcases h with ⟨⟨q', a1, a2, a3⟩, a4⟩ | ⟨a1, a2⟩
  · exact Or.inl ⟨⟨q', by omega, a2, a3⟩, a4⟩
  · refine Or.inr ⟨fun q' z1 z2 z3 => ?_, a2⟩
    by_cases hq : q' = q
    · subst hq; exact hc z2 z3 a2
    · exact a1 q' (by omega) z2 z3
theorem PA.hit {r q : Nat} (hqr : q < r) (hc : cnt q = true) (hk : gk q = gk r) : PA gk cnt r ((fI gk cnt q : Nat) : Int) (q + 1) :=
  Or.inl ⟨⟨q, by omega, hc, hk⟩, by rw [fI_eq hqr hc hk]⟩
def PB (sk : Nat → List Int) (cnt : Nat → Bool) (st : Int) (r : Nat) (v : Int) (q : Nat) : Prop := (st < 0 ∧ v = -1) ∨ (0 ≤ st ∧ PA sk cnt r v q)
theorem PA.lt {r q : Nat} {v : Int} (h : PA gk cnt r v q) : v < 0 ↔ v = -1 := by
  rcases h with ⟨-, h⟩ | ⟨-, h⟩ <;> omega
def RGi (gk sk : Nat → List Int) (cnt : Nat → Bool) (st : Int) (μ : am_M) (r : Nat) : Prop :=
  μ 240 33 = (((fF gk cnt r).length : Nat) : Int) ∧ (0 ≤ st → μ 240 38 = (((fF sk cnt r).length : Nat) : Int)) ∧ (∀ g, g < (fF gk cnt r).length → μ 254 g = (((fF gk cnt r).getD g 0 : Nat) : Int)) ∧ ∀ q, q < r → μ 257 q = bI (cnt q) ∧ (cnt q = true → μ 252 q = ((fI gk cnt q : Nat) : Int) ∧ μ 253 q = ((fI sk cnt q : Nat) : Int))
theorem RGi.fr {μ μ' : am_M} {r : Nat} (h : RGi gk sk cnt st μ r) (hr : r ≤ 12) (g : ∀ c t, (c = 240 ∧ (t = 33 ∨ t = 38)) ∨ c = 254 ∨ ((c = 257 ∨ c = 252 ∨ c = 253) ∧ t < r) → μ' c t = μ c t) : RGi gk sk cnt st μ' r := by
  obtain ⟨h1, h2, h3, h4⟩ := h
  refine ⟨by rw [g _ _ (by omega)]; exact h1, fun z => by rw [g _ _ (by omega)]; exact h2 z, fun i hi => by rw [g _ _ (by omega)]; exact h3 i hi, fun q hq => ?_⟩
  rw [g _ _ (by omega), g _ _ (by omega), g _ _ (by omega)]
  exact h4 q hq
theorem L197_ok {ws : List (List Int)} {h : Int × Int × Int × Int} {s : QC} {x : Nat} (hx : x < cols) (hhx : h.2.1 = (x : Int)) (hst : s.2.2.1 = -1 ∨ (0 ≤ s.2.2.1 ∧ s.2.2.1 < (cols : Int))) (hcnt : ∀ q, cnt q = true → sp_c fs cols x q ≠ []) {r : Nat} (hr : r + 1 < recs) (h13 : recs ≤ 13) (hcr : cnt r = true) {rr : Int} (hrr : rr = r) : ∀ (k N q : Nat) (μ : am_M) (l2 y : Int), k < N → y = q → q + k = r → RX fs cols recs μ ws h s → RGi (d_gk fs cols recs x) (d_sk fs cols s.2.2.1) cnt s.2.2.1 μ r → PA (d_gk fs cols recs x) cnt r (μ 252 r) q → PB (d_sk fs cols s.2.2.1) cnt s.2.2.1 r l2 q →
    ∃ l2' x' μ', L197_4 240 rr N l2 y μ = some (.inr (l2', x', μ')) ∧ PA (d_gk fs cols recs x) cnt r (μ' 252 r) r ∧ PB (d_sk fs cols s.2.2.1) cnt s.2.2.1 r l2' r ∧ ∀ c t, ¬ (c = 252 ∧ t = r) → μ' c t = μ c t
  | k, 0, _, _, _, _, hN, _, _, _, _, _, _ => absurd hN (by omega)
  | 0, N + 1, q, μ, l2, y, hN, hy, hk, hX, hI, hA, hB => by
    rw [L197_4, if_neg (by omega)]
    rw [show q = r by omega] at hA hB
    exact ⟨_, _, _, rfl, hA, hB, fun _ _ _ => rfl⟩
  | k + 1, N + 1, q, μ, l2, y, hN, hy, hk, hX, hI, hA, hB => by
    have h29 : μ 240 29 = s.2.2.1 := hX.2.2.2.2.2.2.2.2.2.2.2.1
    have h21 : μ 240 21 = (x : Int) := by rw [← hhx]; exact hX.2.2.2.2.1
    obtain ⟨i1, i2, i3, i4⟩ := hI
    have hI' : RGi (d_gk fs cols recs x) (d_sk fs cols s.2.2.1) cnt s.2.2.1 μ r := ⟨i1, i2, i3, i4⟩
    obtain ⟨q257, q252⟩ := i4 q (by omega)
    have ey : y.toNat = q := by omega
    have er : rr.toNat = r := by omega
    have hsN : ¬ s.2.2.1 < 0 → s.2.2.1.toNat < cols ∧ s.2.2.1 = ((s.2.2.1.toNat : Nat) : Int) := fun z => by omega
    /- the part for the series -/
    have SP : ∀ z : am_M, RX fs cols recs z ws h s → RGi (d_gk fs cols recs x) (d_sk fs cols s.2.2.1) cnt s.2.2.1 z r → z 257 q = bI (cnt q) → ∃ l2', sT rr N l2 y z = L197_4 240 rr N l2' (y + 1) z ∧ PB (d_sk fs cols s.2.2.1) cnt s.2.2.1 r l2' (q + 1) := by
      intro z zX zI z257
      have z29 : z 240 29 = s.2.2.1 := zX.2.2.2.2.2.2.2.2.2.2.2.1
      unfold sT
      rw [w32_id (by omega) (by omega), ey]
      by_cases hs0 : s.2.2.1 < 0
      · rw [if_pos (by omega)]
        refine ⟨l2, rfl, ?_⟩
        rcases hB with hB | hB
        · exact Or.inl hB
        · omega
      · have hP : PA (d_sk fs cols s.2.2.1) cnt r l2 q := by
          rcases hB with hB | hB
          · omega
          · exact hB.2
        have hs0' : 0 ≤ s.2.2.1 := by omega
        rw [if_neg (by omega), if_pos (by omega)]
        cases hc : cnt q with
        | false =>
          rw [hc] at z257
          rw [if_pos (show z 257 q = 0 from z257)]
          exact ⟨l2, rfl, Or.inr ⟨hs0', hP.keep (fun z => by rw [hc] at z; cases z)⟩⟩
        | true =>
          rw [hc] at z257
          rw [if_neg (by rw [z257]; decide)]
          by_cases hl2 : l2 = -1
          · rw [if_pos (by omega), z29, fn195_ok zX.1 (r := q) (q := r) (by omega) hr (hsN hs0).1 hy hrr (hsN hs0).2, am_op_some]
            dsimp only
            have ek : (d_sk fs cols s.2.2.1 q = d_sk fs cols s.2.2.1 r) ↔ (sp_c fs cols s.2.2.1.toNat q = sp_c fs cols s.2.2.1.toNat r) := by
              unfold d_sk
              rw [if_neg hs0, if_neg hs0]
            by_cases e : sp_c fs cols s.2.2.1.toNat q = sp_c fs cols s.2.2.1.toNat r
            · rw [decide_eq_true e, if_neg (by decide), if_pos (by omega)]
              refine ⟨z 253 q, rfl, Or.inr ⟨hs0', ?_⟩⟩
              rw [((zI.2.2.2 q (by omega)).2 hc).2]
              exact PA.hit (by omega) hc (ek.mpr e)
            · rw [decide_eq_false e, if_pos (show bI false = 0 from rfl)]
              exact ⟨l2, rfl, Or.inr ⟨hs0', hP.keep (fun _ z => absurd (ek.mp z) e)⟩⟩
          · rw [if_neg (by rw [hP.lt]; exact hl2)]
            exact ⟨l2, rfl, Or.inr ⟨hs0', hP.keep (fun _ _ => hl2)⟩⟩
    have fin : ∀ z : am_M, RX fs cols recs z ws h s → RGi (d_gk fs cols recs x) (d_sk fs cols s.2.2.1) cnt s.2.2.1 z r → z 257 q = bI (cnt q) → PA (d_gk fs cols recs x) cnt r (z 252 r) (q + 1) → (∀ c t, ¬ (c = 252 ∧ t = r) → z c t = μ c t) → ∃ l2' x' μ', sT rr N l2 y z = some (.inr (l2', x', μ')) ∧ PA (d_gk fs cols recs x) cnt r (μ' 252 r) r ∧ PB (d_sk fs cols s.2.2.1) cnt s.2.2.1 r l2' r ∧ ∀ c t, ¬ (c = 252 ∧ t = r) → μ' c t = μ c t := by
      intro z zX zI z257 zA zF
      obtain ⟨l3, e1, e2⟩ := SP z zX zI z257
      obtain ⟨l2', x', μ', r1, r2, r3, r4⟩ := L197_ok hx hhx hst hcnt hr h13 hcr hrr k N (q + 1) z l3 (y + 1) (by omega) (by omega) (by omega) zX zI zA e2
      rw [e1]
      exact ⟨l2', x', μ', r1, r2, r3, fun c t hct => by rw [r4 c t hct, zF c t hct]⟩
    obtain ⟨r31, l31, r32, l32, r34, l34, r35, l35, r36, l36, r37, l37⟩ := rf_12
    rw [L197_4, r31, l31, r37, l37, r32, l32, if_pos (by omega), if_pos (by omega)]
    have e257 : μ 257 y.toNat = bI (cnt q) := by rw [ey]; exact q257
    have b1 : (0 : Int) ≤ rr ∧ rr < ((12 : Nat) : Int) := by omega
    cases hc : cnt q with
    | false =>
      rw [hc] at e257
      rw [if_pos (show μ 257 y.toNat = 0 from e257), if_pos b1, if_pos b1, am_up_id]
      exact fin μ hX hI' q257 (hA.keep (fun z => by rw [hc] at z; cases z)) (fun _ _ _ => rfl)
    | true =>
      rw [hc] at e257
      rw [if_neg (by rw [e257]; decide), if_pos b1]
      have e252 : μ 252 rr.toNat = μ 252 r := by rw [er]
      by_cases hv : μ 252 r = -1
      · rw [if_pos (by rw [e252]; omega), h21, fn196_ok hX.1 hX.2.1 (r := q) (q := r) (by omega) hr hx (hcnt q hc) (hcnt r hcr) hy hrr rfl, am_op_some]
        dsimp only
        by_cases e : d_gk fs cols recs x q = d_gk fs cols recs x r
        · rw [decide_eq_true e, if_neg (by decide), if_pos (by omega), if_pos b1]
          have q2 := (q252 hc).1
          have hh : ∀ c t, ¬ (c = 252 ∧ t = r) → am_up μ 252 rr.toNat (μ 252 y.toNat) c t = μ c t := fun c t hct => by rw [er]; exact up_ne hct
          refine fin (am_up μ 252 rr.toNat (μ 252 y.toNat)) (hX.fr (fun c t hct => hh c t (by omega))) (hI'.fr (by omega) (fun c t hct => hh c t (by omega))) (by rw [hh _ _ (by omega)]; exact q257) ?_ hh
          rw [er, ey, am_up_at, q2]
          exact PA.hit (by omega) hc e
        · rw [decide_eq_false e, if_pos (show bI false = 0 from rfl), if_pos b1, if_pos b1, am_up_id]
          exact fin μ hX hI' q257 (hA.keep (fun _ z => absurd z e)) (fun _ _ _ => rfl)
      · rw [if_neg (by rw [e252, hA.lt]; exact hv), if_pos b1, if_pos b1, am_up_id]
        exact fin μ hX hI' q257 (hA.keep (fun _ _ => hv)) (fun _ _ _ => rfl)
end RP
