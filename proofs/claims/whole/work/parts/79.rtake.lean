/-! The reference takes words. -/
def RQ (μ : am_M) (ws r : List (List Int)) : Prop := RW μ ws ∧ (∀ w ∈ ws, w ≠ []) ∧ ∃ k, k ≤ ws.length ∧ μ 240 19 = ((k : Nat) : Int) ∧ r = ws.drop k
theorem RW.fr {μ μ' : am_M} {ws : List (List Int)} (h : RW μ ws) (g16 : μ' 240 16 = μ 240 16) (g : ∀ c t, c = 242 ∨ c = 247 ∨ c = 248 → μ' c t = μ c t) : RW μ' ws := by
  obtain ⟨h1, h2, h3⟩ := h
  refine ⟨by rw [g16]; exact h1, h2, fun k hk => ?_⟩
  obtain ⟨p, y1, y2, y3⟩ := h3 k hk
  exact ⟨p, by rw [g _ _ (by omega)]; exact y1, by rw [g _ _ (by omega)]; exact y2, y3.fr0 (fun i => g _ _ (by omega))⟩
theorem RQ.fr {μ μ' : am_M} {ws r : List (List Int)} (h : RQ μ ws r) (g16 : μ' 240 16 = μ 240 16) (g19 : μ' 240 19 = μ 240 19) (g : ∀ c t, c = 242 ∨ c = 247 ∨ c = 248 → μ' c t = μ c t) : RQ μ' ws r := by
  obtain ⟨h1, h2, k, h3, h4, h5⟩ := h
  exact ⟨h1.fr g16 g, h2, k, h3, by rw [g19]; exact h4, h5⟩
def pk (s : Nat) : Int := (lit s).foldl (fun a c => 256 * a + c) 0
theorem pk_ck : ∀ s, s < 21 → 2 ≤ s → ∀ k, k < am_slen s → o_and (o_l2i (o_ushrl (pk s) (8 * (((am_slen s : Nat) : Int) - 1 - ((k : Nat) : Int))))) 255 = am_schr s k := by decide +kernel
theorem pk_v : pk 2 = 6447474 ∧ pk 3 = 1818848869 ∧ pk 4 = 482905517684 ∧ pk 5 = 120 ∧ pk 6 = 121 ∧ pk 7 = 427071729268 ∧ pk 8 = 7566701 ∧ pk 9 = 1835360622 ∧ pk 10 = 7170414 ∧ pk 11 = 7168376 ∧ pk 12 = 512852587109 ∧ pk 13 = 478660552050 ∧ pk 14 = 30064 ∧ pk 15 = 1685026670 ∧ pk 16 = 495873778539 ∧ pk 17 = 499984329587 ∧ pk 18 = 61 ∧ pk 19 = 60 ∧ pk 20 = 62 := by decide +kernel
theorem pk_l : am_slen 2 = 3 ∧ am_slen 3 = 4 ∧ am_slen 4 = 5 ∧ am_slen 5 = 1 ∧ am_slen 6 = 1 ∧ am_slen 7 = 5 ∧ am_slen 8 = 3 ∧ am_slen 9 = 4 ∧ am_slen 10 = 3 ∧ am_slen 11 = 3 ∧ am_slen 12 = 5 ∧ am_slen 13 = 5 ∧ am_slen 14 = 2 ∧ am_slen 15 = 4 ∧ am_slen 16 = 5 ∧ am_slen 17 = 5 ∧ am_slen 18 = 1 ∧ am_slen 19 = 1 ∧ am_slen 20 = 1 := by decide +kernel
theorem L184_ok {μ : am_M} {s : Nat} (h2 : 2 ≤ s) (hs : s < 21) {k p : Nat} {w : List Int} (hk : k < 80) (h19 : μ 240 19 = ((k : Nat) : Int)) (hp : μ 247 k = ((p : Nat) : Int)) (hS : Sp μ 0 p w.length (sp_g w)) (hl : w.length = am_slen s) {P : Int} (hP : P = pk s) : ∀ (m N i : Nat) (x : Int), m < N → x = i → i + m = am_slen s →
    ((∀ j, i ≤ j → j < am_slen s → w.getD j 0 = am_schr s j) → ∃ x', L184_29 240 P ((am_slen s : Nat) : Int) N x μ = some (.inr (x', μ))) ∧ ((¬ ∀ j, i ≤ j → j < am_slen s → w.getD j 0 = am_schr s j) → L184_29 240 P ((am_slen s : Nat) : Int) N x μ = some (.inl (0, μ)))
  | m, 0, _, _, hN, _, _ => absurd hN (by omega)
  | 0, N + 1, i, x, hN, hx, hm => by
    rw [L184_29, if_neg (by omega)]
    exact ⟨fun _ => ⟨x, rfl⟩, fun z => absurd (fun j j1 j2 => by omega) z⟩
  | m + 1, N + 1, i, x, hN, hx, hm => by
    have z := lit_l s h2 hs
    have hle : p + w.length ≤ 160 ∧ ∀ i, i < w.length → μ 242 (p + i) = w.getD i 0 := by
      rcases hS with ⟨h, -⟩ | ⟨-, h, h'⟩
      · cases h
      · exact ⟨h, h'⟩
    obtain ⟨r4, l4, r17, l17, r18, l18, -⟩ := rf_8
    rw [L184_29, if_pos (by omega), r17, l17, r4, l4, if_pos (by omega)]
    have e0 : μ 247 (μ 240 19).toNat = (p : Int) := by rw [h19, Int.toNat_natCast]; exact hp
    have e1 : w32 (μ 247 (μ 240 19).toNat + x) = ((p + i : Nat) : Int) := by rw [e0, w32_id (by omega) (by omega)]; omega
    rw [if_pos (by rw [e1]; omega)]
    unfold fn164
    rw [am_op_some]
    dsimp only
    have e2 : w32 (8 * w32 (w32 (((am_slen s : Nat) : Int) - 1) - x)) = 8 * (((am_slen s : Nat) : Int) - 1 - ((i : Nat) : Int)) := by
      rw [w32_id (x := ((am_slen s : Nat) : Int) - 1) (by omega) (by omega), w32_id (x := ((am_slen s : Nat) : Int) - 1 - x) (by omega) (by omega), w32_id (by omega) (by omega), hx]
    rw [e2, hP, pk_ck s hs h2 i (by omega), w32_id (x := x + 1) (by omega) (by omega)]
    have e3 : μ 242 (w32 (μ 247 (μ 240 19).toNat + x)).toNat = w.getD i 0 := by rw [e1, Int.toNat_natCast]; exact hle.2 i (by omega)
    have ih := L184_ok (μ := μ) h2 hs hk h19 hp hS hl (P := pk s) rfl m N (i + 1) (x + 1) (by omega) (by omega) (by omega)
    by_cases he : w.getD i 0 = am_schr s i
    · rw [if_pos (e3.trans he)]
      refine ⟨fun z => ih.1 (fun j j1 j2 => z j (by omega) j2), fun z => ih.2 (fun y => z (fun j j1 j2 => ?_))⟩
      by_cases hji : j = i
      · rw [hji]; exact he
      · exact y j (by omega) j2
    · rw [if_neg (fun z => he (e3.symm.trans z))]
      exact ⟨fun z => absurd (z i (by omega) (by omega)) he, fun _ => rfl⟩
theorem fn184_ok {μ : am_M} {ws r : List (List Int)} (h : RQ μ ws r) {s : Nat} (h2 : 2 ≤ s) (hs : s < 21) {P n : Int} (hP : P = pk s) (hn : n = ((am_slen s : Nat) : Int)) : ∃ μ', fn184 240 P n μ = some (bI (decide (hdW r = lit s)), μ') ∧ (hdW r = lit s → RQ μ' ws r.tail) ∧ (hdW r ≠ lit s → μ' = μ) ∧ ∀ c t, ¬ (c = 240 ∧ t = 19) → μ' c t = μ c t := by
  subst hn
  obtain ⟨h1, hne, k, h3, h4, h5⟩ := h
  have h16 := h1.1
  have h80 := h1.2.1
  obtain ⟨r4, l4, r17, l17, r18, l18, -⟩ := rf_8
  unfold fn184
  rw [r18, l18]
  by_cases hk : k < ws.length
  · obtain ⟨p, y1, y2, y3⟩ := h1.2.2 k hk
    have e3 : ws.drop k = ws.getD k [] :: ws.drop (k + 1) := by
      rw [List.getD_eq_getElem?_getD, List.getElem?_eq_getElem hk]
      exact List.drop_eq_getElem_cons hk
    have eh : hdW r = ws.getD k [] := by rw [h5, e3]; rfl
    have et : r.tail = ws.drop (k + 1) := by rw [h5, e3]; rfl
    rw [eh, et]
    generalize ws.getD k [] = w at *
    rw [if_pos (by omega), if_pos (by omega)]
    have e0 : μ 248 (μ 240 19).toNat = (w.length : Int) := by rw [h4, Int.toNat_natCast]; exact y2
    by_cases hl : w.length = am_slen s
    · have z := L184_ok h2 hs (by omega) h4 y1 y3 hl hP (am_slen s) am_fuel 0 0 (by have := lit_l s h2 hs; unfold am_fuel; omega) rfl (by omega)
      rw [if_pos (by rw [e0]; omega)]
      have hw : w = lit s ↔ ∀ j, 0 ≤ j → j < am_slen s → w.getD j 0 = am_schr s j := by
        rw [lst_eq]
        exact ⟨fun q j _ hj => q.2 j (by omega), fun q => ⟨hl, fun i hi => q i (by omega) (by omega)⟩⟩
      by_cases hc : w = lit s
      · obtain ⟨x', q⟩ := z.1 (hw.mp hc)
        rw [q, am_op_some, am_lp_r, decide_eq_true hc]
        dsimp only
        rw [h4, w32_id (by omega) (by omega)]
        have g : ∀ c t, ¬ (c = 240 ∧ t = 19) → am_up μ 240 19 ((k : Int) + 1) c t = μ c t := fun c t hct => by
          by_cases h9 : c = 240
          · exact am_up_s _ _ (by omega)
          · exact am_up_c _ _ h9
        exact ⟨_, rfl, fun _ => ⟨h1.fr (g _ _ (by omega)) (fun c t hct => g _ _ (by omega)), hne, k + 1, hk, by rw [am_up_at]; omega, rfl⟩, fun z => absurd hc z, g⟩
      · rw [z.2 (fun q => hc (hw.mpr q)), am_op_some, am_lp_l, decide_eq_false hc]
        exact ⟨μ, rfl, fun z => absurd z hc, fun _ => rfl, fun _ _ _ => rfl⟩
    · have hc : w ≠ lit s := fun e => hl (by rw [e]; rfl)
      rw [if_neg (by rw [e0]; omega), decide_eq_false hc]
      exact ⟨μ, rfl, fun z => absurd z hc, fun _ => rfl, fun _ _ _ => rfl⟩
  · have e3 : r = [] := by rw [h5]; exact List.drop_eq_nil_of_le (by omega)
    have hc : hdW r ≠ lit s := by rw [e3]; exact (lit_ne s h2 hs).symm
    rw [if_neg (by omega), decide_eq_false hc]
    exact ⟨μ, rfl, fun z => absurd z hc, fun _ => rfl, fun _ _ _ => rfl⟩
theorem L186_ok {μ : am_M} {fs : List (List Int)} {cols recs : Nat} (hT : RT μ fs cols recs) {k p : Nat} {w : List Int} (hk : k < 80) (hp : μ 247 k = ((p : Nat) : Int)) (hl : μ 248 k = ((w.length : Nat) : Int)) (hS : Sp μ 0 p w.length (sp_g w)) : ∀ (m N c : Nat) (x : Int), m < N → x = c → c + m = cols → ∃ t, L186_30 240 ((k : Nat) : Int) N x μ = some t ∧ ∀ f : (Int × am_M) → Option (Int × am_M), (∀ q, f q = some q) → am_lp t f (fun t1 => some ((-1), t1.2)) = some (colf fs w m c, μ)
  | m, 0, _, _, hN, _, _ => absurd hN (by omega)
  | 0, N + 1, c, x, hN, hx, hm => by
    rw [L186_30, if_neg (by rw [hT.1]; omega)]
    exact ⟨_, rfl, fun f hf => rfl⟩
  | m + 1, N + 1, c, x, hN, hx, hm => by
    have h12 := hT.2.2.2.1
    have hrec := hT.2.2.2.2.1
    have hi := hT.idx (r := 0) (c := c) (by omega) (by omega)
    rw [Nat.zero_mul, Nat.zero_add] at hi
    have y := hT.2.2.2.2.2.2.2.2.2 c hi.1
    obtain ⟨r4, l4, r17, l17, r18, l18, r10, l10, r11, l11, -⟩ := rf_8
    rw [L186_30, if_pos (by rw [hT.1]; omega), r17, l17, r18, l18, r10, l10, r11, l11, if_pos (by omega), if_pos (by omega), if_pos (by omega), if_pos (by omega), Int.toNat_natCast, show x.toNat = c by omega, fn185_ok hS (hT.sp hi.1) hp hl y.1 y.2.1, am_op_some]
    dsimp only
    unfold colf
    by_cases he : fs.getD c [] = w
    · rw [decide_eq_true he.symm, if_neg (by decide), if_pos he]
      exact ⟨_, rfl, fun f hf => by rw [am_lp_l, hf, hx]⟩
    · rw [decide_eq_false (fun z => he z.symm), if_pos (show bI false = 0 from rfl), if_neg he, w32_id (by omega) (by omega)]
      exact L186_ok hT hk hp hl hS m N (c + 1) (x + 1) (by omega) (by omega) (by omega)
theorem RT.fw {μ μ' : am_M} {fs : List (List Int)} {cols recs : Nat} (h : RT μ fs cols recs) (g7 : μ' 240 7 = μ 240 7) (g8 : μ' 240 8 = μ 240 8) (g : ∀ c t, c = 243 ∨ c = 244 ∨ c = 245 → μ' c t = μ c t) : RT μ' fs cols recs := by
  obtain ⟨h1, h2, h3, h4, h5, h6, h7, h8, h9, h10⟩ := h
  refine ⟨by rw [g7]; exact h1, by rw [g8]; exact h2, h3, h4, h5, h6, h7, h8, h9, fun f hf => ?_⟩
  obtain ⟨y1, y2, y3⟩ := h10 f hf
  exact ⟨by rw [g _ _ (by omega)]; exact y1, by rw [g _ _ (by omega)]; exact y2, fun i hi => by rw [g _ _ (by omega)]; exact y3 i hi⟩
theorem fn186_ok {μ : am_M} {fs : List (List Int)} {cols recs : Nat} (hT : RT μ fs cols recs) {ws r : List (List Int)} (h : RQ μ ws r) : ∃ μ', fn186 240 μ = some (colN fs cols (hdW r), μ') ∧ RQ μ' ws r.tail ∧ ∀ c t, ¬ (c = 240 ∧ t = 19) → μ' c t = μ c t := by
  have h' := h
  obtain ⟨h1, hne, k, h3, h4, h5⟩ := h
  have h16 := h1.1
  have h80 := h1.2.1
  have hc5 := hT.2.2.2.1
  unfold fn186
  by_cases hk : k < ws.length
  · obtain ⟨p, y1, y2, y3⟩ := h1.2.2 k hk
    have e3 : ws.drop k = ws.getD k [] :: ws.drop (k + 1) := by
      rw [List.getD_eq_getElem?_getD, List.getElem?_eq_getElem hk]
      exact List.drop_eq_getElem_cons hk
    have hm : ws.getD k [] ∈ ws := by
      rw [List.getD_eq_getElem?_getD, List.getElem?_eq_getElem hk]
      exact List.getElem_mem hk
    have eh : hdW r = ws.getD k [] := by rw [h5, e3]; rfl
    have et : r.tail = ws.drop (k + 1) := by rw [h5, e3]; rfl
    have hw := hne _ hm
    rw [eh, et]
    have g : ∀ c t, ¬ (c = 240 ∧ t = 19) → am_up μ 240 19 ((k : Int) + 1) c t = μ c t := fun c t hct => by
      by_cases h9 : c = 240
      · exact am_up_s _ _ (by omega)
      · exact am_up_c _ _ h9
    obtain ⟨t, q1, q2⟩ := L186_ok (μ := am_up μ 240 19 ((k : Int) + 1)) (w := ws.getD k []) (hT.fw (g _ _ (by omega)) (g _ _ (by omega)) (fun c t hc => g c t (by omega))) (k := k) (p := p) (by omega) (by rw [g _ _ (by omega)]; exact y1) (by rw [g _ _ (by omega)]; exact y2) (y3.fr0 (fun i => g _ _ (by omega))) cols am_fuel 0 0 (by unfold am_fuel; omega) rfl (by omega)
    rw [if_pos (by omega), h4, w32_id (by omega) (by omega), q1, am_op_some, q2 _ (fun _ => rfl)]
    refine ⟨_, ?_, ⟨h1.fr (g _ _ (by omega)) (fun c t hct => g _ _ (by omega)), hne, k + 1, hk, by rw [am_up_at]; omega, rfl⟩, g⟩
    unfold colN
    rw [if_neg hw]
  · have e3 : r = [] := by rw [h5]; exact List.drop_eq_nil_of_le (by omega)
    rw [if_neg (by omega), e3]
    refine ⟨μ, rfl, ?_, fun _ _ _ => rfl⟩
    rw [e3] at h'
    exact h'
