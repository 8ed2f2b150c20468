/-! The class takes words. -/
def Wc (μ : am_M) (a : Nat) (w : List Int) : Prop := Cr w ∧ w.length ≤ 160 ∧ ∃ b cap, am_ref a 0 = b ∧ am_len b = cap ∧ Lt μ a b cap w ∧ (cap = 12 ∨ (cap = 0 ∧ w = [])) ∧ 143 ≤ a ∧ a ≤ 183 ∧ 144 ≤ b ∧ b ≤ 184
theorem Wc.fr {μ μ' : am_M} {a : Nat} {w : List Int} (h : Wc μ a w) (g : ∀ c t, 143 ≤ c → c ≤ 184 → μ' c t = μ c t) : Wc μ' a w := by
  obtain ⟨h1, h2, b, cap, h3, h4, h5, h6, h7, h8, h9, h10⟩ := h
  exact ⟨h1, h2, b, cap, h3, h4, h5.fr (g _ _ (by omega) (by omega)) (fun i => g _ _ (by omega) (by omega)), h6, h7, h8, h9, h10⟩
def Qw (μ : am_M) (ws r : List (List Int)) : Prop := Wd μ ws ∧ ws.length ≤ 20 ∧ (∀ w ∈ ws, w.length ≤ 160 ∧ Cr w) ∧ μ 183 1 = 0 ∧ ∃ k, k ≤ ws.length ∧ μ 141 4 = ((k : Nat) : Int) ∧ r = ws.drop k
theorem Qw.fr {μ μ' : am_M} {ws r : List (List Int)} (h : Qw μ ws r) (g3 : μ' 141 3 = μ 141 3) (g4 : μ' 141 4 = μ 141 4) (g : ∀ c t, 143 ≤ c → c ≤ 184 → μ' c t = μ c t) : Qw μ' ws r := by
  obtain ⟨⟨h1, h2⟩, h3, h4, h5, k, h6, h7, h8⟩ := h
  exact ⟨⟨by rw [g3]; exact h1, fun j hj hj2 => (h2 j hj hj2).fr (g _ _ (by omega) (by omega)) (fun i => g _ _ (by omega) (by omega))⟩, h3, h4, by rw [g _ _ (by omega) (by omega)]; exact h5, k, h6, by rw [g4]; exact h7, h8⟩
theorem fn53_ok {μ : am_M} {ws r : List (List Int)} (h : Qw μ ws r) : ∃ (a : Nat) (μ' : am_M), fn53 141 μ = some ((a : Int), μ') ∧ Qw μ' ws r.tail ∧ Wc μ' a (hdW r) ∧ ∀ c t, ¬ (c = 141 ∧ t = 4) → μ' c t = μ c t := by
  obtain ⟨h1, h3, h4, h5, k, h6, h7, h8⟩ := h
  have hw := h1.1
  unfold fn53
  rw [rf_6.2.2.1, rf_6.2.2.2.2.2.1, rf_6.2.2.2.1]
  by_cases hk : k < ws.length
  · rw [if_pos (by omega), if_pos (by omega)]
    have e : am_up μ 141 4 (w32 (μ 141 4 + 1)) 141 4 = (k : Int) + 1 := by rw [am_up_at, h7, w32_id (by omega) (by omega)]
    have e2 : w32 (am_up μ 141 4 (w32 (μ 141 4 + 1)) 141 4 - 1) = k := by rw [e, w32_id (by omega) (by omega)]; omega
    rw [if_pos (by rw [e2]; omega), e2, Int.toNat_natCast, (rf_7 k (by omega)).1, h7, w32_id (by omega) (by omega)]
    have hf : ∀ c t, ¬ (c = 141 ∧ t = 4) → am_up μ 141 4 ((k : Int) + 1) c t = μ c t := fun c t hc => by
      by_cases h9 : c = 141
      · exact am_up_s _ _ (by omega)
      · exact am_up_c _ _ h9
    have e3 : ws.drop k = ws.getD k [] :: ws.drop (k + 1) := by
      rw [List.getD_eq_getElem?_getD, List.getElem?_eq_getElem hk]
      exact List.drop_eq_getElem_cons hk
    have hm : ws.getD k [] ∈ ws := by
      rw [List.getD_eq_getElem?_getD, List.getElem?_eq_getElem hk]
      exact List.getElem_mem hk
    refine ⟨143 + 2 * k, am_up μ 141 4 ((k : Int) + 1), rfl, ⟨⟨by rw [hf _ _ (by omega)]; exact h1.1, fun j hj hj2 => (h1.2 j hj hj2).fr (hf _ _ (by omega)) (fun i => hf _ _ (by omega))⟩, h3, h4, by rw [hf _ _ (by omega)]; exact h5, k + 1, hk, by rw [am_up_at]; omega, by rw [h8, e3]; rfl⟩, ?_, hf⟩
    rw [h8, e3]
    obtain ⟨y1, y2, y3⟩ := rf_7 k (by omega)
    exact ⟨(h4 _ hm).2, (h4 _ hm).1, 144 + 2 * k, 12, y2, y3, (h1.2 k hk (by omega)).fr (hf _ _ (by omega)) (fun i => hf _ _ (by omega)), Or.inl rfl, by omega, by omega, by omega, by omega⟩
  · rw [if_neg (by omega)]
    have e3 : r = [] := by rw [h8]; exact List.drop_eq_nil_of_le (by omega)
    refine ⟨183, μ, rfl, ⟨h1, h3, h4, h5, k, h6, h7, by rw [e3]; rw [e3] at h8; exact h8⟩, ?_, fun _ _ _ => rfl⟩
    rw [e3]
    exact ⟨fun i => by simp [hdW], by simp [hdW], 184, 0, rf_6.2.2.2.2.2.2.2.1, rf_6.2.2.2.2.2.2.2.2.1, ⟨by rw [h5]; rfl, fun i hi hc => absurd hc (by omega)⟩, Or.inr ⟨rfl, rfl⟩, by omega, by omega, by omega, by omega⟩
theorem lit_l0 : ∀ s, s < 21 → 2 ≤ s → 1 ≤ am_slen s ∧ am_slen s ≤ 12 := by decide +kernel
theorem lit_l (s : Nat) (h : 2 ≤ s) (h1 : s < 21) : 1 ≤ am_slen s ∧ am_slen s ≤ 12 := lit_l0 s h1 h
theorem fnis_ok {μ : am_M} {a : Nat} {w : List Int} (h : Wc μ a w) {s : Nat} (h2 : 2 ≤ s) (hs : s < 21) : fn60 a s μ = some (bI (decide (w = lit s)), μ) := by
  obtain ⟨h1, hl, b, cap, h3, h4, h5, h6, h7, h8, h9, h10⟩ := h
  have z := lit_l s h2 hs
  refine fn60_ok h3 h4 h5 h1 (by omega) ?_ (by omega)
  rcases h6 with h6 | ⟨h6, h6'⟩
  · exact Or.inl (by omega)
  · exact Or.inr (by rw [h6']; simp; omega)
theorem L63_ok {μ : am_M} {fs : List (List Int)} {cols recs : Nat} (hT : CT μ fs cols recs) {a : Nat} {w : List Int} (h : Wc μ a w) (hne : w ≠ []) : ∀ (k N c : Nat) (x : Int), k < N → x = c → c + k = cols → ∃ t, L63_2 5 a N x μ = some t ∧ ∀ f : (Int × am_M) → Option (Int × am_M), (∀ q, f q = some q) → am_lp t f (fun t1 => some ((-1), t1.2)) = some (colf fs w k c, μ)
  | k, 0, _, _, hN, _, _ => absurd hN (by omega)
  | 0, N + 1, c, x, hN, hx, hk => by
    rw [L63_2, if_neg (by rw [hT.1]; omega)]
    exact ⟨_, rfl, fun f hf => rfl⟩
  | k + 1, N + 1, c, x, hN, hx, hk => by
    have h' := h
    obtain ⟨h1, hl, b, cap, h3, h4, h5, h6, h7, h8, h9, h10⟩ := h
    have h12 := hT.2.2.2.1
    have hrec := hT.2.2.2.2.1
    have hi := hT.idx (r := 0) (c := c) (by omega) (by omega)
    rw [Nat.zero_mul, Nat.zero_add] at hi
    obtain ⟨y1, y2, y3, y4, y5⟩ := hT.lt hi.1
    have e0 : w.length ≠ 0 := fun e => hne (List.length_eq_zero_iff.mp e)
    rw [L63_2, if_pos (by rw [hT.1]; omega), fn29_ok h5, am_op_some]
    dsimp only
    rw [if_pos (by rw [decide_eq_false e0]; rfl), fn28_ok hT (r := 0) (c := c) (by omega) (by omega) (by omega) hx, am_op_some]
    dsimp only
    rw [Int.toNat_natCast, Nat.zero_mul, Nat.zero_add, fn62_ok y1 y2 y3 y4 h3 h4 h5 h1 y5 (Or.inl (by rcases h6 with h6 | ⟨-, h6⟩; · omega
                                                                                                      · exact absurd h6 hne)) (by omega), am_op_some]
    dsimp only
    unfold colf
    by_cases he : fs.getD c [] = w
    · rw [decide_eq_true he, if_neg (by decide), if_pos he]
      exact ⟨_, rfl, fun f hf => by rw [am_lp_l, hf, hx]⟩
    · rw [decide_eq_false he, if_pos (show bI false = 0 from rfl), if_neg he, w32_id (by omega) (by omega)]
      exact L63_ok hT h' hne k N (c + 1) (x + 1) (by omega) (by omega) (by omega)
theorem fn63_ok {μ : am_M} {fs : List (List Int)} {cols recs : Nat} (hT : CT μ fs cols recs) {a : Nat} {w : List Int} (h : Wc μ a w) : fn63 5 a μ = some (colN fs cols w, μ) := by
  unfold fn63
  have h12 := hT.2.2.2.1
  by_cases hne : w = []
  · have h5 : ∃ b cap, Lt μ a b cap w := by
      obtain ⟨h1, hl, b, cap, h3, h4, h5, h6, h7, h8, h9, h10⟩ := h
      exact ⟨b, cap, h5⟩
    obtain ⟨b, cap, h5⟩ := h5
    unfold colN
    rw [if_pos hne, show am_fuel = 9999 + 1 from rfl, L63_2, if_pos (by rw [hT.1]; have := hT.2.2.1; omega), fn29_ok h5, am_op_some]
    dsimp only
    rw [if_neg (by rw [decide_eq_true (by rw [hne]; rfl)]; decide)]
    rfl
  · obtain ⟨t, q1, q2⟩ := L63_ok hT h hne cols am_fuel 0 0 (by unfold am_fuel; omega) rfl (by omega)
    rw [q1, am_op_some, q2 _ (fun _ => rfl)]
    unfold colN
    rw [if_neg hne]
/-- copy -/
theorem L67_ok {o ao cap a b : Nat} {w : List Int} (hr : am_ref o 0 = ao) (hc : am_len ao = cap) (hoa : o ≠ ao) (hcap : cap ≤ 12) (h3 : am_ref a 0 = b) {cs : Nat} (h4 : am_len b = cs) (h6 : cs = 12 ∨ (cs = 0 ∧ w = [])) (hR : Cr w) (hl : w.length ≤ 160) (n1 : o ≠ a) (n2 : o ≠ b) (n3 : ao ≠ a) (n4 : ao ≠ b) : ∀ (k N i : Nat) (μ : am_M) (x : Int), k < N → x = i → i + k = w.length → Lt μ a b cs w → Lt μ o ao cap (w.take i) →
    ∃ x' μ', L67_6 o a N x μ = some (.inr (x', μ')) ∧ Lt μ' o ao cap w ∧ ∀ c t, ¬ (c = o ∧ t = 1) → c ≠ ao → μ' c t = μ c t
  | k, 0, _, _, _, hN, _, _, _, _ => absurd hN (by omega)
  | 0, N + 1, i, μ, x, hN, hx, hk, h5, hT => by
    rw [L67_6, if_neg (by rw [h5.1]; omega)]
    rw [List.take_of_length_le (by omega)] at hT
    exact ⟨x, μ, rfl, hT, fun _ _ _ _ => rfl⟩
  | k + 1, N + 1, i, μ, x, hN, hx, hk, h5, hT => by
    rw [L67_6, if_pos (by rw [h5.1]; omega), fn30_at h3 h4 h5 hR i hx, am_op_some]
    dsimp only
    have hg : 0 ≤ gc w cs i ∧ gc w cs i ≤ 65535 := by
      unfold gc
      split
      · exact hR i
      · omega
    have e1 : (w.take i).length = i := by rw [List.length_take]; omega
    obtain ⟨μ1, q1, q2, q3⟩ := fn17_ok hr hc hoa hT (by omega) hg.1 hg.2
    rw [q1, am_op_some]
    dsimp only
    rw [w32_id (by omega) (by omega)]
    have q4 : Lt μ1 o ao cap (w.take (i + 1)) := by
      have e2 : (w.take (i + 1)).length = i + 1 := by rw [List.length_take]; omega
      refine ⟨by rw [q2.1, e2, List.length_append, e1]; rfl, fun j hj hj2 => ?_⟩
      rw [q2.2 j (by rw [List.length_append, e1]; simp; omega) hj2, getD_app, e1]
      rw [List.getD_eq_getElem?_getD, List.getD_eq_getElem?_getD, List.getElem?_take, List.getElem?_take, if_pos (show j < i + 1 by omega)]
      by_cases hji : j < i
      · rw [if_pos hji, if_pos hji]
      · rw [if_neg hji, if_pos (by omega)]
        unfold gc
        have : i < cs := by
          rcases h6 with h6 | ⟨-, h6⟩
          · omega
          · rw [h6] at hk; simp at hk
        rw [if_pos ⟨by omega, this⟩, show j = i by omega, List.getD_eq_getElem?_getD]
    have h5' : Lt μ1 a b cs w := h5.fr (q3 _ _ (by omega) (by omega)) (fun t => q3 _ _ (by omega) (by omega))
    obtain ⟨x', μ', r1, r2, r3⟩ := L67_ok hr hc hoa hcap h3 h4 h6 hR hl n1 n2 n3 n4 k N (i + 1) μ1 (x + 1) (by omega) (by omega) (by omega) h5' q4
    exact ⟨x', μ', r1, r2, fun c t c1 c2 => by rw [r3 c t c1 c2, q3 c t (by omega) (by omega)]⟩
