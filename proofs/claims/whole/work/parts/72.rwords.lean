/-! The reference's words. -/
theorem rf_8 : am_ref 240 4 = 242 ∧ am_len 242 = 160 ∧ am_ref 240 17 = 247 ∧ am_len 247 = 80 ∧ am_ref 240 18 = 248 ∧ am_len 248 = 80 ∧ am_ref 240 10 = 243 ∧ am_len 243 = 420 ∧ am_ref 240 11 = 244 ∧ am_len 244 = 420 ∧ am_ref 240 15 = 246 ∧ am_len 246 = 5 ∧ am_ref 240 25 = 249 ∧ am_len 249 = 2 ∧ am_ref 240 26 = 250 ∧ am_len 250 = 2 ∧ am_ref 240 27 = 251 ∧ am_len 251 = 2 := by decide +kernel
def UT (μ : am_M) (T : Nat → Int) (n : Nat) : Prop := μ 240 3 = n ∧ n ≤ 160 ∧ ∀ i : Nat, i < n → μ 242 i = T i
theorem UT.fr {μ μ' : am_M} {D : Nat → Int} {n : Nat} (h : UT μ D n) (h1 : μ' 240 3 = μ 240 3) (h2 : ∀ i, μ' 242 i = μ 242 i) : UT μ' D n := ⟨by rw [h1]; exact h.1, h.2.1, fun i hi => by rw [h2]; exact h.2.2 i hi⟩
def RW (μ : am_M) (ws : List (List Int)) : Prop := μ 240 16 = ws.length ∧ ws.length ≤ 80 ∧ ∀ k, k < ws.length → ∃ p : Nat, μ 247 k = p ∧ μ 248 k = ((ws.getD k []).length : Nat) ∧ Sp μ 0 p (ws.getD k []).length (sp_g (ws.getD k []))
def Frw (μ μ' : am_M) : Prop := ∀ c t, ¬ (c = 240 ∧ t = 16) → c ≠ 247 → c ≠ 248 → μ' c t = μ c t
theorem Sp.fr0 {μ μ' : am_M} {p n : Nat} {g : Nat → Int} (h : Sp μ 0 p n g) (h2 : ∀ i, μ' 242 i = μ 242 i) : Sp μ' 0 p n g := by
  rcases h with ⟨h, -⟩ | ⟨h, h1, h3⟩
  · cases h
  · exact Or.inr ⟨h, h1, fun i hi => by rw [h2]; exact h3 i hi⟩
theorem tw_w_g (T : Nat → Int) (n : Nat) : ∀ k q i, i < (tw_w T n k q).1.length → (tw_w T n k q).1.getD i 0 = T (q + i)
  | 0, q, i, h => by unfold tw_w at h; simp at h
  | k + 1, q, i, h => by
    unfold tw_w at h ⊢
    split at h
    · rename_i h1
      rw [if_pos h1]
      split at h
      · simp at h
      · rename_i h2
        rw [if_neg h2]
        cases i with
        | zero => simp
        | succ i =>
          simp only [List.length_cons, Nat.add_lt_add_iff_right] at h
          have z := tw_w_g T n k (q + 1) i h
          dsimp only
          rw [List.getD_cons_succ, z]
          congr 1; omega
    · simp at h
theorem L183_42_ok {T : Nat → Int} {n : Nat} : ∀ (k N : Nat) (μ : am_M) (p : Nat) (x : Int), k < N → x = p → p ≤ n → n - p ≤ k → UT μ T n → L183_42 240 N x μ = some (.inr (((tw_w T n k p).2 : Nat), μ))
  | k, 0, _, _, _, h, _, _, _, _ => absurd h (by omega)
  | 0, N + 1, μ, p, x, hN, hx, hp, hk, h => by
    rw [L183_42, if_neg (by rw [h.1]; omega), hx]
    rfl
  | k + 1, N + 1, μ, p, x, hN, hx, hp, hk, h => by
    have hn := h.2.1
    rw [L183_42, rf_8.1, rf_8.2.1]
    unfold tw_w
    by_cases h1 : p < n
    · rw [if_pos (by rw [h.1]; omega), if_pos (by omega), if_pos h1]
      have e : μ 242 x.toNat = T p := by rw [show x.toNat = p by omega]; exact h.2.2 p h1
      by_cases h2 : T p = 32
      · rw [if_pos (by rw [e]; exact h2), if_pos h2, hx]
      · rw [if_neg (by rw [e]; exact h2), if_neg h2, w32_id (by omega) (by omega)]
        exact L183_42_ok k N μ (p + 1) (x + 1) (by omega) (by omega) (by omega) (by omega) h
    · rw [if_neg (by rw [h.1]; omega), if_neg h1, hx]
theorem L183_7_ok {T : Nat → Int} {n : Nat} : ∀ (k N : Nat) (μ : am_M) (p : Nat) (x : Int) (ws : List (List Int)), k < N → x = p → p ≤ n → n - p ≤ k → UT μ T n → RW μ ws → 2 * ws.length ≤ p + 1 → (p < n → T p ≠ 32 → 2 * ws.length ≤ p) →
    ∃ x' μ', L183_7 240 N x μ = some (.inr (x', μ')) ∧ RW μ' (ws ++ tw T n k p) ∧ Frw μ μ'
  | k, 0, _, _, _, _, h, _, _, _, _, _, _, _ => absurd h (by omega)
  | 0, N + 1, μ, p, x, ws, hN, hx, hp, hk, h, hW, h1, h2 => by
    rw [L183_7, if_neg (by rw [h.1]; omega)]
    exact ⟨x, μ, rfl, by unfold tw; rw [List.append_nil]; exact hW, fun _ _ _ _ _ => rfl⟩
  | k + 1, N + 1, μ, p, x, ws, hN, hx, hp, hk, h, hW, h1, h2 => by
    have hn := h.2.1
    have hw := hW.1
    rw [L183_7, rf_8.1, rf_8.2.1, rf_8.2.2.1, rf_8.2.2.2.1, rf_8.2.2.2.2.1, rf_8.2.2.2.2.2.1]
    unfold tw
    by_cases hp1 : p < n
    · rw [if_pos (by rw [h.1]; omega), if_pos (by omega), if_pos hp1]
      have e : μ 242 x.toNat = T p := by rw [show x.toNat = p by omega]; exact h.2.2 p hp1
      by_cases h3 : T p = 32
      · rw [if_pos (by rw [e]; exact h3), if_pos h3, w32_id (by omega) (by omega)]
        exact L183_7_ok k N μ (p + 1) (x + 1) ws (by omega) (by omega) (by omega) (by omega) h hW (by omega) (fun _ _ => by omega)
      · have h4 := h2 hp1 h3
        have z := tw_w_le T n n p hp
        have z2 := tw_w_end T n n p (by omega) hp
        have z3 := (tw_w_pos T hp1 h3).1
        have z4 : 1 ≤ (tw_w T n n p).1.length := by rw [z3, List.length_cons]; omega
        have z5 := tw_w_g T n n p
        have z6 := tw_st T n k k (tw_w T n n p).2
        rw [if_neg (by rw [e]; exact h3), if_neg h3, if_pos (by omega)]
        have q := L183_42_ok (T := T) n am_fuel (am_up μ 247 (μ 240 16).toNat x) p x (by unfold am_fuel; omega) hx hp (by omega) (h.fr (am_up_c _ _ (by decide)) (fun i => am_up_c _ _ (by decide)))
        rw [q, am_op_some, am_lp_r]
        dsimp only
        generalize (tw_w T n n p).1 = l at *
        generalize (tw_w T n n p).2 = e2 at *
        have hc : am_up μ 247 (μ 240 16).toNat x 240 16 = (ws.length : Nat) := by rw [am_up_c _ _ (show (240 : Nat) ≠ 247 by decide)]; exact hw
        rw [if_pos (by rw [hc]; omega), if_pos (by rw [hc]; omega), am_up_c _ _ (show (240 : Nat) ≠ 248 by decide), hc, hw, am_up_at, w32_id (by omega) (by omega), w32_id (by omega) (by omega)]
        have hl : (ws ++ [l]).length = ws.length + 1 := by simp
        obtain ⟨x', μ', r1, r2, r3⟩ := L183_7_ok k N (am_up (am_up (am_up μ 247 ((ws.length : Nat) : Int).toNat x) 248 ((ws.length : Nat) : Int).toNat ((e2 : Int) - x)) 240 16 (((ws.length : Nat) : Int) + 1)) e2 (e2 : Int) (ws ++ [l]) (by omega) rfl z.2 (by omega)
          (h.fr (by rw [am_up_s _ _ (by decide), am_up_c _ _ (by decide), am_up_c _ _ (by decide)]) (fun i => by rw [am_up_c _ _ (by decide), am_up_c _ _ (by decide), am_up_c _ _ (by decide)]))
          ⟨by rw [am_up_at, hl]; omega, by rw [hl]; omega, fun j hj => by
            rw [hl] at hj
            rw [Int.toNat_natCast, getD_app]
            by_cases hj2 : j < ws.length
            · obtain ⟨p', y1, y2, y3⟩ := hW.2.2 j hj2
              have hj3 : j ≠ ws.length := by omega
              rw [if_pos hj2]
              refine ⟨p', ?_, ?_, y3.fr0 (fun i => by rw [am_up_c _ _ (by decide), am_up_c _ _ (by decide), am_up_c _ _ (by decide)])⟩
              · simp [am_up, hj3]; exact y1
              · simp [am_up, hj3]; rw [y2, List.getD_eq_getElem?_getD]
            · rw [if_neg hj2, if_pos (by omega), show j = ws.length by omega]
              refine ⟨p, ?_, ?_, Or.inr ⟨rfl, by omega, fun i hi => ?_⟩⟩
              · simp [am_up]; exact hx
              · simp [am_up]; omega
              · rw [am_up_c _ _ (by decide), am_up_c _ _ (by decide), am_up_c _ _ (by decide), h.2.2 _ (by omega)]
                exact (z5 i hi).symm⟩
          (by rw [hl]; omega) (fun hq hq2 => z2.elim (fun z2 => by omega) (fun z2 => absurd z2 hq2))
        refine ⟨x', μ', r1, by rw [List.append_assoc] at r2; exact r2, fun c t c1 c2 c3 => ?_⟩
        rw [r3 c t c1 c2 c3]
        by_cases hc : c = 240
        · rw [am_up_s _ _ (by omega), am_up_c _ _ c3, am_up_c _ _ c2]
        · rw [am_up_c _ _ hc, am_up_c _ _ c3, am_up_c _ _ c2]
    · rw [if_neg (by rw [h.1]; omega), if_neg hp1]
      exact ⟨x, μ, rfl, by rw [List.append_nil]; exact hW, fun _ _ _ _ _ => rfl⟩
theorem fn183_ok {T : Nat → Int} {n : Nat} {μ : am_M} (h : UT μ T n) : ∃ μ', fn183 240 μ = some (0, μ') ∧ RW μ' (tx_ws T n) ∧ Frw μ μ' := by
  have hn := h.2.1
  obtain ⟨x', μ', r1, r2, r3⟩ := L183_7_ok (T := T) (n := n) n am_fuel (am_up μ 240 16 0) 0 0 [] (by unfold am_fuel; omega) rfl (by omega) (by omega) (h.fr (am_up_s _ _ (by decide)) (fun i => am_up_c _ _ (by decide))) ⟨am_up_at _ _ _ _, Nat.zero_le _, fun k hk => absurd hk (by simp)⟩ (by simp) (fun _ _ => by simp)
  refine ⟨μ', ?_, r2, fun c t c1 c2 c3 => ?_⟩
  · unfold fn183
    rw [r1, am_op_some, am_lp_r]
  · rw [r3 c t c1 c2 c3]
    by_cases hc : c = 240
    · rw [am_up_s _ _ (by omega)]
    · rw [am_up_c _ _ hc]
