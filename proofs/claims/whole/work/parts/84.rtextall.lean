/-! readText, all of it. -/
theorem fn191_ok {fs : List (List Int)} {cols recs : Nat} {ty : Nat → Int} {T : Nat → Int} {n : Nat} {μ : am_M} (hS : UT μ T n) (hT : ∀ i, i < n → 0 ≤ T i ∧ T i ≤ 65535) (hC : RT μ fs cols recs) (hY : ∀ c, c < cols → μ 246 c = ty c) (ht : ∀ c, c < cols → ty c = 1 ∨ ty c = 2 ∨ ty c = 3) :
    ∃ μ', (∀ c t, ¬ (c = 240 ∧ (t = 16 ∨ (19 ≤ t ∧ t ≤ 30))) → ¬ (247 ≤ c ∧ c ≤ 251) → μ' c t = μ c t) ∧ ((∃ h s, q_good fs cols ty (tx_ws T n) h s ∧ fn191 240 μ = some (1, μ') ∧ Rfin cols μ' (tx_ws T n) h s) ∨ ((∀ h s, ¬ q_good fs cols ty (tx_ws T n) h s) ∧ fn191 240 μ = some (0, μ'))) := by
  have hm := tx_mem hS.2.1 hT
  obtain ⟨μ1, e1, hW, f1⟩ := fn183_ok hS
  generalize tx_ws T n = ws at *
  have g2 : ∃ μ2, μ2 = am_up (am_up (am_up (am_up (am_up μ1 240 19 0) 240 24 0) 240 28 0) 240 29 (-1)) 240 30 0 ∧ μ2 240 19 = 0 ∧ μ2 240 24 = 0 ∧ μ2 240 28 = 0 ∧ μ2 240 29 = -1 ∧ μ2 240 30 = 0 ∧ ∀ c t, ¬ (c = 240 ∧ 19 ≤ t ∧ t ≤ 30) → μ2 c t = μ1 c t := by
    refine ⟨_, rfl, ?_, ?_, ?_, ?_, ?_, fun c t hct => ?_⟩
    · simp [am_up]
    · simp [am_up]
    · simp [am_up]
    · simp [am_up]
    · simp [am_up]
    · by_cases hc : c = 240
      · rw [am_up_s _ _ (by omega), am_up_s _ _ (by omega), am_up_s _ _ (by omega), am_up_s _ _ (by omega), am_up_s _ _ (by omega)]
      · rw [am_up_c _ _ hc, am_up_c _ _ hc, am_up_c _ _ hc, am_up_c _ _ hc, am_up_c _ _ hc]
  obtain ⟨μ2, em, a19, a24, a28, a29, a30, f2⟩ := g2
  have F2 : ∀ c t, ¬ (c = 240 ∧ (t = 16 ∨ (19 ≤ t ∧ t ≤ 30))) → ¬ (247 ≤ c ∧ c ≤ 251) → μ2 c t = μ c t := fun c t c1 c2 => by rw [f2 c t (by omega), f1 c t (by omega) (by omega) (by omega)]
  have q : Rs fs cols recs ty μ2 ws ws ([], 0, -1, 0) := ⟨⟨hW.fr (f2 _ _ (by omega)) (fun c t hc => f2 c t (by omega)), fun w hw => (hm w hw).2.2, 0, by omega, a19, rfl⟩, hC.fw (F2 _ _ (by omega) (by omega)) (F2 _ _ (by omega) (by omega)) (fun c t hc => F2 c t (by omega) (by omega)), fun c hc => by rw [F2 _ _ (by omega) (by omega)]; exact hY c hc, a24, by simp, fun j hj => absurd hj (by simp), a28, a29, a30⟩
  have h80 : ws.length ≤ 80 := hW.2.1
  have hcr : ∀ w ∈ ws, Cr w := fun w hw => (hm w hw).2.1
  have fin : ∀ (μ3 : am_M) (v : Int), F19 μ2 μ3 → Rs fs cols recs ty μ3 ws ws.tail ([], 0, -1, 0) → -1 ≤ v → v = q_mk (hdW ws) → ∃ μ', (∀ c t, ¬ (c = 240 ∧ (t = 16 ∨ (19 ≤ t ∧ t ≤ 30))) → ¬ (247 ≤ c ∧ c ≤ 251) → μ' c t = μ c t) ∧ ((∃ h s, q_good fs cols ty ws h s ∧ mT v μ3 = some (1, μ') ∧ Rfin cols μ' ws h s) ∨ ((∀ h s, ¬ q_good fs cols ty ws h s) ∧ mT v μ3 = some (0, μ'))) := by
    intro μ3 v f3 q3 hv ev
    obtain ⟨μ', y1, y2⟩ := mT_ok q3 ht hcr (by rw [List.length_tail]; omega) hv
    have ehh : q_h1 fs cols ty v ws.tail = q_hh fs cols ty ws := by
      unfold q_h1 q_hh; rw [ev]; rfl
    rw [ehh] at y2
    refine ⟨μ', fun c t c1 c2 => by rw [y1 c t (by omega) (by omega), f3 c t (by omega), F2 c t c1 c2], ?_⟩
    rcases y2 with ⟨p, s, z1, z2, z3, z4, z5⟩ | ⟨z1, z2⟩
    · exact Or.inl ⟨p.2, s, ⟨by unfold q_all; rw [z1]; dsimp only; rw [z2], z3⟩, z4, z5⟩
    · refine Or.inr ⟨fun h s z => ?_, z2⟩
      have w1 := z.1
      unfold q_all at w1
      cases hq : q_hh fs cols ty ws with
      | none => rw [hq] at w1; cases w1
      | some p =>
        rw [hq] at w1
        dsimp only at w1
        cases hr : q_run fs cols p.1.length p.1 ([], 0, -1, 0) with
        | none => rw [hr] at w1; cases w1
        | some s' =>
          rw [hr] at w1
          injection w1 with w1
          injection w1 with w1 w2
          subst w2
          subst w1
          exact z1 p s' hq hr z.2
  obtain ⟨v2, v3, v4, -⟩ := pk_v
  obtain ⟨w2, w3, w4, -⟩ := pk_l
  have T2 := q.takes (t := 2) (by decide) (by decide) (P := 6447474) (n := 3) v2.symm (by rw [w2]; rfl)
  have T3 := q.takes (t := 3) (by decide) (by decide) (P := 1818848869) (n := 4) v3.symm (by rw [w3]; rfl)
  have T4 := q.takes (t := 4) (by decide) (by decide) (P := 482905517684) (n := 5) v4.symm (by rw [w4]; rfl)
  unfold fn191
  rw [e1, am_op_some]
  dsimp only
  rw [← em]
  by_cases c2 : hdW ws = lit 2
  · obtain ⟨μ3, p1, p2, p3⟩ := T2.1 c2
    rw [p1, am_op_some]
    dsimp only
    rw [if_neg (show ¬ ((1 : Int) = 0) by decide)]
    exact fin μ3 0 p3 p2 (by decide) (by unfold q_mk; rw [if_pos c2])
  · rw [T2.2 c2, am_op_some]
    dsimp only
    rw [if_pos (show (0 : Int) = 0 from rfl)]
    by_cases c3 : hdW ws = lit 3
    · obtain ⟨μ3, p1, p2, p3⟩ := T3.1 c3
      rw [p1, am_op_some]
      dsimp only
      rw [if_neg (show ¬ ((1 : Int) = 0) by decide)]
      exact fin μ3 1 p3 p2 (by decide) (by unfold q_mk; rw [if_neg c2, if_pos c3])
    · rw [T3.2 c3, am_op_some]
      dsimp only
      rw [if_pos (show (0 : Int) = 0 from rfl)]
      by_cases c4 : hdW ws = lit 4
      · obtain ⟨μ3, p1, p2, p3⟩ := T4.1 c4
        rw [p1, am_op_some]
        dsimp only
        rw [if_neg (show ¬ ((1 : Int) = 0) by decide)]
        exact fin μ3 2 p3 p2 (by decide) (by unfold q_mk; rw [if_neg c2, if_neg c3, if_pos c4])
      · rw [T4.2 c4, am_op_some]
        dsimp only
        rw [if_pos (show (0 : Int) = 0 from rfl)]
        have e : q_mk (hdW ws) = -1 := by unfold q_mk; rw [if_neg c2, if_neg c3, if_neg c4]
        rw [if_pos (by rw [am_up_at]; decide)]
        refine ⟨_, ?_, Or.inr ⟨fun h s z => ?_, rfl⟩⟩
        · intro c t d1 d2
          rw [← F2 c t d1 d2]
          by_cases h9 : c = 240
          · exact am_up_s _ _ (by omega)
          · exact am_up_c _ _ h9
        · have := z.1; unfold q_all q_hh at this; rw [if_pos e] at this; cases this
