/-! The small calls: pixel, value. -/
theorem am_lens2 : 8 ≤ am_len 239 ∧ 8 ≤ am_len 261 := by decide +kernel
theorem r_value {μ : am_M} (h : am_R μ) (a : Int) : ∃ x μ2, fn47 0 a μ = some (x, μ) ∧ fn231 240 a μ = some (x, μ2) ∧ am_R μ2 := by
  have h0 := h
  obtain ⟨-, -, -, -, e1, f⟩ := h
  have k1 : (am_up μ 240 0 0) 240 49 = μ 240 49 := rfl
  have k2 : (am_up μ 240 0 0) 240 52 = μ 240 52 := rfl
  have k3 : (am_up μ 240 0 0) 261 a.toNat = μ 261 a.toNat := rfl
  obtain ⟨l1, l2⟩ := am_lens2
  by_cases hd : μ 240 49 = 0
  · exact ⟨0, _, by unfold fn47; rw [e1, if_pos hd], by unfold fn231; rw [k1, if_pos hd], h0.zero⟩
  · obtain ⟨-, -, f3, f4, f5⟩ := f hd
    have c1 : fn47 0 a μ = (if a < 0 then some (0, μ) else (if a < μ 240 52 then some (μ 239 a.toNat, μ) else some (0, μ))) := by
      unfold fn47
      rw [e1, am_refs.2.2.2.1, am_refs.2.2.2.2.1, am_lens.2.2.1, if_neg hd]
      simp only [o_cmp_lt, Int.toNat_zero, f3]
      repeat' split
      all_goals first | rfl | omega
    have c2 : fn231 240 a μ = (if a < 0 then some (0, am_up μ 240 0 0) else (if a < μ 240 52 then some (μ 261 a.toNat, am_up μ 240 0 0) else some (0, am_up μ 240 0 0))) := by
      unfold fn231
      rw [k1, k2, am_refs.2.2.2.2.2.2.2.2.1, k3, if_neg hd]
      repeat' split
      all_goals first | rfl | omega
    rw [c1, c2]
    by_cases n1 : a < 0
    · exact ⟨0, _, if_pos n1, if_pos n1, h0.zero⟩
    · by_cases n2 : a < μ 240 52
      · refine ⟨μ 239 a.toNat, _, by rw [if_neg n1, if_pos n2], by rw [if_neg n1, if_pos n2, f5 a.toNat (by omega)], h0.zero⟩
      · exact ⟨0, _, by rw [if_neg n1, if_neg n2], by rw [if_neg n1, if_neg n2], h0.zero⟩
theorem r_pixel {μ : am_M} (h : am_R μ) (a b : Int) : ∃ x μ2, fn11 0 a b μ = some (x, μ) ∧ fn228 240 a b μ = some (x, μ2) ∧ am_R μ2 := by
  have h0 := h
  obtain ⟨-, -, -, ⟨d1, d2, d3, d4, d5, d6⟩, e1, f⟩ := h
  have k1 : (am_up μ 240 0 0) 240 49 = μ 240 49 := rfl
  have k2 : (am_up μ 240 0 0) 240 5 = μ 240 5 := rfl
  have k3 : (am_up μ 240 0 0) 240 6 = μ 240 6 := rfl
  by_cases hd : μ 240 49 = 0
  · exact ⟨-1, _, by unfold fn11; rw [e1, if_pos hd], by unfold fn228; rw [k1, if_pos hd], h0.zero⟩
  · obtain ⟨f1, -⟩ := f hd
    by_cases hg : (0 ≤ a ∧ a < μ 240 5) ∧ (0 ≤ b ∧ b < μ 240 6)
    · obtain ⟨⟨g1, g2⟩, g3, g4⟩ := hg
      have w1 : w32 (w32 (b * 96) + a) = 96 * b + a := by rw [w32_id (x := b * 96) (by omega) (by omega), w32_id (by omega) (by omega)]; omega
      have w2 : w32 (w32 (96 * b) + a) = 96 * b + a := by rw [w32_id (x := 96 * b) (by omega) (by omega), w32_id (by omega) (by omega)]
      have z9 : fn9 234 a b μ = some (1, μ) := by
        unfold fn9
        rw [d1, d2]
        repeat' split
        all_goals first | rfl | omega
      refine ⟨μ 235 (96 * b + a).toNat, am_up μ 240 0 0, ?_, ?_, h0.zero⟩
      · have z10 : fn10 234 a b μ = some (μ 235 (96 * b + a).toNat, μ) := by
          unfold fn10
          rw [z9]
          dsimp only [am_op]
          rw [if_neg (by decide), w1, am_refs.2.2.2.2.2.1, am_lens.1, if_pos (by omega)]
        unfold fn11
        rw [e1, if_neg hd, am_refs.2.2.1, z9]
        dsimp only [am_op]
        rw [if_neg (by decide), z10]
      · unfold fn228
        have z : (am_up μ 240 0 0) 259 (96 * b + a).toNat = μ 235 (96 * b + a).toNat := by
          have y := f1 a.toNat b.toNat (by omega) (by omega)
          rw [show 96 * b.toNat + a.toNat = (96 * b + a).toNat from by omega] at y
          exact y.symm
        rw [k1, k2, k3, if_neg hd, w2, am_refs.2.2.2.2.2.2.1, am_lens.2.1, z]
        repeat' split
        all_goals first | rfl | omega
    · have z9 : fn9 234 a b μ = some (0, μ) := by
        unfold fn9
        rw [d1, d2]
        repeat' split
        all_goals first | rfl | omega
      refine ⟨-1, am_up μ 240 0 0, ?_, ?_, h0.zero⟩
      · unfold fn11
        rw [e1, if_neg hd, am_refs.2.2.1, z9]
        rfl
      · unfold fn228
        rw [k1, k2, k3, if_neg hd]
        repeat' split
        all_goals first | rfl | omega
