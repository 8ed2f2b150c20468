/-! The small calls: canvas, pixel, figure, value. -/
theorem am_R.zero {μ : am_M} (h : am_R μ) : am_R (am_up μ 240 0 0) := by
  simp [am_R, am_up]
  simpa [am_R] using h
theorem am_lens : am_len 235 = 6144 ∧ am_len 259 = 6144 ∧ am_len 238 = 7 ∧ am_len 260 = 7 := by decide +kernel
theorem r_canvas {μ : am_M} (h : am_R μ) (a b : Int) : ∃ x μ1 μ2, fn8 0 a b μ = some (x, μ1) ∧ fn169 240 a b μ1 = some (x, μ2) ∧ am_R μ2 := by
  by_cases hg : (a < 20 ∨ 96 < a) ∨ (b < 18 ∨ 64 < b)
  · refine ⟨0, μ, am_up μ 240 0 0, ?_, ?_, h.zero⟩
    · have z : fn7 (am_ref 0 7) a b μ = some (0, μ) := by
        unfold fn7
        repeat' split
        all_goals first | rfl | omega
      unfold fn8
      rw [z]
      rfl
    · unfold fn169
      repeat' split
      all_goals first | rfl | omega
  · refine ⟨1, am_up (am_up (am_up μ 234 1 a) 234 2 b) 0 11 0, am_up (am_up (am_up (am_up (am_up (am_up (am_up μ 234 1 a) 234 2 b) 0 11 0) 240 0 0) 240 5 a) 240 6 b) 240 49 0, ?_, ?_, ?_⟩
    · have z : fn7 (am_ref 0 7) a b μ = some (1, am_up (am_up μ 234 1 a) 234 2 b) := by
        unfold fn7
        rw [am_refs.2.2.1]
        repeat' split
        all_goals first | rfl | omega
      unfold fn8
      rw [z]
      rfl
    · unfold fn169
      repeat' split
      all_goals first | rfl | omega
    · obtain ⟨a1, b1, c1, d, e1, f⟩ := h
      simp [am_R, am_up]
      exact ⟨a1, b1, c1, by omega⟩
theorem r_figure {μ : am_M} (h : am_R μ) (a : Int) : ∃ x μ2, fn12 0 a μ = some (x, μ) ∧ fn229 240 a μ = some (x, μ2) ∧ am_R μ2 := by
  have h0 := h
  obtain ⟨-, -, -, -, e1, f⟩ := h
  have k1 : (am_up μ 240 0 0) 240 49 = μ 240 49 := rfl
  by_cases hd : μ 240 49 = 0
  · refine ⟨-1, _, by unfold fn12; rw [e1, if_pos hd], by unfold fn229; rw [k1, if_pos hd], h0.zero⟩
  · by_cases hg : 0 ≤ a ∧ a < 7
    · obtain ⟨-, f2, -⟩ := f hd
      refine ⟨μ 238 a.toNat, am_up μ 240 0 0, ?_, ?_, h0.zero⟩
      · unfold fn12
        rw [e1, am_refs.2.2.2.1, am_lens.2.2.1, if_neg hd]
        repeat' split
        all_goals first | rfl | omega
      · unfold fn229
        rw [k1, am_refs.2.2.2.2.2.2.2.1, am_lens.2.2.2, if_neg hd]
        have z : (am_up μ 240 0 0) 260 a.toNat = μ 238 a.toNat := (f2 a.toNat (by omega)).symm
        rw [z]
        repeat' split
        all_goals first | rfl | omega
    · refine ⟨-1, am_up μ 240 0 0, ?_, ?_, h0.zero⟩
      · unfold fn12
        rw [e1, am_refs.2.2.2.1, am_lens.2.2.1, if_neg hd]
        repeat' split
        all_goals first | rfl | omega
      · unfold fn229
        rw [k1, if_neg hd]
        repeat' split
        all_goals first | rfl | omega
