/-! The class's state and the reference's: what agrees between calls. -/
def am_R (μ : am_M) : Prop :=
  (μ 1 2 = μ 240 1 ∧ 0 ≤ μ 240 1 ∧ μ 240 1 ≤ 400 ∧ ∀ i : Nat, (i : Int) < μ 240 1 → μ 2 i = μ 241 i) ∧
  (μ 3 2 = μ 240 3 ∧ 0 ≤ μ 240 3 ∧ μ 240 3 ≤ 160 ∧ ∀ i : Nat, (i : Int) < μ 240 3 → μ 4 i = μ 242 i) ∧
  (μ 1 1 = 1 ∧ μ 3 1 = 0 ∧ μ 183 1 = 0) ∧
  (μ 234 1 = μ 240 5 ∧ μ 234 2 = μ 240 6 ∧ 20 ≤ μ 240 5 ∧ μ 240 5 ≤ 96 ∧ 18 ≤ μ 240 6 ∧ μ 240 6 ≤ 64) ∧
  (μ 0 11 = μ 240 49) ∧
  (μ 240 49 ≠ 0 → (∀ x y : Nat, (x : Int) < μ 240 5 → (y : Int) < μ 240 6 → μ 235 (96 * y + x) = μ 259 (96 * y + x)) ∧ (∀ i : Nat, i < 7 → μ 238 i = μ 260 i) ∧ μ 238 0 = μ 240 52 ∧ μ 240 52 ≤ 8 ∧ ∀ i : Nat, (i : Int) < μ 240 52 → μ 239 i = μ 261 i)
theorem am_refs : am_ref 0 0 = 1 ∧ am_ref 0 1 = 3 ∧ am_ref 0 7 = 234 ∧ am_ref 0 9 = 238 ∧ am_ref 0 10 = 239 ∧ am_ref 234 0 = 235 ∧ am_ref 240 50 = 259 ∧ am_ref 240 51 = 260 ∧ am_ref 240 53 = 261 ∧ am_ref 1 0 = 2 ∧ am_ref 3 0 = 4 ∧ am_ref 240 2 = 241 ∧ am_ref 240 4 = 242 := by decide +kernel
theorem r_wipe {μ : am_M} (h : am_R μ) (a : Int) : ∃ μ1 μ2, fn6 0 a μ = some (0, μ1) ∧ fn168 240 a μ1 = some (0, μ2) ∧ am_R μ2 := by
  obtain ⟨⟨a1, a2, a3, a4⟩, ⟨b1, b2, b3, b4⟩, ⟨c1, c2⟩, d, e1, f⟩ := h
  by_cases ha : a = 0
  · refine ⟨am_up μ 3 2 0, am_up (am_up (am_up μ 3 2 0) 240 0 0) 240 3 0, ?_, ?_, ?_⟩
    · unfold fn6 fn5; rw [if_pos ha, am_refs.2.1]; rfl
    · unfold fn168; rw [if_pos ha]
    · simp [am_R, am_up]
      exact ⟨⟨a1, a2, a3, a4⟩, by omega, ⟨c1, c2⟩, d, e1, f⟩
  · refine ⟨am_up μ 1 2 0, am_up (am_up (am_up μ 1 2 0) 240 0 0) 240 1 0, ?_, ?_, ?_⟩
    · unfold fn6 fn5; rw [if_neg ha, am_refs.1]; rfl
    · unfold fn168; rw [if_neg ha]
    · simp [am_R, am_up]
      exact ⟨by omega, ⟨b1, b2, b3, b4⟩, ⟨c1, c2⟩, d, e1, f⟩
