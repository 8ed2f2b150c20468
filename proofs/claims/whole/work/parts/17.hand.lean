/-! String.checkIndex(II)V: a static of which only 'a reference or null' is said is handed on: by hand. -/
def fn57 (a b : Int) (μ : am_M) : Option (Int × am_M) := if 0 ≤ a ∧ a < b then some (0, μ) else none
def sp57 : am_F := fun vs μ => am_aI vs fun a vs => am_aI vs fun b vs => am_a0 vs (fn57 a b μ)
theorem e57 (a b : Int) (μ : am_M) : sp57 [.inl a, .inl b] μ = fn57 a b μ := by simp only [sp57, am_aI_c, am_a0_c]
theorem rg57 : am_rcg 57 = 0 := by decide +kernel
theorem sd57 : am_Sd 57 sp57 := sorry
