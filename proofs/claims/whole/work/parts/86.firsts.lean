/-! Rows by their keys: the first of each. -/
section FF
variable (key : Nat → List Int) (cnt : Nat → Bool)
def fF : Nat → List Nat
  | 0 => []
  | r + 1 => if (cnt r && !((fF r).any (fun f => decide (key f = key r)))) = true then fF r ++ [r] else fF r
def fI (r : Nat) : Nat := (fF key cnt r).findIdx (fun f => decide (key f = key r))
end FF
section FG
variable {key : Nat → List Int} {cnt : Nat → Bool}
theorem fF_s (r : Nat) : (cnt r = true ∧ (∀ f ∈ fF key cnt r, key f ≠ key r) ∧ fF key cnt (r + 1) = fF key cnt r ++ [r] ∧ fI key cnt r = (fF key cnt r).length) ∨ (cnt r = true ∧ fI key cnt r < (fF key cnt r).length ∧ fF key cnt (r + 1) = fF key cnt r) ∨ (cnt r = false ∧ fF key cnt (r + 1) = fF key cnt r) := by
  cases hc : cnt r with
  | false =>
    refine Or.inr (Or.inr ⟨rfl, ?_⟩)
    conv => lhs; unfold fF
    rw [hc]; rfl
  | true =>
    by_cases h : ∃ f ∈ fF key cnt r, key f = key r
    · refine Or.inr (Or.inl ⟨rfl, ?_, ?_⟩)
      · unfold fI
        rw [List.findIdx_lt_length]
        obtain ⟨f, h1, h2⟩ := h
        exact ⟨f, h1, decide_eq_true h2⟩
      · conv => lhs; unfold fF
        have : (fF key cnt r).any (fun f => decide (key f = key r)) = true := by
          rw [List.any_eq_true]
          obtain ⟨f, h1, h2⟩ := h
          exact ⟨f, h1, decide_eq_true h2⟩
        rw [hc, this]; rfl
    · have h' : ∀ f ∈ fF key cnt r, key f ≠ key r := fun f hf e => h ⟨f, hf, e⟩
      refine Or.inl ⟨rfl, h', ?_, ?_⟩
      · conv => lhs; unfold fF
        have : (fF key cnt r).any (fun f => decide (key f = key r)) = false := by
          rw [List.any_eq_false]
          exact fun f hf => by rw [decide_eq_false (h' f hf)]; decide
        rw [hc, this]; rfl
      · unfold fI
        exact List.findIdx_eq_length.mpr (fun f hf => decide_eq_false (h' f hf))
theorem fF_mem : ∀ r f, f ∈ fF key cnt r → f < r ∧ cnt f = true
  | 0, f, h => by unfold fF at h; cases h
  | r + 1, f, h => by
    rcases fF_s (key := key) (cnt := cnt) r with ⟨h1, h2, h3, h4⟩ | ⟨h1, h2, h3⟩ | ⟨h1, h3⟩
    · rw [h3] at h
      rcases List.mem_append.mp h with h | h
      · have := fF_mem r f h; exact ⟨by omega, this.2⟩
      · rw [List.mem_singleton.mp h]; exact ⟨by omega, h1⟩
    · rw [h3] at h; have := fF_mem r f h; exact ⟨by omega, this.2⟩
    · rw [h3] at h; have := fF_mem r f h; exact ⟨by omega, this.2⟩
theorem fF_len : ∀ r, (fF key cnt r).length ≤ r
  | 0 => by unfold fF; simp
  | r + 1 => by
    have := fF_len r
    rcases fF_s (key := key) (cnt := cnt) r with ⟨h1, h2, h3, h4⟩ | ⟨h1, h2, h3⟩ | ⟨h1, h3⟩
    · rw [h3]; simp; omega
    · rw [h3]; omega
    · rw [h3]; omega
theorem fF_inc : ∀ r, (fF key cnt r).Pairwise (· < ·)
  | 0 => by unfold fF; exact List.Pairwise.nil
  | r + 1 => by
    have ih := fF_inc r
    rcases fF_s (key := key) (cnt := cnt) r with ⟨h1, h2, h3, h4⟩ | ⟨h1, h2, h3⟩ | ⟨h1, h3⟩
    · rw [h3, List.pairwise_append]
      refine ⟨ih, List.pairwise_singleton _ _, fun a ha b hb => ?_⟩
      rw [List.mem_singleton.mp hb]
      exact (fF_mem r a ha).1
    · rw [h3]; exact ih
    · rw [h3]; exact ih
/-- a row keeps its number -/
theorem fI_st : ∀ r q, q < r → cnt q = true → (fF key cnt r).findIdx (fun f => decide (key f = key q)) = fI key cnt q ∧ fI key cnt q < (fF key cnt r).length
  | 0, q, h, _ => absurd h (by omega)
  | r + 1, q, h, hc => by
    by_cases hq : q = r
    · subst hq
      rcases fF_s (key := key) (cnt := cnt) q with ⟨h1, h2, h3, h4⟩ | ⟨h1, h2, h3⟩ | ⟨h1, h3⟩
      · rw [h3, h4, List.findIdx_append, List.length_append]
        have : ¬ (List.findIdx (fun f => decide (key f = key q)) (fF key cnt q) < (fF key cnt q).length) := by
          have : List.findIdx (fun f => decide (key f = key q)) (fF key cnt q) = (fF key cnt q).length := h4
          omega
        rw [if_neg this]
        simp
      · rw [h3]; exact ⟨rfl, h2⟩
      · rw [hc] at h1; cases h1
    · obtain ⟨i1, i2⟩ := fI_st r q (by omega) hc
      rcases fF_s (key := key) (cnt := cnt) r with ⟨h1, h2, h3, h4⟩ | ⟨h1, h2, h3⟩ | ⟨h1, h3⟩
      · rw [h3, List.findIdx_append, List.length_append, if_pos (by rw [i1]; exact i2)]
        exact ⟨i1, by omega⟩
      · rw [h3]; exact ⟨i1, i2⟩
      · rw [h3]; exact ⟨i1, i2⟩
/-- its number's first row has its key -/
theorem fI_key {r q : Nat} (h : q < r) (hc : cnt q = true) : key ((fF key cnt r).getD (fI key cnt q) 0) = key q := by
  obtain ⟨i1, i2⟩ := fI_st r q h hc
  have z := List.findIdx_getElem (p := fun f => decide (key f = key q)) (xs := fF key cnt r) (w := by rw [i1]; exact i2)
  have z2 := of_decide_eq_true z
  rw [List.getD_eq_getElem?_getD, List.getElem?_eq_getElem i2]
  simp only [i1] at z2
  exact z2
/-- the same number, the same key -/
theorem fI_eq {r q : Nat} (h : q < r) (hc : cnt q = true) (hk : key q = key r) : fI key cnt r = fI key cnt q := by
  obtain ⟨i1, i2⟩ := fI_st r q h hc
  rw [← i1]
  unfold fI
  rw [hk]
theorem fI_new {r : Nat} (h : ∀ q, q < r → cnt q = true → key q ≠ key r) : fI key cnt r = (fF key cnt r).length := by
  unfold fI
  refine List.findIdx_eq_length.mpr (fun f hf => decide_eq_false ?_)
  have := fF_mem r f hf
  exact h f this.1 this.2
theorem fF_next {r : Nat} (hc : cnt r = true) : fF key cnt (r + 1) = if fI key cnt r < (fF key cnt r).length then fF key cnt r else fF key cnt r ++ [r] := by
  rcases fF_s (key := key) (cnt := cnt) r with ⟨h1, h2, h3, h4⟩ | ⟨h1, h2, h3⟩ | ⟨h1, h3⟩
  · rw [h3, if_neg (by omega)]
  · rw [h3, if_pos h2]
  · rw [hc] at h1; cases h1
theorem fF_skip {r : Nat} (hc : cnt r = false) : fF key cnt (r + 1) = fF key cnt r := by
  rcases fF_s (key := key) (cnt := cnt) r with ⟨h1, h2, h3, h4⟩ | ⟨h1, h2, h3⟩ | ⟨h1, h3⟩
  · rw [hc] at h1; cases h1
  · rw [hc] at h1; cases h1
  · exact h3
end FG
