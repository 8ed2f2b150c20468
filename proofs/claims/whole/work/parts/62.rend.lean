/-! Reading the data: to the end. -/
theorem ps_step_wf {D : Nat → Int} {n : Nat} {s : PS} (h : s.2.2.2.2.2.1 = false) : (ps_step D n s).2.2.2.2.2.1 = false := by
  show (ps_sp D n (ps_fd D n s.1).2.1 (s.2.2.1 + 1) s.2.2.2.1 s.2.2.2.2.1 (s.2.2.2.2.2.1 && (ps_fd D n s.1).2.2)).2.2.2.2.1 = false
  rw [h, Bool.false_and]
  exact ps_sp_wf
theorem ps_run_wf {D : Nat → Int} {n : Nat} : ∀ (j : Nat) (s : PS), s.2.2.2.2.2.1 = false → (ps_run D n j s).2.2.2.2.2.1 = false
  | 0, _, h => h
  | j + 1, s, h => by
    unfold ps_run
    split
    · exact h
    · exact ps_run_wf j _ (ps_step_wf h)
theorem ps_run_ne {D : Nat → Int} {n : Nat} : ∀ (j : Nat) (s : PS), PI n s → (ps_run D n j s).2.2.2.2.2.2 = false → PI n (ps_run D n j s) ∧ (ps_run D n j s).2.1.length = s.2.1.length + j
  | 0, s, h, _ => ⟨h, rfl⟩
  | j + 1, s, h, he => by
    unfold ps_run at he ⊢
    by_cases h1 : s.2.2.2.2.2.2 = true
    · rw [if_pos h1] at he
      rw [h1] at he
      cases he
    · rw [if_neg h1] at he ⊢
      obtain ⟨h2, h3⟩ := h.step (D := D) (by simpa using h1)
      obtain ⟨h4, h5⟩ := ps_run_ne j _ h2 he
      exact ⟨h4, by rw [h5, h3]; omega⟩
theorem PI_0 (n : Nat) : PI n ps_0 := ⟨Nat.zero_le _, Nat.le_refl _, Nat.le_refl _, fun _ => Nat.le_refl _, Nat.zero_le _, Nat.le_refl _⟩
theorem ps_ended {D : Nat → Int} {n : Nat} (hn : n ≤ 400) : (ps_run D n 401 ps_0).2.2.2.2.2.2 = true := by
  cases h : (ps_run D n 401 ps_0).2.2.2.2.2.2 with
  | true => rfl
  | false =>
    obtain ⟨h1, h2⟩ := ps_run_ne 401 ps_0 (PI_0 n) h
    have h3 := h1.2.2.2.1 h
    have h4 := h1.1
    have h5 : ps_0.2.1.length = 0 := rfl
    omega
theorem ps_tot_step {D : Nat → Int} {n : Nat} {s : PS} (hp : PI n s) (h : ps_tot s.2.1 ≤ s.1) : ps_tot (ps_step D n s).2.1 ≤ (ps_step D n s).1 := by
  have hfd := ps_fd_le D hp.1
  show ps_tot (s.2.1 ++ [(ps_fd D n s.1).1]) ≤ (ps_sp D n (ps_fd D n s.1).2.1 (s.2.2.1 + 1) s.2.2.2.1 s.2.2.2.2.1 (s.2.2.2.2.2.1 && (ps_fd D n s.1).2.2)).1
  rw [ps_tot_app]
  unfold ps_sp
  split
  · dsimp only; omega
  · split
    · dsimp only; omega
    · split
      · dsimp only; omega
      · dsimp only; omega
theorem L181_26_ok {D : Nat → Int} {n : Nat} : ∀ (j N : Nat) (μ : am_M) (s : PS), j < N → RSrc μ D n → RI μ s → PI n s → ps_tot s.2.1 ≤ s.1 → s.2.2.2.2.2.1 = true → (ps_run D n j s).2.2.2.2.2.2 = true →
    ((ps_run D n j s).2.2.2.2.2.1 = false → ∃ μ', L181_26 240 N (s.1 : Nat) (s.2.2.1 : Nat) (if s.2.2.2.2.2.2 = true then 0 else 1) μ = some (.inl (0, μ')) ∧ Fr μ μ') ∧
    ((ps_run D n j s).2.2.2.2.2.1 = true → ∃ p k μ', L181_26 240 N (s.1 : Nat) (s.2.2.1 : Nat) (if s.2.2.2.2.2.2 = true then 0 else 1) μ = some (.inr (p, k, 0, μ')) ∧ RI μ' (ps_run D n j s) ∧ Fr μ μ')
  | j, 0, _, _, hN, _, _, _, _, _, _ => absurd hN (by omega)
  | j, N + 1, μ, s, hN, hS, hR, hP, hT, hw, he => by
    by_cases h1 : s.2.2.2.2.2.2 = true
    · have er : ps_run D n j s = s := by
        cases j with
        | zero => rfl
        | succ j => unfold ps_run; rw [if_pos h1]
      rw [er, if_pos h1, L181_26, if_pos rfl]
      exact ⟨(fun hz => by rw [hw] at hz; cases hz), fun _ => ⟨_, _, _, rfl, hR, fun _ _ _ _ => rfl⟩⟩
    · rw [if_neg h1]
      have h1' : s.2.2.2.2.2.2 = false := by simpa using h1
      cases j with
      | zero => rw [show ps_run D n 0 s = s from rfl, h1'] at he; cases he
      | succ j =>
        have er : ps_run D n (j + 1) s = ps_run D n j (ps_step D n s) := by
          rw [ps_run, if_neg h1]
        rw [er] at he ⊢
        obtain ⟨u1, u2⟩ := L181_26_s (N := N) hS hR hP hT hw h1'
        cases hw2 : (ps_step D n s).2.2.2.2.2.1 with
        | false =>
          obtain ⟨μ', r1, r2⟩ := u1 hw2
          rw [ps_run_wf j _ hw2]
          exact ⟨fun _ => ⟨μ', r1, r2⟩, (fun hz => by cases hz)⟩
        | true =>
          obtain ⟨μ1, r1, r2, r3⟩ := u2 hw2
          rw [r1]
          obtain ⟨v1, v2⟩ := L181_26_ok j N μ1 (ps_step D n s) (by omega) (hS.fr (r3 240 1 (by omega) (by omega)) (fun i => r3 241 i (by omega) (by omega))) r2 (hP.step h1').1 (ps_tot_step hP hT) hw2 he
          refine ⟨fun hz => ?_, fun hz => ?_⟩
          · obtain ⟨μ', w1, w2⟩ := v1 hz
            exact ⟨μ', w1, fun c t e1 e2 => by rw [w2 c t e1 e2, r3 c t e1 e2]⟩
          · obtain ⟨p, k, μ', w1, w2, w3⟩ := v2 hz
            exact ⟨p, k, μ', w1, w2, fun c t e1 e2 => by rw [w3 c t e1 e2, r3 c t e1 e2]⟩
