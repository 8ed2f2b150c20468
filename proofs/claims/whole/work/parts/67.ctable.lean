/-! The table as the class holds it. -/
theorem ix_inj {a b m c c' : Nat} (h : a * m + c = b * m + c') (h1 : c < m) (h2 : c' < m) : a = b ∧ c = c' := by
  have e1 : (a * m + c) % m = c := by rw [Nat.add_comm, Nat.add_mul_mod_self_right, Nat.mod_eq_of_lt h1]
  have e2 : (b * m + c') % m = c' := by rw [Nat.add_comm, Nat.add_mul_mod_self_right, Nat.mod_eq_of_lt h2]
  have ec : c = c' := by rw [← e1, ← e2, h]
  subst ec
  refine ⟨Nat.eq_of_mul_eq_mul_right (show 0 < m by omega) (by omega), rfl⟩
theorem CT.fr {μ μ' : am_M} {fs : List (List Int)} {cols recs : Nat} (h : CT μ fs cols recs) (hf : ∀ c t, c ≠ 139 → c ≠ 140 → μ' c t = μ c t) : CT μ' fs cols recs := by
  obtain ⟨h1, h2, h3, h4, h5, h6, h7, h8, h9⟩ := h
  refine ⟨by rw [hf 5 5 (by omega) (by omega)]; exact h1, by rw [hf 5 6 (by omega) (by omega)]; exact h2, h3, h4, h5, h6, h7, h8, fun f hf1 => ?_⟩
  have e2 : recs * cols ≤ 13 * 5 := Nat.mul_le_mul h6 h4
  exact (h9 f hf1).fr (hf _ _ (by omega) (by omega)) (fun i => hf _ _ (by omega) (by omega))
theorem L41_ok {fs : List (List Int)} {cols recs c : Nat} (hc : c < cols) : ∀ (k N r : Nat) (μ : am_M) (x : Int), k < N → x = r → r + k + 1 = recs → CT μ fs cols recs → μ 140 c = sp_ty fs cols recs c →
    ∃ x' μ', L41_2 5 (c : Int) N x μ = some (.inr (x', μ')) ∧ (∀ j, r ≤ j → j + 1 < recs → μ' 139 ((j + 1) * cols + c) = sp_wo (sp_ty fs cols recs c) (sp_c fs cols c j)) ∧ (∀ q t, q ≠ 139 → μ' q t = μ q t) ∧ (∀ t, (∀ j, r ≤ j → j + 1 < recs → t ≠ (j + 1) * cols + c) → μ' 139 t = μ 139 t)
  | k, 0, _, _, _, hN, _, _, _, _ => absurd hN (by omega)
  | 0, N + 1, r, μ, x, hN, hx, hk, h, ht => by
    have h4 := h.2.2.2.2.2.1
    rw [L41_2]
    unfold fn26
    rw [am_op_some, h.2.1, w32_id (by omega) (by omega)]
    dsimp only
    rw [if_neg (by omega)]
    exact ⟨x, μ, rfl, fun j h1 h2 => by omega, fun _ _ _ => rfl, fun _ _ => rfl⟩
  | k + 1, N + 1, r, μ, x, hN, hx, hk, h, ht => by
    have h4 := h.2.2.2.2.2.1
    have h2 := h.2.2.2.1
    obtain ⟨i1, i2, i3⟩ := h.idx (r := r + 1) (by omega) hc
    obtain ⟨l1, l2, l3, l4, l5⟩ := h.lt i1
    obtain ⟨t1, t2⟩ := sp_ty_in fs cols recs c
    subst hx
    rw [L41_2]
    unfold fn26
    rw [am_op_some, h.2.1, w32_id (by omega) (by omega)]
    dsimp only
    rw [if_pos (by omega), fn27_ok h (r := r + 1) (by omega) hc (by omega) rfl, am_op_some, rf_1.2.2.1, rf_1.2.2.2.2.1, rf_1.2.2.2.2.2.2.2.1, rf_1.2.2.2.2.2.2.2.2.1, rf_1.2.2.2.2.2.2.2.2.2.1, rf_1.2.2.2.2.2.2.2.2.2.2]
    dsimp only
    rw [if_neg (by omega), if_pos (by omega), if_pos (by omega), Int.toNat_natCast, Int.toNat_natCast, (rf_2 _ i2).1, ht, fn40_ok l1 l2 l3 l4 (by omega) t1 (fun e h0 => (t2 r (by omega) h0).1 e) (fun e h0 => (t2 r (by omega) h0).2 e), am_op_some]
    dsimp only
    rw [if_pos (by omega), w32_id (by omega) (by omega)]
    obtain ⟨x', μ', q1, q2, q3, q4⟩ := L41_ok hc k N (r + 1) (am_up μ 139 ((r + 1) * cols + c) (sp_wo (sp_ty fs cols recs c) (fs.getD ((r + 1) * cols + c) []))) ((r : Int) + 1) (by omega) (by omega) (by omega) (h.fr (fun q t e1 e2 => am_up_c _ _ e1)) (by rw [am_up_c _ _ (by decide)]; exact ht)
    refine ⟨x', μ', q1, fun j e1 e2 => ?_, fun q t e => ?_, fun t e => ?_⟩
    · by_cases hj : j = r
      · subst hj
        rw [q4 _ (fun j' e3 e4 e5 => by
          have z := (ix_inj e5 hc hc).1
          omega), am_up_at]
        rfl
      · exact q2 j (by omega) e2
    · rw [q3 q t e, am_up_c _ _ e]
    · rw [q4 t (fun j e1 e2 => e j (by omega) e2), am_up_s _ _ (e r (by omega) (by omega))]
/-- types and worths -/
def CW (μ : am_M) (fs : List (List Int)) (cols recs m : Nat) : Prop := ∀ c, c < m → μ 140 c = sp_ty fs cols recs c ∧ ∀ j, j + 1 < recs → μ 139 ((j + 1) * cols + c) = sp_wo (sp_ty fs cols recs c) (sp_c fs cols c j)
theorem L42_85_ok {fs : List (List Int)} {cols recs : Nat} : ∀ (k N m : Nat) (μ : am_M) (x : Int), k < N → x = m → m + k = cols → CT μ fs cols recs → CW μ fs cols recs m →
    ∃ x' μ', L42_85 5 N x μ = some (.inr (x', μ')) ∧ CT μ' fs cols recs ∧ CW μ' fs cols recs cols ∧ (∀ q t, q ≠ 139 → q ≠ 140 → μ' q t = μ q t)
  | k, 0, _, _, _, hN, _, _, _, _ => absurd hN (by omega)
  | 0, N + 1, m, μ, x, hN, hx, hk, h, hw => by
    rw [L42_85, if_neg (by rw [h.1]; omega)]
    exact ⟨x, μ, rfl, h, by rw [show cols = m by omega]; exact (show m = cols by omega) ▸ hw, fun _ _ _ _ => rfl⟩
  | k + 1, N + 1, m, μ, x, hN, hx, hk, h, hw => by
    have h3 := h.2.2.2.2.1
    have h4 := h.2.2.2.2.2.1
    have h2 := h.2.2.2.1
    subst hx
    rw [L42_85, if_pos (by rw [h.1]; omega), fn37_ok h (c := m) (by omega) rfl, am_op_some, rf_1.2.2.2.2.2.2.2.2.1, rf_1.2.2.2.2.2.2.2.2.2.2]
    dsimp only
    rw [if_pos (by omega), Int.toNat_natCast]
    unfold fn41
    obtain ⟨x1, μ1, q1, q2, q3, q4⟩ := L41_ok (c := m) (by omega) (recs - 1) am_fuel 0 (am_up μ 140 m (sp_ty fs cols recs m)) 0 (by unfold am_fuel; omega) rfl (by omega) (h.fr (fun q t e1 e2 => am_up_c _ _ e2)) (am_up_at _ _ _ _)
    rw [q1, am_op_some, am_lp_r, am_op_some]
    dsimp only
    rw [w32_id (by omega) (by omega)]
    have hC1 : CT μ1 fs cols recs := h.fr (fun q t e1 e2 => by rw [q3 q t e1, am_up_c _ _ e2])
    obtain ⟨x', μ', r1, r2, r3, r4⟩ := L42_85_ok k N (m + 1) μ1 ((m : Int) + 1) (by omega) (by omega) (by omega) hC1 (fun c hcm => by
      by_cases hm : c = m
      · subst hm
        exact ⟨by rw [q3 140 c (by decide), am_up_at], fun j hj => q2 j (by omega) hj⟩
      · obtain ⟨w1, w2⟩ := hw c (by omega)
        refine ⟨by rw [q3 140 c (by decide), am_up_s _ _ hm]; exact w1, fun j hj => ?_⟩
        rw [q4 _ (fun j' e1 e2 e3 => hm (ix_inj e3 (by omega) (by omega)).2), am_up_c _ _ (by decide)]
        exact w2 j hj)
    exact ⟨x', μ', r1, r2, r3, fun q t e1 e2 => by rw [r4 q t e1 e2, q3 q t e1, am_up_c _ _ e2]⟩
/-- the shape of well-formed data -/
def WI (s : PS) : Prop := s.2.2.2.2.2.1 = true → s.2.1.length = s.2.2.2.2.1 * s.2.2.2.1 + s.2.2.1 ∧ (s.2.2.2.2.2.2 = true → s.2.2.1 = 0 ∧ 1 ≤ s.2.2.2.2.1) ∧ (1 ≤ s.2.2.2.2.1 → 1 ≤ s.2.2.2.1)
theorem WI.step {D : Nat → Int} {n : Nat} {s : PS} (h : WI s) (he : s.2.2.2.2.2.2 = false) : WI (ps_step D n s) := by
  intro hw
  have hw' : (ps_sp D n (ps_fd D n s.1).2.1 (s.2.2.1 + 1) s.2.2.2.1 s.2.2.2.2.1 (s.2.2.2.2.2.1 && (ps_fd D n s.1).2.2)).2.2.2.2.1 = true := hw
  have hws : s.2.2.2.2.2.1 = true := by
    cases hx : s.2.2.2.2.2.1 with
    | true => rfl
    | false => rw [hx, Bool.false_and, ps_sp_wf] at hw'; cases hw'
  obtain ⟨w1, -, w3⟩ := h hws
  show (s.2.1 ++ [(ps_fd D n s.1).1]).length = _ ∧ _
  rw [List.length_append, List.length_singleton]
  unfold ps_step
  unfold ps_sp at hw' ⊢
  have cl : ∀ wf : Bool, (wf && decide (s.2.2.1 + 1 = ps_cl s.2.2.2.2.1 (s.2.2.1 + 1) s.2.2.2.1)) = true → s.2.1.length + 1 = (s.2.2.2.2.1 + 1) * ps_cl s.2.2.2.2.1 (s.2.2.1 + 1) s.2.2.2.1 + 0 ∧ 1 ≤ ps_cl s.2.2.2.2.1 (s.2.2.1 + 1) s.2.2.2.1 := by
    intro wf hz
    rw [Bool.and_eq_true, decide_eq_true_eq] at hz
    rw [Nat.add_mul, Nat.one_mul, ← hz.2]
    unfold ps_cl at hz
    by_cases h0 : s.2.2.2.2.1 = 0
    · rw [h0, Nat.zero_mul] at w1 ⊢
      omega
    · rw [if_neg h0] at hz
      rw [hz.2, w1]
      omega
  split at hw'
  · rename_i hA
    rw [if_pos hA]
    obtain ⟨c1, c2⟩ := cl _ hw'
    exact ⟨c1, fun _ => ⟨rfl, by show 1 ≤ s.2.2.2.2.1 + 1; omega⟩, fun _ => c2⟩
  · rename_i hA
    rw [if_neg hA]
    split at hw'
    · rename_i hB
      rw [if_pos hB]
      refine ⟨by show s.2.1.length + 1 = s.2.2.2.2.1 * s.2.2.2.1 + (s.2.2.1 + 1); omega, (fun z => by cases z), w3⟩
    · rename_i hB
      rw [if_neg hB]
      split at hw'
      · rename_i hC
        rw [if_pos hC]
        obtain ⟨c1, c2⟩ := cl _ hw'
        exact ⟨c1, fun _ => ⟨rfl, by show 1 ≤ s.2.2.2.2.1 + 1; omega⟩, fun _ => c2⟩
      · cases hw'
theorem WI.run {D : Nat → Int} {n : Nat} : ∀ (j : Nat) (s : PS), WI s → WI (ps_run D n j s)
  | 0, _, h => h
  | j + 1, s, h => by
    unfold ps_run
    by_cases h1 : s.2.2.2.2.2.2 = true
    · rw [if_pos h1]; exact h
    · rw [if_neg h1]
      exact WI.run j _ (h.step (by simpa using h1))
theorem WI_0 : WI ps_0 := fun _ => ⟨rfl, (fun z => by cases z), (fun z => absurd z (by decide))⟩
/-- characters stay characters -/
def FC (s : PS) : Prop := ∀ l ∈ s.2.1, Cr l
theorem Cr_cons {x : Int} {l : List Int} (h : 0 ≤ x ∧ x ≤ 65535) (hl : Cr l) : Cr (x :: l) := fun i => by
  cases i with
  | zero => exact h
  | succ i => exact hl i
theorem Cr_nil : Cr [] := fun i => by simp
theorem ps_pl_cr {D : Nat → Int} {n : Nat} (hD : ∀ i, i < n → 0 ≤ D i ∧ D i ≤ 65535) : ∀ k q, Cr (ps_pl D n k q).1
  | 0, _ => Cr_nil
  | k + 1, q => by
    unfold ps_pl
    split
    · split
      · exact Cr_nil
      · exact Cr_cons (hD q (by assumption)) (ps_pl_cr hD k (q + 1))
    · exact Cr_nil
theorem ps_qu_cr {D : Nat → Int} {n : Nat} (hD : ∀ i, i < n → 0 ≤ D i ∧ D i ≤ 65535) : ∀ k q, Cr (ps_qu D n k q).1
  | 0, _ => Cr_nil
  | k + 1, q => by
    unfold ps_qu
    split
    · split
      · split
        · exact Cr_cons (by omega) (ps_qu_cr hD k (q + 2))
        · exact Cr_nil
      · exact Cr_cons (hD q (by assumption)) (ps_qu_cr hD k (q + 1))
    · exact Cr_nil
theorem FC.run {D : Nat → Int} {n : Nat} (hD : ∀ i, i < n → 0 ≤ D i ∧ D i ≤ 65535) : ∀ (j : Nat) (s : PS), FC s → FC (ps_run D n j s)
  | 0, _, h => h
  | j + 1, s, h => by
    unfold ps_run
    split
    · exact h
    · refine FC.run hD j _ (fun l hl => ?_)
      have hl : l ∈ s.2.1 ++ [(ps_fd D n s.1).1] := hl
      rcases List.mem_append.mp hl with h1 | h1
      · exact h l h1
      · rw [List.mem_singleton.mp h1]
        unfold ps_fd
        split
        · exact ps_qu_cr hD _ _
        · exact ps_pl_cr hD _ _
/-- what data come to -/
def ps_D (D : Nat → Int) (n : Nat) : PS := ps_run D n 401 ps_0
def ps_in (s : PS) : Bool := ps_al s.2.1 && decide (s.2.2.2.1 ≤ 5) && decide (s.2.2.2.2.1 ≤ 13)
/-- Table.read -/
theorem fn42_ok {D : Nat → Int} {n : Nat} {μ : am_M} (hS : Src μ D n) : ∃ μ', fn42 5 1 μ = some (0, μ') ∧ μ' 5 10 = bI (ps_D D n).2.2.2.2.2.1 ∧ μ' 5 11 = bI ((ps_D D n).2.2.2.2.2.1 && ps_in (ps_D D n)) ∧ (((ps_D D n).2.2.2.2.2.1 && ps_in (ps_D D n)) = true → CT μ' (ps_D D n).2.1 (ps_D D n).2.2.2.1 (ps_D D n).2.2.2.2.1 ∧ CW μ' (ps_D D n).2.1 (ps_D D n).2.2.2.1 (ps_D D n).2.2.2.2.1 (ps_D D n).2.2.2.1) ∧ ∀ c t, ¬ (5 ≤ c ∧ c ≤ 140) → μ' c t = μ c t := by
  have hn := hS.2.1
  unfold fn42 fn13
  rw [am_op_some]
  dsimp only
  generalize hμ0 : am_up (am_up (am_up (am_up (am_up (am_up (am_up (am_up μ 5 4 0) 5 5 0) 5 6 0) 5 7 0) 5 8 0) 5 9 0) 5 10 1) 5 11 1 = μ0
  have f0 : ∀ c t, c ≠ 5 → μ0 c t = μ c t := fun c t h => by
    rw [← hμ0, am_up_c _ _ h, am_up_c _ _ h, am_up_c _ _ h, am_up_c _ _ h, am_up_c _ _ h, am_up_c _ _ h, am_up_c _ _ h, am_up_c _ _ h]
  have hC0 : CI μ0 ps_0 := by
    rw [← hμ0]
    exact ⟨rfl, rfl, rfl, rfl, rfl, rfl, rfl, rfl, fun f hf => absurd hf (Nat.not_lt_zero _)⟩
  have hS0 : Src μ0 D n := hS.fr (f0 1 2 (by decide)) (fun i => f0 2 i (by decide))
  obtain ⟨i', μ1, q1, q2, q3, q4⟩ := L42_6_ok (D := D) (n := n) 401 am_fuel 0 μ0 ps_0 (by decide) (by decide) (by decide) hS0 hC0 (PI_0 n)
  rw [q1, am_op_some, am_lp_r]
  dsimp only
  have hfr : ∀ c t, ¬ (5 ≤ c ∧ c ≤ 140) → μ1 c t = μ c t := fun c t h => by rw [q4 c t (by omega), f0 c t (by omega)]
  have hend := ps_ended (D := D) hn
  have hwi : WI (ps_D D n) := WI.run 401 ps_0 WI_0
  have hfc : FC (ps_D D n) := FC.run (fun i hi => (hS.2.2 i hi).2) 401 ps_0 (fun l hl => by cases hl)
  change CI μ1 (ps_D D n) at q2
  change (ps_D D n).2.2.2.2.2.2 = true at hend
  generalize ps_D D n = s at *
  obtain ⟨c4, c5, c6, c7, c8, c9, c10, c11, cL⟩ := q2
  -- not within the limits
  have no : ∀ b : Bool, s.2.2.2.2.2.1 = b → (s.2.2.2.2.2.1 && ps_in s) = false → ∃ μ', (if (am_up μ1 5 11 0) 5 11 = 0 then some ((0 : Int), am_up μ1 5 11 0) else (am_op (L42_85 5 am_fuel 0 (am_up μ1 5 11 0)) (fun s => am_lp s (fun q2 => some q2) (fun t2 => some (0, t2.2))))) = some (0, μ') ∧ μ' 5 10 = bI s.2.2.2.2.2.1 ∧ μ' 5 11 = bI (s.2.2.2.2.2.1 && ps_in s) ∧ ((s.2.2.2.2.2.1 && ps_in s) = true → CT μ' s.2.1 s.2.2.2.1 s.2.2.2.2.1 ∧ CW μ' s.2.1 s.2.2.2.1 s.2.2.2.2.1 s.2.2.2.1) ∧ ∀ c t, ¬ (5 ≤ c ∧ c ≤ 140) → μ' c t = μ c t := by
    intro b hb hz
    rw [if_pos (am_up_at _ _ _ _), hz]
    refine ⟨_, rfl, by rw [am_up_s _ _ (by decide)]; exact c10, by rw [am_up_at]; rfl, (fun z => by cases z), fun c t h => ?_⟩
    rw [am_up_c _ _ (by omega), hfr c t h]
  cases hw : s.2.2.2.2.2.1 with
  | false =>
    rw [if_pos (show μ1 5 10 = 0 by rw [c10, hw]; rfl)]
    have z := no false hw (by rw [hw]; rfl)
    rw [hw] at z
    exact z
  | true =>
    rw [if_neg (show ¬ μ1 5 10 = 0 by rw [c10, hw]; decide)]
    cases ha : ps_al s.2.1 with
    | false =>
      rw [if_pos (show μ1 5 11 = 0 by rw [c11, ha]; rfl)]
      have z := no true hw (by rw [hw]; unfold ps_in; rw [ha]; rfl)
      rw [hw] at z
      exact z
    | true =>
      rw [if_neg (show ¬ μ1 5 11 = 0 by rw [c11, ha]; decide)]
      by_cases h5 : s.2.2.2.1 ≤ 5
      · rw [if_neg (show ¬ 5 < μ1 5 5 by rw [c5]; omega)]
        by_cases h13 : s.2.2.2.2.1 ≤ 13
        · rw [if_neg (show ¬ 13 < μ1 5 6 by rw [c6]; omega), if_neg (show ¬ (am_up μ1 5 11 1) 5 11 = 0 by rw [am_up_at]; decide)]
          have hin : ps_in s = true := by unfold ps_in; rw [ha, decide_eq_true h5, decide_eq_true h13]; rfl
          obtain ⟨w1, w2, w3⟩ := hwi hw
          obtain ⟨w4, w5⟩ := w2 hend
          have w6 := w3 w5
          have hCT : CT (am_up μ1 5 11 1) s.2.1 s.2.2.2.1 s.2.2.2.2.1 := by
            refine ⟨by rw [am_up_s _ _ (by decide)]; exact c5, by rw [am_up_s _ _ (by decide)]; exact c6, w6, h5, w5, h13, by rw [w1, w4, Nat.add_zero], fun l hl => ⟨?_, hfc l hl⟩, fun f hf => ?_⟩
            · have z := List.all_eq_true.mp ha l hl
              exact of_decide_eq_true z
            · have e2 : s.2.2.2.2.1 * s.2.2.2.1 ≤ 13 * 5 := Nat.mul_le_mul h13 h5
              exact (cL f hf (by omega)).fr (am_up_c _ _ (by omega)) (fun i => am_up_c _ _ (by omega))
          obtain ⟨x', μ', r1, r2, r3, r4⟩ := L42_85_ok s.2.2.2.1 am_fuel 0 (am_up μ1 5 11 1) 0 (by unfold am_fuel; omega) rfl (by omega) hCT (fun c hc => absurd hc (Nat.not_lt_zero _))
          rw [r1, am_op_some, am_lp_r, hin]
          refine ⟨μ', rfl, ?_, ?_, fun _ => ⟨r2, r3⟩, fun c t h => ?_⟩
          · rw [r4 5 10 (by decide) (by decide), am_up_s _ _ (by decide), c10, hw]
          · rw [r4 5 11 (by decide) (by decide), am_up_at]; rfl
          · rw [r4 c t (by omega) (by omega), am_up_c _ _ (by omega), hfr c t h]
        · rw [if_pos (show 13 < μ1 5 6 by rw [c6]; omega)]
          have z := no true hw (by rw [hw]; unfold ps_in; rw [decide_eq_false h13, Bool.and_false]; rfl)
          rw [hw] at z
          exact z
      · rw [if_pos (show 5 < μ1 5 5 by rw [c5]; omega)]
        have z := no true hw (by rw [hw]; unfold ps_in; rw [decide_eq_false h5, Bool.and_false, Bool.false_and]; rfl)
        rw [hw] at z
        exact z
