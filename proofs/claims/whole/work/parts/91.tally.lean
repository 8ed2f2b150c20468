/-! What the rows of a group come to. -/
theorem sp_num_9 {g : Nat → Int} {n : Nat} {v : Int} (h : sp_num g n = some v) : -1000000000 ≤ v ∧ v ≤ 1000000000 := by
  unfold sp_num at h
  have hmn : sp_m g n ≤ 1 := by unfold sp_m; split <;> omega
  have hd := sd_dig g n n (sp_m g n) (by omega)
  generalize sp_m g n = m at *
  generalize hw : sd g n m = w at *
  have r1 := sd_v_rng g w m 0 0 hd (by omega) (by decide)
  have sg : ∀ x : Int, 0 ≤ x → x ≤ 1000000000 → -1000000000 ≤ sp_sg m x ∧ sp_sg m x ≤ 1000000000 := fun x h1 h2 => by unfold sp_sg; split <;> omega
  split at h
  · cases h
  · rename_i hb
    have p6 : ∀ x, x < 7 → pw (0 + x) ≤ 1000000 := by decide
    have pz := p6 w (by omega)
    split at h
    · cases h
      exact sg _ (by omega) (by omega)
    · split at h
      · have hd2 := sd_dig g n n (m + w + 1) (by omega)
        generalize sd g n (m + w + 1) = b at *
        split at h
        · rename_i hx
          cases h
          have r2 := sd_v_rng g b (m + w + 1) (0 + w) _ hd2 r1.1 r1.2
          have p9 : ∀ x, x < 7 → ∀ b, b < 4 → pw (0 + x + b) * pw (3 - b) ≤ 1000000000 ∧ 0 ≤ pw (3 - b) := by decide
          have pz9 := p9 w (by omega) b (by omega)
          refine sg _ (Int.mul_nonneg r2.1 pz9.2) ?_
          calc _ ≤ pw (0 + w + b) * pw (3 - b) := Int.mul_le_mul_of_nonneg_right (by omega) pz9.2
            _ ≤ 1000000000 := pz9.1
        · cases h
      · cases h
theorem d_wor_9 {fs : List (List Int)} {cols recs r c : Nat} (hr : r + 1 < recs) (ht : sp_ty fs cols recs c = 1) : -1000000000 ≤ d_wor fs cols recs r c ∧ d_wor fs cols recs r c ≤ 1000000000 := by
  unfold d_wor sp_wo
  rw [ht]
  by_cases hm : (sp_c fs cols c r).length = 0
  · rw [if_pos hm]; decide
  · rw [if_neg hm, if_neg (by decide), if_pos rfl]
    have hal : sp_al (fun l => (sp_N l).isSome) (sp_c fs cols c) (recs - 1) 0 true = true := by
      unfold sp_ty at ht
      split at ht
      · assumption
      · split at ht <;> omega
    have z := sp_al_t _ _ _ _ hal r (by omega) (by rw [Nat.zero_add]; exact hm)
    rw [Nat.zero_add] at z
    cases hv : sp_N (sp_c fs cols c r) with
    | none => rw [hv] at z; cases z
    | some v => exact sp_num_9 hv
abbrev T5 := Int × Int × Int × Int × Int
def t_row (v : Option Int) (t : T5) : T5 :=
  match v with
  | none => (t.1 + 1, t.2)
  | some y => (t.1 + 1, t.2.1 + 1, t.2.2.1 + y, (if t.2.1 = 0 ∨ y < t.2.2.2.1 then y else t.2.2.2.1), (if t.2.1 = 0 ∨ t.2.2.2.2 < y then y else t.2.2.2.2))
def tly (sel : Nat → Bool) (val : Nat → Option Int) : Nat → T5
  | 0 => (0, 0, 0, 0, 0)
  | r + 1 => if sel r = true then t_row (val r) (tly sel val r) else tly sel val r
def t_amt (me : Int) (t : T5) : Int :=
  if me = 0 then t.1 * 27720000 else if me = 1 then t.2.2.1 * 27720 else if t.2.1 = 0 then 0 else
  if me = 2 then t.2.2.1 * (27720 / t.2.1) else if me = 3 then t.2.2.2.1 * 27720 else t.2.2.2.2 * 27720
section TL
variable {sel : Nat → Bool} {val : Nat → Option Int}
def tI (t : T5) (r : Nat) : Prop := 0 ≤ t.1 ∧ t.1 ≤ (r : Int) ∧ 0 ≤ t.2.1 ∧ t.2.1 ≤ t.1 ∧ -(t.2.1 * 1000000000) ≤ t.2.2.1 ∧ t.2.2.1 ≤ t.2.1 * 1000000000 ∧ (t.2.1 = 0 → t.2.2.2.1 = 0 ∧ t.2.2.2.2 = 0) ∧ -1000000000 ≤ t.2.2.2.1 ∧ t.2.2.2.1 ≤ 1000000000 ∧ -1000000000 ≤ t.2.2.2.2 ∧ t.2.2.2.2 ≤ 1000000000
theorem tI.row {t : T5} {r : Nat} (h : tI t r) {v : Option Int} (hv : ∀ y, v = some y → -1000000000 ≤ y ∧ y ≤ 1000000000) : tI (t_row v t) (r + 1) := by
  obtain ⟨h1, h2, h3, h4, h5, h6, h7, h8, h9, h10, h11⟩ := h
  cases v with
  | none => exact ⟨by dsimp only [t_row]; omega, by dsimp only [t_row]; omega, h3, by dsimp only [t_row]; omega, h5, h6, h7, h8, h9, h10, h11⟩
  | some y =>
    have hy := hv y rfl
    refine ⟨by dsimp only [t_row]; omega, by dsimp only [t_row]; omega, by dsimp only [t_row]; omega, by dsimp only [t_row]; omega, by dsimp only [t_row]; omega, by dsimp only [t_row]; omega, fun z => ?_, ?_, ?_, ?_, ?_⟩
    · dsimp only [t_row] at z; omega
    · dsimp only [t_row]; split <;> omega
    · dsimp only [t_row]; split <;> omega
    · dsimp only [t_row]; split <;> omega
    · dsimp only [t_row]; split <;> omega
theorem tI.mono {t : T5} {r : Nat} (h : tI t r) : tI t (r + 1) := by
  obtain ⟨h1, h2, h⟩ := h
  exact ⟨h1, by omega, h⟩
theorem tly_inv : ∀ r, (∀ q, q < r → ∀ y, val q = some y → -1000000000 ≤ y ∧ y ≤ 1000000000) → tI (tly sel val r) r
  | 0, _ => by unfold tly tI; simp
  | r + 1, hv => by
    have ih := tly_inv r (fun q hq => hv q (by omega))
    unfold tly
    split
    · exact ih.row (hv r (by omega))
    · exact ih.mono
theorem t_amt_rng {t : T5} {r : Nat} (h : tI t r) (hr : r ≤ 12) (me : Int) : -332640000000000 ≤ t_amt me t ∧ t_amt me t ≤ 332640000000000 := by
  obtain ⟨h1, h2, h3, h4, h5, h6, h7, h8, h9, h10, h11⟩ := h
  unfold t_amt
  split
  · omega
  · split
    · omega
    · split
      · omega
      · split
        · have hk : t.2.1 = 1 ∨ t.2.1 = 2 ∨ t.2.1 = 3 ∨ t.2.1 = 4 ∨ t.2.1 = 5 ∨ t.2.1 = 6 ∨ t.2.1 = 7 ∨ t.2.1 = 8 ∨ t.2.1 = 9 ∨ t.2.1 = 10 ∨ t.2.1 = 11 ∨ t.2.1 = 12 := by omega
          rcases hk with e | e | e | e | e | e | e | e | e | e | e | e <;> rw [e] at h5 h6 ⊢ <;> omega
        · split <;> omega
theorem tly_congr {sel' : Nat → Bool} : ∀ r, (∀ q, q < r → sel q = sel' q) → tly sel val r = tly sel' val r
  | 0, _ => rfl
  | r + 1, h => by
    unfold tly
    rw [h r (by omega), tly_congr r (fun q hq => h q (by omega))]
/-- rows and sums add up -/
theorem tly_add {a b c : Nat → Bool} : ∀ r, (∀ q, q < r → (c q = (a q || b q)) ∧ (a q && b q) = false) → (tly c val r).1 = (tly a val r).1 + (tly b val r).1 ∧ (tly c val r).2.2.1 = (tly a val r).2.2.1 + (tly b val r).2.2.1
  | 0, _ => ⟨rfl, rfl⟩
  | r + 1, h => by
    obtain ⟨i1, i2⟩ := tly_add r (fun q hq => h q (by omega))
    obtain ⟨e1, e2⟩ := h r (by omega)
    unfold tly
    rw [e1]
    cases ha : a r <;> cases hb : b r <;> rw [ha, hb] at e2
    · exact ⟨i1, i2⟩
    · simp only [Bool.false_or, if_true, Bool.false_eq_true, if_false]
      cases val r with
      | none => dsimp only [t_row]; omega
      | some y => dsimp only [t_row]; omega
    · simp only [Bool.true_or, if_true, Bool.false_eq_true, if_false]
      cases val r with
      | none => dsimp only [t_row]; omega
      | some y => dsimp only [t_row]; omega
    · cases e2
end TL
/-- the class's tally -/
def Ty (μ : am_M) (t : T5) : Prop := μ 229 0 = t.1 ∧ μ 229 1 = t.2.1 ∧ μ 229 2 = t.2.2.1 ∧ μ 229 3 = t.2.2.2.1 ∧ μ 229 4 = t.2.2.2.2
theorem fn88_ok (μ : am_M) : ∃ μ', fn88 229 μ = some (0, μ') ∧ Ty μ' (0, 0, 0, 0, 0) ∧ ∀ c t, c ≠ 229 → μ' c t = μ c t := by
  refine ⟨_, rfl, ⟨by simp [am_up], by simp [am_up], by simp [am_up], by simp [am_up], by simp [am_up]⟩, fun c t hc => ?_⟩
  rw [am_up_c _ _ hc, am_up_c _ _ hc, am_up_c _ _ hc, am_up_c _ _ hc, am_up_c _ _ hc]
theorem fn90_ok {μ : am_M} {t : T5} (h : Ty μ t) (h0 : 0 ≤ t.1) (h1 : t.1 ≤ 100) : ∃ μ', fn90 229 μ = some (0, μ') ∧ Ty μ' (t.1 + 1, t.2) ∧ ∀ c t, c ≠ 229 → μ' c t = μ c t := by
  obtain ⟨a0, a1, a2, a3, a4⟩ := h
  unfold fn90
  rw [a0, w32_id (by omega) (by omega)]
  exact ⟨_, rfl, ⟨am_up_at _ _ _ _, by rw [am_up_s _ _ (by decide)]; exact a1, by rw [am_up_s _ _ (by decide)]; exact a2, by rw [am_up_s _ _ (by decide)]; exact a3, by rw [am_up_s _ _ (by decide)]; exact a4⟩, fun c t hc => am_up_c _ _ hc⟩
theorem fn91_ok {μ : am_M} {t : T5} (h : Ty μ t) (h0 : 0 ≤ t.2.1) (h1 : t.2.1 ≤ 100) {y : Int} (hs : -9000000000000000000 ≤ t.2.2.1 + y ∧ t.2.2.1 + y ≤ 9000000000000000000) : ∃ μ', fn91 229 y μ = some (0, μ') ∧ Ty μ' (t.1, t.2.1 + 1, t.2.2.1 + y, (if t.2.1 = 0 ∨ y < t.2.2.2.1 then y else t.2.2.2.1), (if t.2.1 = 0 ∨ t.2.2.2.2 < y then y else t.2.2.2.2)) ∧ ∀ c t, c ≠ 229 → μ' c t = μ c t := by
  obtain ⟨a0, a1, a2, a3, a4⟩ := h
  have hw : w64 (t.2.2.1 + y) = t.2.2.1 + y := w64_id (by omega) (by omega)
  have hk : w32 (t.2.1 + 1) = t.2.1 + 1 := w32_id (by omega) (by omega)
  have key : ∀ l g : Int, ∃ μ', (some ((0 : Int), am_up (am_up (am_up (am_up μ 229 3 l) 229 4 g) 229 2 (w64 (((am_up (am_up μ 229 3 l) 229 4 g) 229 2) + y))) 229 1 (w32 (((am_up (am_up (am_up μ 229 3 l) 229 4 g) 229 2 (w64 (((am_up (am_up μ 229 3 l) 229 4 g) 229 2) + y))) 229 1) + 1))) : Option (Int × am_M)) = some (0, μ') ∧ Ty μ' (t.1, t.2.1 + 1, t.2.2.1 + y, l, g) ∧ ∀ c t, c ≠ 229 → μ' c t = μ c t := fun l g => by
    refine ⟨_, rfl, ⟨?_, ?_, ?_, ?_, ?_⟩, fun c t hc => ?_⟩
    · simp [am_up]; exact a0
    · simp [am_up, a1, hk]
    · simp [am_up, a2, hw]
    · simp [am_up]
    · simp [am_up]
    · rw [am_up_c _ _ hc, am_up_c _ _ hc, am_up_c _ _ hc, am_up_c _ _ hc]
  have e31 : ∀ l, am_up μ 229 3 l 229 1 = t.2.1 := fun l => by rw [am_up_s _ _ (by decide)]; exact a1
  have e34 : ∀ l, am_up μ 229 3 l 229 4 = t.2.2.2.2 := fun l => by rw [am_up_s _ _ (by decide)]; exact a4
  unfold fn91
  by_cases k0 : t.2.1 = 0
  · rw [if_pos (a1.trans k0), if_pos ((e31 y).trans k0), if_pos (Or.inl k0), if_pos (Or.inl k0)]
    exact key y y
  · have gr : ∀ l, ∃ μ', (if (am_up μ 229 3 l) 229 1 = 0 then some ((0 : Int), am_up (am_up (am_up (am_up μ 229 3 l) 229 4 y) 229 2 (w64 (((am_up (am_up μ 229 3 l) 229 4 y) 229 2) + y))) 229 1 (w32 (((am_up (am_up (am_up μ 229 3 l) 229 4 y) 229 2 (w64 (((am_up (am_up μ 229 3 l) 229 4 y) 229 2) + y))) 229 1) + 1))) else (if 0 < o_cmp y ((am_up μ 229 3 l) 229 4) then some (0, am_up (am_up (am_up (am_up μ 229 3 l) 229 4 y) 229 2 (w64 (((am_up (am_up μ 229 3 l) 229 4 y) 229 2) + y))) 229 1 (w32 (((am_up (am_up (am_up μ 229 3 l) 229 4 y) 229 2 (w64 (((am_up (am_up μ 229 3 l) 229 4 y) 229 2) + y))) 229 1) + 1))) else some (0, am_up (am_up (am_up (am_up μ 229 3 l) 229 4 ((am_up μ 229 3 l) 229 4)) 229 2 (w64 (((am_up (am_up μ 229 3 l) 229 4 ((am_up μ 229 3 l) 229 4)) 229 2) + y))) 229 1 (w32 (((am_up (am_up (am_up μ 229 3 l) 229 4 ((am_up μ 229 3 l) 229 4)) 229 2 (w64 (((am_up (am_up μ 229 3 l) 229 4 ((am_up μ 229 3 l) 229 4)) 229 2) + y))) 229 1) + 1)))) : Option (Int × am_M)) = some (0, μ') ∧ Ty μ' (t.1, t.2.1 + 1, t.2.2.1 + y, l, (if t.2.1 = 0 ∨ t.2.2.2.2 < y then y else t.2.2.2.2)) ∧ ∀ c t, c ≠ 229 → μ' c t = μ c t := fun l => by
      rw [if_neg (fun z => k0 ((e31 l).symm.trans z))]
      by_cases g1 : t.2.2.2.2 < y
      · rw [if_pos (by rw [o_cmp_gt, e34]; exact g1), if_pos (Or.inr g1)]
        exact key l y
      · rw [if_neg (by rw [o_cmp_gt, e34]; exact g1), if_neg (by omega), e34]
        exact key l _
    rw [if_neg (fun z => k0 (a1.symm.trans z))]
    by_cases l1 : y < t.2.2.2.1
    · rw [if_pos (by rw [o_cmp_lt, a3]; exact l1), if_pos (show t.2.1 = 0 ∨ y < t.2.2.2.1 from Or.inr l1)]
      exact gr y
    · rw [if_neg (by rw [o_cmp_lt, a3]; exact l1), if_neg (show ¬ (t.2.1 = 0 ∨ y < t.2.2.2.1) by omega), ← a3]
      exact gr (μ 229 3)
theorem fn94_ok {μ : am_M} {t : T5} (h : Ty μ t) {r : Nat} (hI : tI t r) (hr : r ≤ 12) {me : Int} (hme : 0 ≤ me ∧ me ≤ 4) : fn94 229 me μ = some (t_amt me t, μ) := by
  have z := t_amt_rng hI hr me
  obtain ⟨a0, a1, a2, a3, a4⟩ := h
  have h3 := hI.2.2.1
  have h7 := hI.2.2.2.2.2.2.1
  have h4 := hI.2.2.2.1
  have h2 := hI.2.1
  unfold fn94
  unfold t_amt at z ⊢
  by_cases m0 : me = 0
  · rw [if_pos m0] at z ⊢; rw [if_pos m0, a0, w64_id (by omega) (by omega)]
  · rw [if_neg m0] at z ⊢; rw [if_neg m0]
    by_cases m1 : me = 1
    · rw [if_pos m1] at z ⊢; rw [if_pos m1, a2, w64_id (by omega) (by omega)]
    · rw [if_neg m1] at z ⊢; rw [if_neg m1]
      by_cases k0 : t.2.1 = 0
      · rw [if_pos k0] at z ⊢
        by_cases m2 : me = 2
        · rw [if_pos m2, if_neg (by rw [a1]; omega)]
        · rw [if_neg m2]
          obtain ⟨e3, e4⟩ := h7 k0
          by_cases m3 : me = 3
          · rw [if_pos m3, a3, e3]; rfl
          · rw [if_neg m3, a4, e4]; rfl
      · rw [if_neg k0] at z ⊢
        by_cases m2 : me = 2
        · rw [if_pos m2] at z ⊢
          rw [if_pos m2, if_pos (by rw [a1]; omega), if_neg (by rw [a1]; exact k0), a1, a2, o_divl_nn (by omega) (by omega) (by omega) (by omega), w64_id (by omega) (by omega)]
        · rw [if_neg m2] at z ⊢; rw [if_neg m2]
          by_cases m3 : me = 3
          · rw [if_pos m3] at z ⊢; rw [if_pos m3, a3, w64_id (by omega) (by omega)]
          · rw [if_neg m3] at z ⊢; rw [if_neg m3, a4, w64_id (by omega) (by omega)]
