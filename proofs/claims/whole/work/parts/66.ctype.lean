/-! The columns' types: what both sides find. -/
def sp_g (l : List Int) : Nat → Int := fun i => l.getD i 0
def sp_N (l : List Int) : Option Int := sp_num (sp_g l) l.length
def sp_D (l : List Int) : Option Int := sp_date (sp_g l) l.length
/-- do all values that are not missing among k rows from r on have P -/
def sp_al (P : List Int → Bool) (f : Nat → List Int) : Nat → Nat → Bool → Bool
  | 0, _, b => b
  | k + 1, r, b => sp_al P f k (r + 1) (if (f r).length = 0 then b else b && P (f r))
/-- the value of row r (the first behind the names is 0) in column c -/
def sp_c (fs : List (List Int)) (cols c r : Nat) : List Int := fs.getD ((r + 1) * cols + c) []
def sp_ty (fs : List (List Int)) (cols recs c : Nat) : Int := if sp_al (fun l => (sp_N l).isSome) (sp_c fs cols c) (recs - 1) 0 true = true then 1 else if sp_al (fun l => (sp_D l).isSome) (sp_c fs cols c) (recs - 1) 0 true = true then 2 else 3
def sp_wo (t : Int) (l : List Int) : Int := if l.length = 0 then 0 else if t = 3 then 0 else if t = 1 then sp_v (sp_N l) else sp_v (sp_D l)
theorem sp_al_f (P : List Int → Bool) (f : Nat → List Int) : ∀ k r, sp_al P f k r false = false
  | 0, _ => rfl
  | k + 1, r => by
    unfold sp_al
    rw [show (if (f r).length = 0 then false else false && P (f r)) = false by split <;> rfl]
    exact sp_al_f P f k (r + 1)
theorem sp_al_t (P : List Int → Bool) (f : Nat → List Int) : ∀ k r, sp_al P f k r true = true → ∀ j, j < k → (f (r + j)).length ≠ 0 → P (f (r + j)) = true
  | 0, _, _, j, hj, _ => absurd hj (by omega)
  | k + 1, r, h, j, hj, hl => by
    unfold sp_al at h
    cases j with
    | zero =>
      rw [Nat.add_zero] at hl ⊢
      rw [if_neg hl, Bool.true_and] at h
      cases hP : P (f r) with
      | true => rfl
      | false => rw [hP, sp_al_f] at h; cases h
    | succ j =>
      rw [show r + (j + 1) = r + 1 + j by omega] at hl ⊢
      refine sp_al_t P f k (r + 1) ?_ j (by omega) hl
      by_cases h0 : (f r).length = 0
      · rw [if_pos h0] at h; exact h
      · rw [if_neg h0, Bool.true_and] at h
        cases hP : P (f r) with
        | true => rw [hP] at h; exact h
        | false => rw [hP, sp_al_f] at h; cases h
/-- a table within the limits, as the class holds it -/
def CT (μ : am_M) (fs : List (List Int)) (cols recs : Nat) : Prop := μ 5 5 = cols ∧ μ 5 6 = recs ∧ 1 ≤ cols ∧ cols ≤ 5 ∧ 1 ≤ recs ∧ recs ≤ 13 ∧ fs.length = recs * cols ∧ (∀ l ∈ fs, l.length ≤ 12 ∧ Cr l) ∧ ∀ f, f < fs.length → Lt μ (7 + 2 * f) (8 + 2 * f) 12 (fs.getD f [])
theorem CT.idx {μ : am_M} {fs : List (List Int)} {cols recs : Nat} (h : CT μ fs cols recs) {r c : Nat} (hr : r < recs) (hc : c < cols) : r * cols + c < fs.length ∧ r * cols + c < 65 ∧ r * cols ≤ 60 := by
  obtain ⟨-, -, h1, h2, h3, h4, h5, -⟩ := h
  have e1 : r * cols + cols ≤ recs * cols := by
    have := Nat.mul_le_mul_right cols (show r + 1 ≤ recs by omega)
    rw [Nat.add_mul, Nat.one_mul] at this
    exact this
  have e2 : recs * cols ≤ 13 * 5 := Nat.mul_le_mul h4 h2
  have e3 : r * cols ≤ 12 * 5 := Nat.mul_le_mul (by omega) h2
  omega
theorem fs_mem {fs : List (List Int)} {f : Nat} (h : f < fs.length) : fs.getD f [] ∈ fs := by
  rw [List.getD_eq_getElem?_getD, List.getElem?_eq_getElem h]
  exact List.getElem_mem h
theorem fn27_ok {μ : am_M} {fs : List (List Int)} {cols recs : Nat} (h : CT μ fs cols recs) {r c : Nat} (hr : r < recs) (hc : c < cols) {a b : Int} (ha : a = (r : Int) - 1) (hb : b = c) : fn27 5 a b μ = some (((r * cols + c : Nat) : Int), μ) := by
  obtain ⟨i1, i2, i3⟩ := h.idx hr hc
  have h2 := h.2.2.2.1
  have h4 := h.2.2.2.2.2.1
  subst ha hb
  have e : w32 ((w32 ((w32 ((r : Int) - 1 + 1)) * (μ 5 5))) + (c : Int)) = ((r * cols + c : Nat) : Int) := by
    rw [h.1, w32_id (x := (r : Int) - 1 + 1) (by omega) (by omega), show (r : Int) - 1 + 1 = r by omega, show (r : Int) * (cols : Int) = ((r * cols : Nat) : Int) by simp, w32_id (x := ((r * cols : Nat) : Int)) (by omega) (by omega), w32_id (by omega) (by omega)]
    omega
  unfold fn27
  rw [rf_1.2.2.1, rf_1.2.2.2.2.1, e, if_neg (by omega), if_pos (by omega)]
theorem fn28_ok {μ : am_M} {fs : List (List Int)} {cols recs : Nat} (h : CT μ fs cols recs) {r c : Nat} (hr : r < recs) (hc : c < cols) {a b : Int} (ha : a = (r : Int) - 1) (hb : b = c) : fn28 5 a b μ = some (((7 + 2 * (r * cols + c) : Nat) : Int), μ) := by
  obtain ⟨i1, i2, i3⟩ := h.idx hr hc
  unfold fn28
  rw [fn27_ok h hr hc ha hb, am_op_some, rf_1.2.2.1, rf_1.2.2.2.2.1]
  dsimp only
  rw [if_neg (by omega), if_pos (by omega), Int.toNat_natCast, (rf_2 _ i2).1]
theorem CT.lt {μ : am_M} {fs : List (List Int)} {cols recs : Nat} (h : CT μ fs cols recs) {f : Nat} (hf : f < fs.length) : am_ref (7 + 2 * f) 0 = 8 + 2 * f ∧ am_len (8 + 2 * f) = 12 ∧ Lt μ (7 + 2 * f) (8 + 2 * f) 12 (fs.getD f []) ∧ Cr (fs.getD f []) ∧ (fs.getD f []).length ≤ 12 := by
  have h65 : f < 65 := by
    have e2 : recs * cols ≤ 13 * 5 := Nat.mul_le_mul h.2.2.2.2.2.1 h.2.2.2.1
    have h5 := h.2.2.2.2.2.2.1
    omega
  obtain ⟨m1, m2⟩ := h.2.2.2.2.2.2.2.1 _ (fs_mem hf)
  exact ⟨(rf_2 f h65).2.1, (rf_2 f h65).2.2, h.2.2.2.2.2.2.2.2 f hf, m2, m1⟩
theorem bI_0 {b : Bool} : bI b = 0 ↔ b = false := by cases b <;> simp [bI]
theorem fn29_ok {μ : am_M} {o a cap : Nat} {l : List Int} (h : Lt μ o a cap l) : fn29 o μ = some (bI (decide (l.length = 0)), μ) := by
  unfold fn29
  by_cases hl : l.length = 0
  · rw [if_pos (by rw [h.1]; omega)]; simp [bI, hl]
  · rw [if_neg (by rw [h.1]; omega)]; simp [bI, hl]
theorem L37_ok {μ : am_M} {fs : List (List Int)} {cols recs c : Nat} (h : CT μ fs cols recs) (hc : c < cols) : ∀ (k N r : Nat) (nb db : Bool) (x : Int), k < N → x = r → r + k + 1 = recs → ∃ x', L37_7 5 (c : Int) N (bI nb) (bI db) x μ = some (.inr (bI (sp_al (fun l => (sp_N l).isSome) (sp_c fs cols c) k r nb), bI (sp_al (fun l => (sp_D l).isSome) (sp_c fs cols c) k r db), x', μ))
  | k, 0, _, _, _, _, hN, _, _ => absurd hN (by omega)
  | 0, N + 1, r, nb, db, x, hN, hx, hk => by
    have h4 := h.2.2.2.2.2.1
    rw [L37_7]
    unfold fn26
    rw [am_op_some, h.2.1, w32_id (by omega) (by omega)]
    dsimp only
    rw [if_neg (by omega)]
    exact ⟨x, rfl⟩
  | k + 1, N + 1, r, nb, db, x, hN, hx, hk => by
    have h4 := h.2.2.2.2.2.1
    obtain ⟨i1, i2, i3⟩ := h.idx (r := r + 1) (by omega) hc
    obtain ⟨l1, l2, l3, l4, l5⟩ := h.lt i1
    subst hx
    rw [L37_7]
    unfold fn26
    rw [am_op_some, h.2.1, w32_id (by omega) (by omega)]
    dsimp only
    rw [if_pos (by omega), fn28_ok h (r := r + 1) (by omega) hc (by omega) rfl, am_op_some]
    dsimp only
    rw [Int.toNat_natCast, fn29_ok l3, am_op_some, w32_id (x := (r : Int) + 1) (by omega) (by omega)]
    have f33 := fn33_ok l1 l2 l3 l4 (by omega)
    have f36 := fn36_ok l1 l2 l3 l4 (by omega)
    rw [sp_num_gc] at f33
    rw [sp_date_gc] at f36
    have hu : ∀ P b, sp_al P (sp_c fs cols c) (k + 1) r b = sp_al P (sp_c fs cols c) k (r + 1) (if (fs.getD ((r + 1) * cols + c) []).length = 0 then b else b && P (fs.getD ((r + 1) * cols + c) [])) := fun P b => rfl
    rw [hu, hu]
    have hN' : sp_num (fun i => (fs.getD ((r + 1) * cols + c) []).getD i 0) (fs.getD ((r + 1) * cols + c) []).length = sp_N (fs.getD ((r + 1) * cols + c) []) := rfl
    have hD' : sp_date (fun i => (fs.getD ((r + 1) * cols + c) []).getD i 0) (fs.getD ((r + 1) * cols + c) []).length = sp_D (fs.getD ((r + 1) * cols + c) []) := rfl
    rw [hN'] at f33
    rw [hD'] at f36
    generalize fs.getD ((r + 1) * cols + c) [] = l at *
    have go := fun (nb db : Bool) => L37_ok h hc k N (r + 1) nb db ((r : Int) + 1) (by omega) (by omega) (by omega)
    simp only [f33, f36, am_op_some]
    by_cases hl : l.length = 0
    · rw [if_neg (by simp [bI, hl]), if_pos hl, if_pos hl]
      exact go nb db
    · rw [if_pos (by simp [bI, hl]), if_neg hl, if_neg hl]
      generalize (sp_N l).isSome = pn
      generalize (sp_D l).isSome = pd
      cases nb <;> cases db <;> cases pn <;> cases pd <;> first | exact go false false | exact go false true | exact go true false | exact go true true
theorem fn37_ok {μ : am_M} {fs : List (List Int)} {cols recs c : Nat} (h : CT μ fs cols recs) (hc : c < cols) {x : Int} (hx : x = c) : fn37 5 x μ = some (sp_ty fs cols recs c, μ) := by
  subst hx
  have h3 := h.2.2.2.2.1
  have h4 := h.2.2.2.2.2.1
  unfold fn37
  obtain ⟨x', q⟩ := L37_ok h hc (recs - 1) am_fuel 0 true true 0 (by unfold am_fuel; omega) rfl (by omega)
  rw [show (1 : Int) = bI true from rfl, q, am_op_some, am_lp_r]
  dsimp only
  unfold sp_ty
  cases sp_al (fun l => (sp_N l).isSome) (sp_c fs cols c) (recs - 1) 0 true <;> cases sp_al (fun l => (sp_D l).isSome) (sp_c fs cols c) (recs - 1) 0 true <;> rfl
/-- worthAs, where the type fits -/
theorem fn40_ok {μ : am_M} {o a : Nat} {l : List Int} (hr : am_ref o 0 = a) (hc : am_len a = 12) (h : Lt μ o a 12 l) (hR : Cr l) (hl : l.length ≤ 1000) {t : Int} (ht : t = 1 ∨ t = 2 ∨ t = 3) (h1 : t = 1 → l.length ≠ 0 → (sp_N l).isSome = true) (h2 : t = 2 → l.length ≠ 0 → (sp_D l).isSome = true) : fn40 t o μ = some (sp_wo t l, μ) := by
  unfold fn40 sp_wo
  rw [fn29_ok h, am_op_some]
  dsimp only
  by_cases h0 : l.length = 0
  · rw [if_neg (by simp [bI, h0]), if_pos h0]
  · rw [if_pos (by simp [bI, h0]), if_neg h0]
    by_cases h3 : t = 3
    · rw [if_pos h3, if_pos h3]
    · rw [if_neg h3, if_neg h3]
      by_cases h4 : t = 1
      · rw [if_pos h4, if_pos h4]
        obtain ⟨v, hv⟩ := Option.isSome_iff_exists.mp (h1 h4 h0)
        have hv' : sp_num (gc l 12) l.length = some v := by rw [sp_num_gc]; exact hv
        rw [fn38_ok hr hc h hR hl hv', am_op_some, hv]
        rfl
      · rw [if_neg h4, if_neg h4]
        obtain ⟨v, hv⟩ := Option.isSome_iff_exists.mp (h2 (by omega) h0)
        have hv' : sp_date (gc l 12) l.length = some v := by rw [sp_date_gc]; exact hv
        rw [fn39_ok hr hc h hR hv', am_op_some, hv]
        rfl
theorem sp_ty_in (fs : List (List Int)) (cols recs c : Nat) : (sp_ty fs cols recs c = 1 ∨ sp_ty fs cols recs c = 2 ∨ sp_ty fs cols recs c = 3) ∧ (∀ r, r + 1 < recs → (sp_c fs cols c r).length ≠ 0 → (sp_ty fs cols recs c = 1 → (sp_N (sp_c fs cols c r)).isSome = true) ∧ (sp_ty fs cols recs c = 2 → (sp_D (sp_c fs cols c r)).isSome = true)) := by
  unfold sp_ty
  by_cases h1 : sp_al (fun l => (sp_N l).isSome) (sp_c fs cols c) (recs - 1) 0 true = true
  · rw [if_pos h1]
    refine ⟨Or.inl rfl, fun r hr hl => ⟨fun _ => ?_, fun h => absurd h (by decide)⟩⟩
    have z := sp_al_t _ _ _ _ h1 r (by omega) (by rw [Nat.zero_add]; exact hl)
    rw [Nat.zero_add] at z
    exact z
  · rw [if_neg h1]
    by_cases h2 : sp_al (fun l => (sp_D l).isSome) (sp_c fs cols c) (recs - 1) 0 true = true
    · rw [if_pos h2]
      refine ⟨Or.inr (Or.inl rfl), fun r hr hl => ⟨fun h => absurd h (by decide), fun _ => ?_⟩⟩
      have z := sp_al_t _ _ _ _ h2 r (by omega) (by rw [Nat.zero_add]; exact hl)
      rw [Nat.zero_add] at z
      exact z
    · rw [if_neg h2]
      exact ⟨Or.inr (Or.inr rfl), fun r hr hl => ⟨fun h => absurd h (by decide), fun h => absurd h (by decide)⟩⟩
