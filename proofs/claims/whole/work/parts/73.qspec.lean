/-! What a chart's text says: the reading over words. -/
def hdW (r : List (List Int)) : List Int := r.headD []
def colf (fs : List (List Int)) (w : List Int) : Nat → Nat → Int
  | 0, _ => -1
  | k + 1, c => if fs.getD c [] = w then (c : Int) else colf fs w k (c + 1)
def colN (fs : List (List Int)) (cols : Nat) (w : List Int) : Int := if w = [] then -1 else colf fs w cols 0
theorem colf_rng (fs : List (List Int)) (w : List Int) : ∀ k c, colf fs w k c = -1 ∨ ((c : Int) ≤ colf fs w k c ∧ colf fs w k c < ((c + k : Nat) : Int))
  | 0, c => Or.inl rfl
  | k + 1, c => by
    unfold colf
    split
    · exact Or.inr ⟨by omega, by omega⟩
    · rcases colf_rng fs w k (c + 1) with h | ⟨h1, h2⟩
      · exact Or.inl h
      · exact Or.inr ⟨by omega, by omega⟩
theorem colN_rng (fs : List (List Int)) (cols : Nat) (w : List Int) : colN fs cols w = -1 ∨ (0 ≤ colN fs cols w ∧ colN fs cols w < (cols : Int)) := by
  unfold colN
  split
  · exact Or.inl rfl
  · rcases colf_rng fs w cols 0 with h | ⟨h1, h2⟩
    · exact Or.inl h
    · exact Or.inr ⟨by omega, by omega⟩
abbrev QC := List (Nat × List Int × List Int) × Int × Int × Int
def q_tk (w : List Int) : Prop := w.length = 1 ∧ 51 ≤ w.getD 0 0 ∧ w.getD 0 0 ≤ 57
def q_cl (fs : List (List Int)) (cols : Nat) (r : List (List Int)) (s : QC) : Option (List (List Int) × QC) :=
  if hdW r = lit 12 then
    (if colN fs cols (hdW r.tail) = -1 then none else
      if s.1.length < 2 then some (r.tail.tail.tail.tail, (s.1 ++ [((colN fs cols (hdW r.tail)).toNat, hdW r.tail.tail, hdW r.tail.tail.tail)], s.2)) else none)
  else if hdW r = lit 13 then
    (if s.2.1 = 0 then (if hdW r.tail = lit 14 then some (r.tail.tail, (s.1, 1, s.2.2)) else if hdW r.tail = lit 15 then some (r.tail.tail, (s.1, -1, s.2.2)) else none) else none)
  else if hdW r = lit 16 then
    (if s.2.2.1 = -1 then (if colN fs cols (hdW r.tail) = -1 then none else some (r.tail.tail, (s.1, s.2.1, colN fs cols (hdW r.tail), s.2.2.2))) else none)
  else if hdW r = lit 17 then
    (if s.2.2.2 = 0 then (if (hdW r.tail).length = 1 ∧ 51 ≤ (hdW r.tail).getD 0 0 ∧ (hdW r.tail).getD 0 0 ≤ 57 then some (r.tail.tail, (s.1, s.2.1, s.2.2.1, (hdW r.tail).getD 0 0 - 48)) else none) else none)
  else none
def q_fit (ty : Nat → Int) (c : Nat × List Int × List Int) : Prop :=
  (c.2.1 = lit 18 ∨ c.2.1 = lit 19 ∨ c.2.1 = lit 20) ∧ (if ty c.1 = 1 then (sp_N c.2.2).isSome = true else if ty c.1 = 2 then (sp_D c.2.2).isSome = true else c.2.1 = lit 18 ∧ c.2.2.length ≠ 0)
def q_st (mk me : Int) (s : QC) : Prop := s.2.2.1 = -1 ∨ (mk = 0 ∧ (me = 0 ∨ me = 1))
def q_ok (ty : Nat → Int) (mk me : Int) (s : QC) : Prop := (∀ c ∈ s.1, q_fit ty c) ∧ q_st mk me s
theorem lit_ne0 : ∀ s, s < 21 → 2 ≤ s → lit s ≠ [] := by decide +kernel
theorem lit_ne (s : Nat) (h : 2 ≤ s) (h1 : s < 21) : lit s ≠ [] := lit_ne0 s h1 h
theorem lit_inj : ∀ s, s < 21 → ∀ t, t < 21 → lit s = lit t → s = t := by decide +kernel
theorem hd_ne {r : List (List Int)} (h : hdW r ≠ []) : r ≠ [] := by
  rintro rfl; exact h rfl
theorem q_cl_hd {fs : List (List Int)} {cols : Nat} {r : List (List Int)} {s : QC} {x} (h : q_cl fs cols r s = some x) : r ≠ [] := by
  apply hd_ne
  intro e
  unfold q_cl at h
  rw [e, if_neg (lit_ne 12 (by decide) (by decide)).symm, if_neg (lit_ne 13 (by decide) (by decide)).symm, if_neg (lit_ne 16 (by decide) (by decide)).symm, if_neg (lit_ne 17 (by decide) (by decide)).symm] at h
  cases h
def q_us (s : QC) : Nat := 4 * s.1.length + (if s.2.1 = 0 then 0 else 2) + (if s.2.2.1 = -1 then 0 else 2) + (if s.2.2.2 = 0 then 0 else 2)
/-- what a clause does to the state -/
theorem q_cl_st {fs : List (List Int)} {cols : Nat} {r r' : List (List Int)} {s s' : QC} (h : q_cl fs cols r s = some (r', s')) (hl : s.1.length ≤ 2) :
    s'.1.length ≤ 2 ∧ r.length + q_us s ≤ r'.length + q_us s' ∧ r'.length < r.length ∧ (∀ ty mk me, q_ok ty mk me s' → q_ok ty mk me s) ∧ (∃ k, r' = r.drop k) := by
  have hne := q_cl_hd h
  have h0 : r.length ≠ 0 := fun e => hne (List.length_eq_zero_iff.mp e)
  have t2 : r.tail.tail = r.drop 2 := by simp only [← List.drop_one, List.drop_drop]
  have t4 : r.tail.tail.tail.tail = r.drop 4 := by simp only [← List.drop_one, List.drop_drop]
  unfold q_cl at h
  split at h
  · split at h
    · cases h
    · split at h
      · rename_i h3
        injection h with h
        injection h with e1 e2
        subst e1 e2
        refine ⟨by simp; omega, ?_, by simp; omega, fun ty mk me hk => ⟨fun c hc => hk.1 c (List.mem_append_left _ hc), hk.2⟩, 4, t4⟩
        unfold q_us
        simp
        omega
      · cases h
  · split at h
    · split at h
      · rename_i h4
        split at h
        · injection h with h
          injection h with e1 e2
          subst e1 e2
          refine ⟨hl, ?_, by simp; omega, fun ty mk me hk => hk, 2, t2⟩
          unfold q_us
          simp [h4]
          omega
        · split at h
          · injection h with h
            injection h with e1 e2
            subst e1 e2
            refine ⟨hl, ?_, by simp; omega, fun ty mk me hk => hk, 2, t2⟩
            unfold q_us
            simp [h4]
            omega
          · cases h
      · cases h
    · split at h
      · split at h
        · rename_i h4
          split at h
          · cases h
          · rename_i h5
            injection h with h
            injection h with e1 e2
            subst e1 e2
            refine ⟨hl, ?_, by simp; omega, fun ty mk me hk => ⟨hk.1, Or.inl h4⟩, 2, t2⟩
            unfold q_us
            simp [h4, h5]
            omega
        · cases h
      · split at h
        · split at h
          · rename_i h4
            split at h
            · rename_i h5
              injection h with h
              injection h with e1 e2
              subst e1 e2
              refine ⟨hl, ?_, by simp; omega, fun ty mk me hk => hk, 2, t2⟩
              have h6 : (hdW r.tail).getD 0 0 - 48 ≠ 0 := by omega
              unfold q_us
              rw [if_pos h4, if_neg h6]
              simp
              omega
            · cases h
          · cases h
        · cases h
def q_run (fs : List (List Int)) (cols : Nat) : Nat → List (List Int) → QC → Option QC
  | 0, r, s => if r = [] then some s else none
  | k + 1, r, s => if r = [] then some s else match q_cl fs cols r s with | some (r', s') => q_run fs cols k r' s' | none => none
noncomputable def q_runR (fs : List (List Int)) (cols : Nat) (P : QC → Prop) : Nat → List (List Int) → QC → Option QC
  | 0, r, s => if r = [] then some s else none
  | k + 1, r, s => if r = [] then some s else match q_cl fs cols r s with | some (r', s') => @ite _ (P s') (Classical.propDecidable _) (q_runR fs cols P k r' s') none | none => none
theorem q_run_ok {fs : List (List Int)} {cols : Nat} {ty : Nat → Int} {mk me : Int} : ∀ (k : Nat) (r : List (List Int)) (s s' : QC), s.1.length ≤ 2 → q_run fs cols k r s = some s' → s'.1.length ≤ 2 ∧ r.length + q_us s ≤ q_us s' ∧ (q_ok ty mk me s' → q_ok ty mk me s)
  | 0, r, s, s', hl, h => by
    unfold q_run at h
    split at h
    · rename_i h1; injection h with h; subst h; subst h1; exact ⟨hl, by simp, id⟩
    · cases h
  | k + 1, r, s, s', hl, h => by
    unfold q_run at h
    split at h
    · rename_i h1; injection h with h; subst h; subst h1; exact ⟨hl, by simp, id⟩
    · cases hc : q_cl fs cols r s with
      | none => rw [hc] at h; cases h
      | some x =>
        obtain ⟨r1, s1⟩ := x
        rw [hc] at h
        obtain ⟨z1, z2, z3, z4, -⟩ := q_cl_st hc hl
        obtain ⟨y1, y2, y3⟩ := q_run_ok (ty := ty) (mk := mk) (me := me) k r1 s1 s' z1 h
        exact ⟨y1, by omega, fun g => z4 _ _ _ (y3 g)⟩
theorem q_us_le {s : QC} (h : s.1.length ≤ 2) : q_us s ≤ 14 := by
  unfold q_us
  split <;> split <;> split <;> omega
/-- read at once, or at the end: the same -/
theorem q_runR_eq {fs : List (List Int)} {cols : Nat} {ty : Nat → Int} {mk me : Int} : ∀ (k : Nat) (r : List (List Int)) (s s' : QC), s.1.length ≤ 2 → q_ok ty mk me s → ((q_runR fs cols (q_ok ty mk me) k r s = some s') ↔ (q_run fs cols k r s = some s' ∧ q_ok ty mk me s'))
  | 0, r, s, s', hl, ho => by
    unfold q_run q_runR
    split
    · constructor
      · intro h; injection h with h; subst h; exact ⟨rfl, ho⟩
      · exact fun h => h.1
    · exact ⟨(fun h => by cases h), (fun h => by cases h.1)⟩
  | k + 1, r, s, s', hl, ho => by
    unfold q_run q_runR
    split
    · constructor
      · intro h; injection h with h; subst h; exact ⟨rfl, ho⟩
      · exact fun h => h.1
    · cases hc : q_cl fs cols r s with
      | none => exact ⟨(fun h => by cases h), (fun h => by cases h.1)⟩
      | some x =>
        obtain ⟨r1, s1⟩ := x
        obtain ⟨z1, z2, z3, z4, -⟩ := q_cl_st hc hl
        dsimp only
        by_cases hp : q_ok ty mk me s1
        · rw [if_pos hp]
          exact q_runR_eq k r1 s1 s' z1 hp
        · rw [if_neg hp]
          exact ⟨(fun h => by cases h), (fun h => absurd ((q_run_ok k r1 s1 s' z1 h.1).2.2 h.2) hp)⟩
def q_mk (w : List Int) : Int := if w = lit 2 then 0 else if w = lit 3 then 1 else if w = lit 4 then 2 else -1
def q_me (w : List Int) : Int := if w = lit 7 then 0 else if w = lit 8 then 1 else if w = lit 9 then 2 else if w = lit 10 then 3 else if w = lit 11 then 4 else -1
/-- mark, x, measure, y and what is left -/
def q_hd (fs : List (List Int)) (cols : Nat) (ty : Nat → Int) (r : List (List Int)) : Option (List (List Int) × Int × Int × Int × Int) :=
  if q_mk (hdW r) = -1 then none else
  if hdW r.tail = lit 5 then
    (if colN fs cols (hdW r.tail.tail) = -1 then none else
     if hdW r.tail.tail.tail = lit 6 then
      (if q_me (hdW r.tail.tail.tail.tail) = -1 then none else
       if q_me (hdW r.tail.tail.tail.tail) = 0 then some (r.tail.tail.tail.tail.tail, q_mk (hdW r), colN fs cols (hdW r.tail.tail), 0, -1) else
       if colN fs cols (hdW r.tail.tail.tail.tail.tail) = -1 then none else
       if ty (colN fs cols (hdW r.tail.tail.tail.tail.tail)).toNat = 1 then some (r.tail.tail.tail.tail.tail.tail, q_mk (hdW r), colN fs cols (hdW r.tail.tail), q_me (hdW r.tail.tail.tail.tail), colN fs cols (hdW r.tail.tail.tail.tail.tail)) else none)
     else none)
  else none
