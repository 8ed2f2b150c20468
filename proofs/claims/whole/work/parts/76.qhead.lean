/-! Request.read. -/
theorem tw_w_cr {T : Nat → Int} {n : Nat} (hT : ∀ i, i < n → 0 ≤ T i ∧ T i ≤ 65535) : ∀ k q, Cr (tw_w T n k q).1
  | 0, q => by unfold tw_w; exact Cr_nil
  | k + 1, q => by
    unfold tw_w
    split
    · split
      · exact Cr_nil
      · exact Cr_cons (hT q (by assumption)) (tw_w_cr hT k (q + 1))
    · exact Cr_nil
theorem tw_mem {T : Nat → Int} {n : Nat} (hn : n ≤ 160) (hT : ∀ i, i < n → 0 ≤ T i ∧ T i ≤ 65535) : ∀ k p, p ≤ n → ∀ w ∈ tw T n k p, w.length ≤ 160 ∧ Cr w ∧ w ≠ []
  | 0, p, _, w, h => by unfold tw at h; cases h
  | k + 1, p, hp, w, h => by
    unfold tw at h
    split at h
    · rename_i h1
      split at h
      · exact tw_mem hn hT k (p + 1) (by omega) w h
      · rename_i h2
        have z := tw_w_le T n n p hp
        rcases List.mem_cons.mp h with h | h
        · rw [h]
          refine ⟨by omega, tw_w_cr hT n p, ?_⟩
          rw [(tw_w_pos T h1 h2).1]; exact List.cons_ne_nil _ _
        · exact tw_mem hn hT k _ z.2 w h
    · cases h
theorem tx_mem {T : Nat → Int} {n : Nat} (hn : n ≤ 160) (hT : ∀ i, i < n → 0 ≤ T i ∧ T i ≤ 65535) : ∀ w ∈ tx_ws T n, w.length ≤ 160 ∧ Cr w ∧ w ≠ [] := tw_mem hn hT n 0 (by omega)
section QH
variable {fs : List (List Int)} {cols recs : Nat} {μ : am_M} {ws r : List (List Int)} {s : QC}
def FH (μ μ' : am_M) : Prop := ∀ c t, ¬ (c = 141 ∧ 4 ≤ t) → ¬ (186 ≤ c ∧ c ≤ 195) → μ' c t = μ c t
theorem FH.refl (μ : am_M) : FH μ μ := fun _ _ _ _ => rfl
theorem FH.trans {μ μ1 μ2 : am_M} (h : FH μ μ1) (g : FH μ1 μ2) : FH μ μ2 := fun c t c1 c2 => by rw [g c t c1 c2, h c t c1 c2]
theorem FQ.fh {μ μ1 : am_M} (h : FQ μ μ1) : FH μ μ1 := fun c t c1 c2 => h c t (by omega) c2
theorem FH.up {μ : am_M} {t : Nat} (h : 4 ≤ t) (x : Int) : FH μ (am_up μ 141 t x) := fun c u c1 c2 => by
  by_cases hc : c = 141
  · exact am_up_s _ _ (by omega)
  · exact am_up_c _ _ hc
theorem Qs.up2 (h : Qs fs cols recs μ ws r s) {t : Nat} (ht : 5 ≤ t) (ht2 : t ≤ 8) (x : Int) : Qs fs cols recs (am_up μ 141 t x) ws r s := by
  obtain ⟨h1, h2, h3, h4, h5, h6, h7, h8⟩ := h
  have g : ∀ c u, c ≠ 141 → am_up μ 141 t x c u = μ c u := fun c u hc => am_up_c _ _ hc
  exact ⟨h1.fr (am_up_s _ _ (by omega)) (am_up_s _ _ (by omega)) (fun c t c1 c2 => g c t (by omega)), by rw [am_up_s _ _ (by omega)]; exact h2, h3, fun j hj => ⟨(h4 j hj).1.fr (fun q t _ _ _ => g q t (by omega)), (h4 j hj).2⟩, by rw [am_up_s _ _ (by omega)]; exact h5, by rw [am_up_s _ _ (by omega)]; exact h6, by rw [am_up_s _ _ (by omega)]; exact h7, h8.fw (fun c t hc => g c t (by omega))⟩
theorem fn61_ok (h : Qs fs cols recs μ ws r s) : ∃ μ', fn61 141 μ = some (if q_mk (hdW r) = -1 then 0 else 1, μ') ∧ FH μ μ' ∧ Qs fs cols recs μ' ws r.tail s ∧ μ' 141 5 = q_mk (hdW r) ∧ μ' 141 8 = μ 141 8 := by
  obtain ⟨a, μ1, p1, p2, p3, p4⟩ := h.take
  unfold fn61
  rw [p1, am_op_some]
  dsimp only
  rw [Int.toNat_natCast, fnis_ok p3 (by decide) (by decide), am_op_some]
  dsimp only
  have fin : ∀ x, q_mk (hdW r) = x → ∃ μ', (if (am_up μ1 141 5 x) 141 5 = -1 then some ((0 : Int), am_up μ1 141 5 x) else some (1, am_up μ1 141 5 x)) = some (if q_mk (hdW r) = -1 then 0 else 1, μ') ∧ FH μ μ' ∧ Qs fs cols recs μ' ws r.tail s ∧ μ' 141 5 = q_mk (hdW r) ∧ μ' 141 8 = μ 141 8 := fun x hx => by
    refine ⟨am_up μ1 141 5 x, ?_, p4.fh.trans (FH.up (by decide) _), p2.up2 (by decide) (by decide) _, by rw [am_up_at, hx], by rw [am_up_s _ _ (by decide), p4 _ _ (by omega) (by omega)]⟩
    rw [am_up_at, hx]
    split <;> rfl
  by_cases h1 : hdW r = lit 2
  · rw [if_neg (by rw [decide_eq_true h1]; decide)]
    exact fin 0 (by unfold q_mk; rw [if_pos h1])
  · rw [if_pos (by rw [decide_eq_false h1]; rfl), fnis_ok p3 (by decide) (by decide), am_op_some]
    dsimp only
    by_cases h2 : hdW r = lit 3
    · rw [if_neg (by rw [decide_eq_true h2]; decide)]
      exact fin 1 (by unfold q_mk; rw [if_neg h1, if_pos h2])
    · rw [if_pos (by rw [decide_eq_false h2]; rfl), fnis_ok p3 (by decide) (by decide), am_op_some]
      dsimp only
      by_cases h3 : hdW r = lit 4
      · rw [if_neg (by rw [decide_eq_true h3]; decide)]
        exact fin 2 (by unfold q_mk; rw [if_neg h1, if_neg h2, if_pos h3])
      · rw [if_pos (by rw [decide_eq_false h3]; rfl)]
        exact fin (-1) (by unfold q_mk; rw [if_neg h1, if_neg h2, if_neg h3])
theorem fn64_ok (h : Qs fs cols recs μ ws r s) : ∃ μ', fn64 141 5 μ = some (if hdW r = lit 5 ∧ colN fs cols (hdW r.tail) ≠ -1 then 1 else 0, μ') ∧ FH μ μ' ∧ (hdW r = lit 5 ∧ colN fs cols (hdW r.tail) ≠ -1 → Qs fs cols recs μ' ws r.tail.tail s ∧ μ' 141 5 = μ 141 5 ∧ μ' 141 6 = colN fs cols (hdW r.tail) ∧ μ' 141 8 = μ 141 8) := by
  obtain ⟨a, μ1, p1, p2, p3, p4⟩ := h.take
  obtain ⟨a', μ2, q1, q2, q3, q4⟩ := p2.take
  unfold fn64
  rw [p1, am_op_some]
  dsimp only
  rw [Int.toNat_natCast, fnis_ok p3 (by decide) (by decide), am_op_some]
  dsimp only
  by_cases h1 : hdW r = lit 5
  · have hT := q2.2.2.2.2.2.2.2
    rw [if_neg (by rw [decide_eq_true h1]; decide), q1, am_op_some]
    dsimp only
    rw [Int.toNat_natCast, fn63_ok hT q3, am_op_some]
    dsimp only
    refine ⟨am_up μ2 141 6 (colN fs cols (hdW r.tail)), ?_, (p4.trans q4).fh.trans (FH.up (by decide) _), fun _ => ⟨q2.up2 (by decide) (by decide) _, by rw [am_up_s _ _ (by decide)]; exact (p4.trans q4) _ _ (by omega) (by omega), am_up_at _ _ _ _, by rw [am_up_s _ _ (by decide)]; exact (p4.trans q4) _ _ (by omega) (by omega)⟩⟩
    rw [am_up_at]
    by_cases h2 : colN fs cols (hdW r.tail) = -1
    · rw [if_pos h2, if_neg (fun z => z.2 h2)]
    · rw [if_neg h2, if_pos ⟨h1, h2⟩]
  · rw [if_pos (by rw [decide_eq_false h1]; rfl), if_neg (fun z => h1 z.1)]
    exact ⟨μ1, rfl, p4.fh, fun z => absurd z.1 h1⟩
theorem fn65_ok {a : Nat} {w : List Int} (h : Wc μ a w) : fn65 a μ = some (q_me w, μ) := by
  unfold fn65 q_me
  rw [fnis_ok h (by decide) (by decide), am_op_some]
  dsimp only
  by_cases h1 : w = lit 7
  · rw [if_pos h1, if_neg (by rw [decide_eq_true h1]; decide)]
  · rw [if_neg h1, if_pos (by rw [decide_eq_false h1]; rfl), fnis_ok h (by decide) (by decide), am_op_some]
    dsimp only
    by_cases h2 : w = lit 8
    · rw [if_pos h2, if_neg (by rw [decide_eq_true h2]; decide)]
    · rw [if_neg h2, if_pos (by rw [decide_eq_false h2]; rfl), fnis_ok h (by decide) (by decide), am_op_some]
      dsimp only
      by_cases h3 : w = lit 9
      · rw [if_pos h3, if_neg (by rw [decide_eq_true h3]; decide)]
      · rw [if_neg h3, if_pos (by rw [decide_eq_false h3]; rfl), fnis_ok h (by decide) (by decide), am_op_some]
        dsimp only
        by_cases h4 : w = lit 10
        · rw [if_pos h4, if_neg (by rw [decide_eq_true h4]; decide)]
        · rw [if_neg h4, if_pos (by rw [decide_eq_false h4]; rfl), fnis_ok h (by decide) (by decide), am_op_some]
          dsimp only
          by_cases h5 : w = lit 11
          · rw [if_pos h5, if_neg (by rw [decide_eq_true h5]; decide)]
          · rw [if_neg h5, if_pos (by rw [decide_eq_false h5]; rfl)]
theorem fn45_ty {ty : Nat → Int} (hY : ∀ c, c < cols → μ 140 c = ty c) (h5 : cols ≤ 5) {x : Int} (h0 : 0 ≤ x) (h1 : x < (cols : Int)) : fn45 5 x μ = some (ty x.toNat, μ) := by
  unfold fn45
  rw [rf_1.2.2.2.2.2.2.2.2.1, rf_1.2.2.2.2.2.2.2.2.2.2, if_neg (by omega), if_pos (by omega), if_pos (by omega), hY _ (by omega)]
/-- readY; what it keeps is said where it is good -/
def yR (fs : List (List Int)) (cols : Nat) (ty : Nat → Int) (r : List (List Int)) : Option (List (List Int) × Int × Int) :=
  if hdW r = lit 6 then
    (if q_me (hdW r.tail) = -1 then none else
     if q_me (hdW r.tail) = 0 then some (r.tail.tail, 0, -1) else
     if colN fs cols (hdW r.tail.tail) = -1 then none else
     if ty (colN fs cols (hdW r.tail.tail)).toNat = 1 then some (r.tail.tail.tail, q_me (hdW r.tail), colN fs cols (hdW r.tail.tail)) else none)
  else none
def Yres (fs : List (List Int)) (cols recs : Nat) (x : Option (Int × am_M)) (μ μ' : am_M) (ws : List (List Int)) (s : QC) (o : Option (List (List Int) × Int × Int)) : Prop :=
  match o with
  | none => x = some (0, μ')
  | some p => x = some (1, μ') ∧ Qs fs cols recs μ' ws p.1 s ∧ μ' 141 5 = μ 141 5 ∧ μ' 141 6 = μ 141 6 ∧ μ' 141 7 = p.2.1 ∧ μ' 141 8 = p.2.2
theorem fn66_ok {ty : Nat → Int} (h : Qs fs cols recs μ ws r s) (hY : ∀ c, c < cols → μ 140 c = ty c) (h8 : μ 141 8 = -1) : ∃ μ', FH μ μ' ∧ Yres fs cols recs (fn66 141 5 μ) μ μ' ws s (yR fs cols ty r) := by
  obtain ⟨a, μ1, p1, p2, p3, p4⟩ := h.take
  obtain ⟨a', μ2, q1, q2, q3, q4⟩ := p2.take
  have hT5 := q2.2.2.2.2.2.2.2.2.2.2.1
  unfold fn66 yR
  rw [p1, am_op_some]
  dsimp only
  rw [Int.toNat_natCast, fnis_ok p3 (by decide) (by decide), am_op_some]
  dsimp only
  by_cases h1 : hdW r = lit 6
  · rw [if_pos h1, if_neg (show ¬ (bI (decide (hdW r = lit 6)) = 0) by rw [decide_eq_true h1]; decide), q1, am_op_some]
    dsimp only
    rw [Int.toNat_natCast, fn65_ok q3, am_op_some]
    dsimp only
    have g3 : FH μ (am_up μ2 141 7 (q_me (hdW r.tail))) := (p4.trans q4).fh.trans (FH.up (by decide) _)
    have q5 : Qs fs cols recs (am_up μ2 141 7 (q_me (hdW r.tail))) ws r.tail.tail s := q2.up2 (by decide) (by decide) _
    have k5 : ∀ t, t ≤ 8 → 5 ≤ t → t ≠ 7 → am_up μ2 141 7 (q_me (hdW r.tail)) 141 t = μ 141 t := fun t t1 t2 t3 => by rw [am_up_s _ _ t3, (p4.trans q4) _ _ (by omega) (by omega)]
    have k7 : am_up μ2 141 7 (q_me (hdW r.tail)) 141 7 = q_me (hdW r.tail) := am_up_at _ _ _ _
    generalize am_up μ2 141 7 (q_me (hdW r.tail)) = μ3 at *
    by_cases h2 : q_me (hdW r.tail) = -1
    · rw [if_pos h2, if_pos (show μ3 141 7 = -1 by omega), if_neg (show ¬ (μ3 141 7 = 0) by omega)]
      exact ⟨μ3, g3, rfl⟩
    · rw [if_neg h2, if_neg (show ¬ (μ3 141 7 = -1) by omega)]
      by_cases h3 : q_me (hdW r.tail) = 0
      · rw [if_pos h3, if_pos (show μ3 141 7 = 0 by omega), if_pos (show μ3 141 7 = 0 by omega)]
        exact ⟨μ3, g3, rfl, q5, k5 5 (by omega) (by omega) (by omega), k5 6 (by omega) (by omega) (by omega), (by show μ3 141 7 = 0; omega), by rw [k5 8 (by omega) (by omega) (by omega)]; exact h8⟩
      · obtain ⟨a2, μ4, t1, t2, t3, t4⟩ := q5.take
        have hT := t2.2.2.2.2.2.2.2
        rw [if_neg h3, if_neg (show ¬ (μ3 141 7 = 0) by omega), t1, am_op_some]
        dsimp only
        rw [Int.toNat_natCast, fn63_ok hT t3, am_op_some]
        dsimp only
        have hrg := colN_rng fs cols (hdW r.tail.tail)
        generalize colN fs cols (hdW r.tail.tail) = cn at *
        have g6 : FH μ (am_up μ4 141 8 cn) := g3.trans (t4.fh.trans (FH.up (by decide) _))
        have e8 : am_up μ4 141 8 cn 141 8 = cn := am_up_at _ _ _ _
        by_cases h4 : cn = -1
        · rw [if_pos h4, if_pos (by rw [e8]; exact h4)]
          exact ⟨_, g6, rfl⟩
        · have hY2 : ∀ c, c < cols → (am_up μ4 141 8 cn) 140 c = ty c := fun c hc => by rw [g6 _ _ (by omega) (by omega)]; exact hY c hc
          rw [if_neg h4, if_neg (by rw [e8]; exact h4), fn45_ty hY2 hT5 (by rw [e8]; omega) (by rw [e8]; omega), am_op_some]
          dsimp only
          rw [e8]
          by_cases h5 : ty cn.toNat = 1
          · rw [if_pos h5, if_pos h5]
            exact ⟨_, g6, rfl, t2.up2 (by decide) (by decide) _, by rw [am_up_s _ _ (by decide), t4 _ _ (by omega) (by omega), k5 5 (by omega) (by omega) (by omega)], by rw [am_up_s _ _ (by decide), t4 _ _ (by omega) (by omega), k5 6 (by omega) (by omega) (by omega)], by rw [am_up_s _ _ (by decide), t4 _ _ (by omega) (by omega), k7], e8⟩
          · rw [if_neg h5, if_neg h5]
            exact ⟨_, g6, rfl⟩
  · rw [if_neg h1, if_pos (by rw [decide_eq_false h1]; rfl)]
    exact ⟨μ1, p4.fh, rfl⟩
/-- the clauses, one after another -/
theorem L77_50_ok : ∀ (k N i : Nat) (μ : am_M) (r : List (List Int)) (s : QC) (x : Int), k < N → x = i → r.length ≤ k → i + k ≤ 20 → Qs fs cols recs μ ws r s → ∃ x' μ', FQ μ μ' ∧ match q_run fs cols k r s with
    | none => L77_50 141 5 N 1 x μ = some (.inr (0, x', μ'))
    | some s' => L77_50 141 5 N 1 x μ = some (.inr (1, x', μ')) ∧ Qs fs cols recs μ' ws [] s'
  | k, 0, _, _, _, _, _, hN, _, _, _, _ => absurd hN (by omega)
  | 0, N + 1, i, μ, r, s, x, hN, hx, hr, hi, h => by
    have e : r = [] := List.length_eq_zero_iff.mp (by omega)
    subst e
    have h4 : ¬ μ 141 4 < μ 141 3 := by
      obtain ⟨⟨h1, -⟩, h3, -, -, k, h6, h7, h8⟩ := h.1
      have := congrArg List.length h8
      simp at this
      omega
    rw [L77_50, if_neg (by decide)]
    unfold q_run
    rw [if_pos rfl]
    refine ⟨x, μ, FQ.refl _, ?_, h⟩
    rw [if_neg h4]
    split <;> rfl
  | k + 1, N + 1, i, μ, r, s, x, hN, hx, hr, hi, h => by
    rw [L77_50, if_neg (by decide), if_pos (by omega)]
    unfold q_run
    by_cases hne : r = []
    · subst hne
      have h4 : ¬ μ 141 4 < μ 141 3 := by
        obtain ⟨⟨h1, -⟩, h3, -, -, k, h6, h7, h8⟩ := h.1
        have := congrArg List.length h8
        simp at this
        omega
      rw [if_pos rfl, if_neg h4]
      exact ⟨x, μ, FQ.refl _, rfl, h⟩
    · have h4 : μ 141 4 < μ 141 3 := by
        obtain ⟨⟨h1, -⟩, h3, -, -, k, h6, h7, h8⟩ := h.1
        have : r.length ≠ 0 := fun e => hne (List.length_eq_zero_iff.mp e)
        have := congrArg List.length h8
        simp at this
        omega
      rw [if_neg hne, if_pos h4]
      obtain ⟨μ1, f1, q1⟩ := fn73_ok h
      cases hc : q_cl fs cols r s with
      | none =>
        rw [hc] at q1
        dsimp only at q1 ⊢
        rw [q1, am_op_some]
        obtain ⟨N', rfl⟩ : ∃ N', N = N' + 1 := ⟨N - 1, by omega⟩
        refine ⟨w32 (x + 1), μ1, f1, ?_⟩
        dsimp only
        rw [L77_50, if_pos rfl]
      | some p =>
        obtain ⟨r1, s1⟩ := p
        rw [hc] at q1
        obtain ⟨q1, q2⟩ := q1
        obtain ⟨z1, z2, z3, z4, -⟩ := q_cl_st hc h.2.2.1
        rw [q1, am_op_some]
        dsimp only
        rw [w32_id (by omega) (by omega)]
        obtain ⟨x', μ', f2, t⟩ := L77_50_ok k N (i + 1) μ1 r1 s1 (x + 1) (by omega) (by omega) (by omega) (by omega) q2
        exact ⟨x', μ', f1.trans f2, t⟩
end QH
