/-! readText as a whole. -/
section RZ
variable {fs : List (List Int)} {cols recs : Nat} {ty : Nat → Int}
def Ures (fs : List (List Int)) (cols recs : Nat) (ty : Nat → Int) (x : Option (Int × am_M)) (μ : am_M) (ws : List (List Int)) (s : QC) (o : Option (List (List Int) × Int × Int)) : Prop :=
  ∃ μ', FR μ μ' ∧ μ' 240 20 = μ 240 20 ∧ μ' 240 21 = μ 240 21 ∧ match o with | none => x = some (0, μ') | some p => x = some (1, μ') ∧ Rs fs cols recs ty μ' ws p.1 s ∧ μ' 240 22 = p.2.1 ∧ μ' 240 23 = p.2.2
theorem Ures.pre {x : Option (Int × am_M)} {μ μ1 : am_M} {ws : List (List Int)} {s o} (hf : F19 μ μ1) (h : Ures fs cols recs ty x μ1 ws s o) : Ures fs cols recs ty x μ ws s o := by
  obtain ⟨μ', q, q2, q3, h⟩ := h
  exact ⟨μ', hf.fr.trans q, by rw [q2, hf _ _ (by omega)], by rw [q3, hf _ _ (by omega)], h⟩
theorem Rs.up3 {μ : am_M} {ws r : List (List Int)} {s : QC} (h : Rs fs cols recs ty μ ws r s) {t : Nat} (ht : 20 ≤ t) (ht2 : t ≤ 23) (x : Int) : Rs fs cols recs ty (am_up μ 240 t x) ws r s :=
  h.up ht x rfl (by omega) (by rw [if_neg (by omega)]; exact h.2.2.2.2.2.2.1) (by rw [if_neg (by omega)]; exact h.2.2.2.2.2.2.2.1) (by rw [if_neg (by omega)]; exact h.2.2.2.2.2.2.2.2)
theorem yT_ok {μ : am_M} {ws r : List (List Int)} {s : QC} (h : Rs fs cols recs ty μ ws r s) {v : Int} (hv : -1 ≤ v) : Ures fs cols recs ty (yT v μ) μ ws s (if v = -1 then none else if v = 0 then some (r, 0, -1) else if colN fs cols (hdW r) = -1 then none else if ty (colN fs cols (hdW r)).toNat = 1 then some (r.tail, v, colN fs cols (hdW r)) else none) := by
  have h5 := h.2.1.2.2.2.1
  have q : Rs fs cols recs ty (am_up (am_up μ 240 22 v) 240 23 (-1)) ws r s := (h.up3 (by decide) (by decide) _).up3 (by decide) (by decide) _
  have f : FR μ (am_up (am_up μ 240 22 v) 240 23 (-1)) := (FR.up (by decide) (by decide) _).trans (FR.up (by decide) (by decide) _)
  have e20 : am_up (am_up μ 240 22 v) 240 23 (-1) 240 20 = μ 240 20 := by rw [am_up_s _ _ (by decide), am_up_s _ _ (by decide)]
  have e21 : am_up (am_up μ 240 22 v) 240 23 (-1) 240 21 = μ 240 21 := by rw [am_up_s _ _ (by decide), am_up_s _ _ (by decide)]
  have e22 : am_up (am_up μ 240 22 v) 240 23 (-1) 240 22 = v := by rw [am_up_s _ _ (by decide), am_up_at]
  have e23 : am_up (am_up μ 240 22 v) 240 23 (-1) 240 23 = -1 := am_up_at _ _ _ _
  unfold yT
  generalize am_up (am_up μ 240 22 v) 240 23 (-1) = μ1 at *
  by_cases v1 : v = -1
  · rw [if_pos v1, if_neg (show ¬ (0 < μ1 240 22) by omega), if_neg (show ¬ (μ1 240 22 = 0) by omega)]
    exact ⟨μ1, f, e20, e21, rfl⟩
  · rw [if_neg v1]
    by_cases v0 : v = 0
    · rw [if_pos v0, if_neg (show ¬ (0 < μ1 240 22) by omega), if_pos (show μ1 240 22 = 0 by omega)]
      exact ⟨μ1, f, e20, e21, rfl, q, by dsimp only; omega, e23⟩
    · obtain ⟨μ2, p1, p2, p3⟩ := q.col
      rw [if_neg v0, if_pos (show 0 < μ1 240 22 by omega), p1, am_op_some]
      dsimp only
      have hrg := colN_rng fs cols (hdW r)
      generalize colN fs cols (hdW r) = cn at *
      have a23 : am_up μ2 240 23 cn 240 23 = cn := am_up_at _ _ _ _
      have k1 : FR μ (am_up μ2 240 23 cn) := f.trans (p3.fr.trans (FR.up (by decide) (by decide) _))
      have k2 : am_up μ2 240 23 cn 240 20 = μ 240 20 := by rw [am_up_s _ _ (by decide), p3 _ _ (by omega), e20]
      have k3 : am_up μ2 240 23 cn 240 21 = μ 240 21 := by rw [am_up_s _ _ (by decide), p3 _ _ (by omega), e21]
      have k4 : am_up μ2 240 23 cn 240 22 = v := by rw [am_up_s _ _ (by decide), p3 _ _ (by omega), e22]
      have k5 : Rs fs cols recs ty (am_up μ2 240 23 cn) ws r.tail s := p2.up3 (by decide) (by decide) _
      have k6 := k5.2.2.1
      generalize am_up μ2 240 23 cn = μ3 at *
      by_cases hc : cn = -1
      · rw [if_pos hc, if_pos (show μ3 240 23 < 0 by omega)]
        exact ⟨μ3, k1, k2, k3, rfl⟩
      · rw [if_neg hc, if_neg (show ¬ (μ3 240 23 < 0) by omega), if_pos (show (0 : Int) ≤ μ3 240 23 ∧ μ3 240 23 < ((5 : Nat) : Int) by omega)]
        have e : μ3 246 (μ3 240 23).toNat = ty cn.toNat := by rw [a23]; exact k6 _ (by omega)
        by_cases t1 : ty cn.toNat = 1
        · rw [if_pos t1, if_pos (show μ3 246 (μ3 240 23).toNat = 1 by rw [e]; exact t1)]
          exact ⟨μ3, k1, k2, k3, rfl, k5, k4, a23⟩
        · rw [if_neg t1, if_neg (show ¬ (μ3 246 (μ3 240 23).toNat = 1) by rw [e]; exact t1)]
          exact ⟨μ3, k1, k2, k3, rfl⟩
def yR2 (fs : List (List Int)) (cols : Nat) (ty : Nat → Int) (r : List (List Int)) : Option (List (List Int) × Int × Int) :=
  if q_me (hdW r) = -1 then none else if q_me (hdW r) = 0 then some (r.tail, 0, -1) else if colN fs cols (hdW r.tail) = -1 then none else if ty (colN fs cols (hdW r.tail)).toNat = 1 then some (r.tail.tail, q_me (hdW r), colN fs cols (hdW r.tail)) else none
theorem fn187_ok {μ : am_M} {ws r : List (List Int)} {s : QC} (h : Rs fs cols recs ty μ ws r s) : Ures fs cols recs ty (fn187 240 μ) μ ws s (yR2 fs cols ty r) := by
  obtain ⟨-, -, -, -, -, v7, v8, v9, v10, v11, -⟩ := pk_v
  obtain ⟨-, -, -, -, -, w7, w8, w9, w10, w11, -⟩ := pk_l
  obtain ⟨r4, l4, r17, l17, r18, l18, r10, l10, r11, l11, r15, l15, -⟩ := rf_8
  have T7 := h.takes (t := 7) (by decide) (by decide) (P := 427071729268) (n := 5) v7.symm (by rw [w7]; rfl)
  have T8 := h.takes (t := 8) (by decide) (by decide) (P := 7566701) (n := 3) v8.symm (by rw [w8]; rfl)
  have T9 := h.takes (t := 9) (by decide) (by decide) (P := 1835360622) (n := 4) v9.symm (by rw [w9]; rfl)
  have T10 := h.takes (t := 10) (by decide) (by decide) (P := 7170414) (n := 3) v10.symm (by rw [w10]; rfl)
  have T11 := h.takes (t := 11) (by decide) (by decide) (P := 7168376) (n := 3) v11.symm (by rw [w11]; rfl)
  have fin : ∀ (μ1 : am_M) (v : Int), F19 μ μ1 → Rs fs cols recs ty μ1 ws r.tail s → -1 ≤ v → v = q_me (hdW r) → Ures fs cols recs ty (yT v μ1) μ ws s (yR2 fs cols ty r) := fun μ1 v f q hv e => by
    have := (yT_ok q hv).pre f
    unfold yR2
    rw [← e]
    exact this
  unfold fn187
  rw [r15, l15]
  by_cases c7 : hdW r = lit 7
  · obtain ⟨μ1, p1, p2, p3⟩ := T7.1 c7
    rw [p1, am_op_some]
    dsimp only
    rw [if_neg (show ¬ ((1 : Int) = 0) by decide)]
    exact fin μ1 0 p3 p2 (by decide) (by unfold q_me; rw [if_pos c7])
  · rw [T7.2 c7, am_op_some]
    dsimp only
    rw [if_pos (show (0 : Int) = 0 from rfl)]
    by_cases c8 : hdW r = lit 8
    · obtain ⟨μ1, p1, p2, p3⟩ := T8.1 c8
      rw [p1, am_op_some]
      dsimp only
      rw [if_neg (show ¬ ((1 : Int) = 0) by decide)]
      exact fin μ1 1 p3 p2 (by decide) (by unfold q_me; rw [if_neg c7, if_pos c8])
    · rw [T8.2 c8, am_op_some]
      dsimp only
      rw [if_pos (show (0 : Int) = 0 from rfl)]
      by_cases c9 : hdW r = lit 9
      · obtain ⟨μ1, p1, p2, p3⟩ := T9.1 c9
        rw [p1, am_op_some]
        dsimp only
        rw [if_neg (show ¬ ((1 : Int) = 0) by decide)]
        exact fin μ1 2 p3 p2 (by decide) (by unfold q_me; rw [if_neg c7, if_neg c8, if_pos c9])
      · rw [T9.2 c9, am_op_some]
        dsimp only
        rw [if_pos (show (0 : Int) = 0 from rfl)]
        by_cases c10 : hdW r = lit 10
        · obtain ⟨μ1, p1, p2, p3⟩ := T10.1 c10
          rw [p1, am_op_some]
          dsimp only
          rw [if_neg (show ¬ ((1 : Int) = 0) by decide)]
          exact fin μ1 3 p3 p2 (by decide) (by unfold q_me; rw [if_neg c7, if_neg c8, if_neg c9, if_pos c10])
        · rw [T10.2 c10, am_op_some]
          dsimp only
          rw [if_pos (show (0 : Int) = 0 from rfl)]
          by_cases c11 : hdW r = lit 11
          · obtain ⟨μ1, p1, p2, p3⟩ := T11.1 c11
            rw [p1, am_op_some]
            dsimp only
            rw [if_neg (show ¬ ((1 : Int) = 0) by decide)]
            exact fin μ1 4 p3 p2 (by decide) (by unfold q_me; rw [if_neg c7, if_neg c8, if_neg c9, if_neg c10, if_pos c11])
          · rw [T11.2 c11, am_op_some]
            dsimp only
            rw [if_pos (show (0 : Int) = 0 from rfl)]
            have e : q_me (hdW r) = -1 := by unfold q_me; rw [if_neg c7, if_neg c8, if_neg c9, if_neg c10, if_neg c11]
            have z : yR2 fs cols ty r = none := by unfold yR2; rw [if_pos e]
            obtain ⟨μ', y1, y2, y3, y4⟩ := yT_ok (v := -1) h (by decide)
            rw [if_pos rfl] at y4
            rw [z]
            exact ⟨μ', y1, y2, y3, y4⟩
def Rfin (cols : Nat) (μ : am_M) (ws : List (List Int)) (h : Int × Int × Int × Int) (s : QC) : Prop :=
  RW μ ws ∧ μ 240 20 = h.1 ∧ μ 240 21 = h.2.1 ∧ μ 240 22 = h.2.2.1 ∧ μ 240 23 = h.2.2.2 ∧ μ 240 24 = ((s.1.length : Nat) : Int) ∧ s.1.length ≤ 2 ∧ (∀ j, j < s.1.length → Rd cols μ ws j (s.1.getD j (0, [], []))) ∧ μ 240 28 = s.2.1 ∧ μ 240 29 = s.2.2.1 ∧ μ 240 30 = if s.2.2.2 = 0 then 5 else s.2.2.2
def q_h1 (fs : List (List Int)) (cols : Nat) (ty : Nat → Int) (v : Int) (r : List (List Int)) : Option (List (List Int) × Int × Int × Int × Int) :=
  if v = -1 then none else if hdW r = lit 5 ∧ colN fs cols (hdW r.tail) ≠ -1 then (match yR fs cols ty r.tail.tail with | none => none | some p => some (p.1, v, colN fs cols (hdW r.tail), p.2.1, p.2.2)) else none
theorem mT_ok {μ : am_M} {ws r : List (List Int)} (h : Rs fs cols recs ty μ ws r ([], 0, -1, 0)) (ht : ∀ c, c < cols → ty c = 1 ∨ ty c = 2 ∨ ty c = 3) (hcr : ∀ w ∈ ws, Cr w) (hl : r.length ≤ 80) {v : Int} (hv : -1 ≤ v) :
    ∃ μ', FR μ μ' ∧ ((∃ p s, q_h1 fs cols ty v r = some p ∧ q_run fs cols p.1.length p.1 ([], 0, -1, 0) = some s ∧ q_ok ty p.2.1 p.2.2.2.1 s ∧ mT v μ = some (1, μ') ∧ Rfin cols μ' ws p.2 s) ∨ ((∀ p s, q_h1 fs cols ty v r = some p → q_run fs cols p.1.length p.1 ([], 0, -1, 0) = some s → ¬ q_ok ty p.2.1 p.2.2.2.1 s) ∧ mT v μ = some (0, μ'))) := by
  have q0 : Rs fs cols recs ty (am_up μ 240 20 v) ws r ([], 0, -1, 0) := h.up3 (by decide) (by decide) _
  have f0 : FR μ (am_up μ 240 20 v) := FR.up (by decide) (by decide) _
  have e20 : am_up μ 240 20 v 240 20 = v := am_up_at _ _ _ _
  unfold mT q_h1
  generalize am_up μ 240 20 v = μ0 at *
  by_cases v1 : v = -1
  · rw [if_pos (show μ0 240 20 < 0 by omega), if_pos v1]
    exact ⟨μ0, f0, Or.inr ⟨(fun p s z => by cases z), rfl⟩⟩
  · rw [if_neg (show ¬ (μ0 240 20 < 0) by omega), if_neg v1]
    obtain ⟨-, -, -, v5, v6, -⟩ := pk_v
    obtain ⟨-, -, -, w5, w6, -⟩ := pk_l
    have T5 := q0.takes (t := 5) (by decide) (by decide) (P := 120) (n := 1) v5.symm (by rw [w5]; rfl)
    by_cases c5 : hdW r = lit 5
    · obtain ⟨μ1, p1, p2, p3⟩ := T5.1 c5
      rw [p1, am_op_some]
      dsimp only
      rw [if_neg (show ¬ ((1 : Int) = 0) by decide)]
      obtain ⟨μ2, a1, a2, a3⟩ := p2.col
      rw [a1, am_op_some]
      dsimp only
      have hrg := colN_rng fs cols (hdW r.tail)
      generalize colN fs cols (hdW r.tail) = cn at *
      have b1 : Rs fs cols recs ty (am_up μ2 240 21 cn) ws r.tail.tail ([], 0, -1, 0) := a2.up3 (by decide) (by decide) _
      have b2 : FR μ (am_up μ2 240 21 cn) := f0.trans (p3.fr.trans (a3.fr.trans (FR.up (by decide) (by decide) _)))
      have b20 : am_up μ2 240 21 cn 240 20 = v := by rw [am_up_s _ _ (by decide), a3 _ _ (by omega), p3 _ _ (by omega), e20]
      have b21 : am_up μ2 240 21 cn 240 21 = cn := am_up_at _ _ _ _
      generalize am_up μ2 240 21 cn = μ3 at *
      by_cases hc : cn = -1
      · rw [if_pos (show μ3 240 21 < 0 by omega), if_neg (fun z => z.2 hc)]
        exact ⟨μ3, b2, Or.inr ⟨(fun p s z => by cases z), rfl⟩⟩
      · rw [if_neg (show ¬ (μ3 240 21 < 0) by omega), if_pos ⟨c5, hc⟩]
        have T6 := b1.takes (t := 6) (by decide) (by decide) (P := 121) (n := 1) v6.symm (by rw [w6]; rfl)
        by_cases c6 : hdW r.tail.tail = lit 6
        · obtain ⟨μ4, d1, d2, d3⟩ := T6.1 c6
          rw [d1, am_op_some]
          dsimp only
          rw [if_neg (show ¬ ((1 : Int) = 0) by decide)]
          have ey : yR fs cols ty r.tail.tail = yR2 fs cols ty r.tail.tail.tail := by unfold yR yR2; rw [if_pos c6]
          obtain ⟨μ5, g1, g20, g21, g2⟩ := fn187_ok d2
          have f5 : FR μ μ5 := b2.trans (d3.fr.trans g1)
          rw [ey]
          cases hy : yR2 fs cols ty r.tail.tail.tail with
          | none =>
            rw [hy] at g2
            rw [show fn187 240 μ4 = some (0, μ5) from g2, am_op_some]
            exact ⟨μ5, f5, Or.inr ⟨(fun p s z => by cases z), rfl⟩⟩
          | some p =>
            obtain ⟨r', me, y⟩ := p
            rw [hy] at g2
            obtain ⟨g2, g3, g4, g5⟩ := g2
            dsimp only at g3 g4 g5
            rw [g2, am_op_some]
            dsimp only
            rw [if_neg (show ¬ ((1 : Int) = 0) by decide)]
            have hr' : r'.length ≤ 80 := by
              obtain ⟨x1, x2, k, x3, x4, x5⟩ := g3.1
              rw [x5, List.length_drop]
              have := x1.2.1
              omega
            have h20 : μ5 240 20 = v := by rw [g20, d3 _ _ (by omega), b20]
            have h21 : μ5 240 21 = cn := by rw [g21, d3 _ _ (by omega), b21]
            have hok0 : q_ok ty v me ([], 0, -1, 0) := ⟨(fun c hc => by cases hc), Or.inl rfl⟩
            obtain ⟨μ6, j1, j2, j3⟩ := L191_ok (mk := v) (me := me) ht hcr r'.length am_fuel μ5 r' ([], 0, -1, 0) (by unfold am_fuel; omega) (by omega) g3 hok0 (Or.inl rfl) h20 g4
            have f6 := f5.trans j1
            cases hrun : q_runR fs cols (q_ok ty v me) r'.length r' ([], 0, -1, 0) with
            | none =>
              rw [hrun] at j3
              rw [show L191_136 240 am_fuel 1 μ5 = some (.inr (0, μ6)) from j3, am_op_some, am_lp_r]
              dsimp only
              have no : ∀ p s, (some (r', v, cn, me, y) : Option (List (List Int) × Int × Int × Int × Int)) = some p → q_run fs cols p.1.length p.1 ([], 0, -1, 0) = some s → ¬ q_ok ty p.2.1 p.2.2.2.1 s := fun p s z z2 z3 => by
                injection z with z
                subst z
                have := (q_runR_eq (fs := fs) (cols := cols) (ty := ty) (mk := v) (me := me) r'.length r' ([], 0, -1, 0) s (by simp) hok0).mpr ⟨z2, z3⟩
                rw [hrun] at this
                cases this
              by_cases h30 : μ6 240 30 = 0
              · rw [if_pos h30, if_pos (by decide)]
                exact ⟨_, f6.trans (FR.up (by decide) (by decide) _), Or.inr ⟨no, rfl⟩⟩
              · rw [if_neg h30, if_pos (by decide)]
                exact ⟨_, f6.trans (FR.up (by decide) (by decide) _), Or.inr ⟨no, rfl⟩⟩
            | some s =>
              rw [hrun] at j3
              obtain ⟨j3, j4⟩ := j3
              rw [j3, am_op_some, am_lp_r]
              dsimp only
              obtain ⟨z1, z2⟩ := (q_runR_eq (fs := fs) (cols := cols) (ty := ty) (mk := v) (me := me) r'.length r' ([], 0, -1, 0) s (by simp) hok0).mp hrun
              obtain ⟨m1, m2, m3, m4, m5, m6, m7, m8, m9⟩ := j4
              have rf : ∀ x, x = (if s.2.2.2 = 0 then 5 else s.2.2.2) → Rfin cols (am_up μ6 240 30 x) ws (v, cn, me, y) s := fun x hx => by
                have g : ∀ c t, ¬ (c = 240 ∧ t = 30) → am_up μ6 240 30 x c t = μ6 c t := fun c t hct => by
                  by_cases h9 : c = 240
                  · exact am_up_s _ _ (by omega)
                  · exact am_up_c _ _ h9
                refine ⟨m1.1.fr (g _ _ (by omega)) (fun c t hc => g c t (by omega)), ?_, ?_, ?_, ?_, by rw [g _ _ (by omega)]; exact m4, m5, fun j hj => ?_, by rw [g _ _ (by omega)]; exact m7, by rw [g _ _ (by omega)]; exact m8, by rw [am_up_at]; exact hx⟩
                · rw [g _ _ (by omega), j2 _ (by omega) (by omega)]; exact h20
                · rw [g _ _ (by omega), j2 _ (by omega) (by omega)]; exact h21
                · rw [g _ _ (by omega), j2 _ (by omega) (by omega)]; exact g4
                · rw [g _ _ (by omega), j2 _ (by omega) (by omega)]; exact g5
                · obtain ⟨y1, y2, y3, k, y4, y5⟩ := m6 j hj
                  exact ⟨by rw [g _ _ (by omega)]; exact y1, y2, by rw [g _ _ (by omega)]; exact y3, k, by rw [g _ _ (by omega)]; exact y4, y5⟩
              by_cases h30 : μ6 240 30 = 0
              · rw [if_pos h30, if_pos (by decide)]
                exact ⟨_, f6.trans (FR.up (by decide) (by decide) _), Or.inl ⟨(r', v, cn, me, y), s, rfl, z1, z2, rfl, rf 5 (by rw [if_pos (by omega)])⟩⟩
              · rw [if_neg h30, if_pos (by decide)]
                exact ⟨_, f6.trans (FR.up (by decide) (by decide) _), Or.inl ⟨(r', v, cn, me, y), s, rfl, z1, z2, rfl, rf _ (by rw [if_neg (by omega)]; exact m9)⟩⟩
        · have ey : yR fs cols ty r.tail.tail = none := by unfold yR; rw [if_neg c6]
          rw [T6.2 c6, am_op_some, ey]
          exact ⟨μ3, b2, Or.inr ⟨(fun p s z => by cases z), rfl⟩⟩
    · rw [T5.2 c5, am_op_some, if_neg (show ¬ (hdW r = lit 5 ∧ colN fs cols (hdW r.tail) ≠ -1) from fun z => c5 z.1)]
      exact ⟨μ0, f0, Or.inr ⟨(fun p s z => by cases z), rfl⟩⟩
end RZ
