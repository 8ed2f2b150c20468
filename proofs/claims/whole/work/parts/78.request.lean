/-! Request.read as a whole. -/
section QF
def q_hh (fs : List (List Int)) (cols : Nat) (ty : Nat → Int) (r : List (List Int)) : Option (List (List Int) × Int × Int × Int × Int) :=
  if q_mk (hdW r) = -1 then none else
  if hdW r.tail = lit 5 ∧ colN fs cols (hdW r.tail.tail) ≠ -1 then
    (match yR fs cols ty r.tail.tail.tail with
     | none => none
     | some p => some (p.1, q_mk (hdW r), colN fs cols (hdW r.tail.tail), p.2.1, p.2.2))
  else none
def q_all (fs : List (List Int)) (cols : Nat) (ty : Nat → Int) (ws : List (List Int)) : Option ((Int × Int × Int × Int) × QC) :=
  match q_hh fs cols ty ws with
  | none => none
  | some p => match q_run fs cols p.1.length p.1 ([], 0, -1, 0) with | none => none | some s => some (p.2, s)
def q_good (fs : List (List Int)) (cols : Nat) (ty : Nat → Int) (ws : List (List Int)) (h : Int × Int × Int × Int) (s : QC) : Prop := q_all fs cols ty ws = some (h, s) ∧ q_ok ty h.1 h.2.2.1 s
theorem yR_len {fs : List (List Int)} {cols : Nat} {ty : Nat → Int} {r : List (List Int)} {p} (h : yR fs cols ty r = some p) : r.length ≤ p.1.length + 3 := by
  unfold yR at h
  split at h
  · split at h
    · cases h
    · split at h
      · injection h with h; subst h; simp; omega
      · split at h
        · cases h
        · split at h
          · injection h with h; subst h; simp; omega
          · cases h
  · cases h
theorem q_hh_len {fs : List (List Int)} {cols : Nat} {ty : Nat → Int} {r : List (List Int)} {p} (h : q_hh fs cols ty r = some p) : r.length ≤ p.1.length + 6 := by
  unfold q_hh at h
  split at h
  · cases h
  · split at h
    · cases hy : yR fs cols ty r.tail.tail.tail with
      | none => rw [hy] at h; cases h
      | some x =>
        rw [hy] at h
        injection h with h
        have := yR_len hy
        subst h
        simp at this
        dsimp only
        omega
    · cases h
theorem q_all_len {fs : List (List Int)} {cols : Nat} {ty : Nat → Int} {ws : List (List Int)} {h s} (e : q_all fs cols ty ws = some (h, s)) : ws.length ≤ 20 ∧ s.1.length ≤ 2 := by
  unfold q_all at e
  cases hh : q_hh fs cols ty ws with
  | none => rw [hh] at e; cases e
  | some p =>
    rw [hh] at e
    dsimp only at e
    cases hr : q_run fs cols p.1.length p.1 ([], 0, -1, 0) with
    | none => rw [hr] at e; cases e
    | some s' =>
      rw [hr] at e
      injection e with e
      injection e with e1 e2
      subst e2
      have z1 := q_hh_len hh
      obtain ⟨z2, z3, -⟩ := q_run_ok (ty := ty) (mk := 0) (me := 0) _ _ _ _ (by simp) hr
      have z4 := q_us_le z2
      exact ⟨by omega, z2⟩
theorem q_fail (μ : am_M) : (am_op (L77_50 141 5 am_fuel 0 0 μ) (fun s => am_lp s (fun q1 => some q1) (fun t1 => (am_op (L77_87 141 5 am_fuel t1.1 0 t1.2.2) (fun s => am_lp s (fun q2 => some q2) (fun t2 => (if t2.1 = 0 then some (0, t2.2.2) else (am_op (fn76 141 t2.2.2) (fun z5 => (if z5.1 = 0 then some (0, z5.2) else some (1, z5.2)))))))))) : Option (Int × am_M)) = some (0, μ) := by
  rw [show am_fuel = 9999 + 1 from rfl, L77_50, if_pos rfl, am_op_some, am_lp_r]
  dsimp only
  rw [L77_87, if_pos rfl, am_op_some, am_lp_r]
  rfl
variable {fs : List (List Int)} {cols recs : Nat} {ty : Nat → Int}
def Qfin (fs : List (List Int)) (cols recs : Nat) (ty : Nat → Int) (μ : am_M) (h : Int × Int × Int × Int) (s : QC) : Prop :=
  μ 141 5 = h.1 ∧ μ 141 6 = h.2.1 ∧ μ 141 7 = h.2.2.1 ∧ μ 141 8 = h.2.2.2 ∧ μ 141 9 = ((s.1.length : Nat) : Int) ∧ s.1.length ≤ 2 ∧ (∀ j, j < s.1.length → Qd μ j (s.1.getD j (0, [], [])) ∧ (s.1.getD j (0, [], [])).1 < cols ∧ Qe ty μ j (s.1.getD j (0, [], []))) ∧ μ 141 10 = s.2.1 ∧ μ 141 11 = s.2.2.1 ∧ μ 141 12 = s.2.2.2
theorem getD_mem' {α : Type} {l : List α} {d : α} {P : α → Prop} : (∀ j, j < l.length → P (l.getD j d)) ↔ ∀ c ∈ l, P c := by
  constructor
  · intro h c hc
    obtain ⟨i, hi, rfl⟩ := List.mem_iff_getElem.mp hc
    have := h i hi
    rw [List.getD_eq_getElem?_getD, List.getElem?_eq_getElem hi] at this
    exact this
  · intro h j hj
    rw [List.getD_eq_getElem?_getD, List.getElem?_eq_getElem hj]
    exact h _ (List.getElem_mem hj)
theorem fn76_ok {μ : am_M} : ∃ b, fn76 141 μ = some (bI b, μ) ∧ (b = true ↔ (μ 141 11 = -1 ∨ (μ 141 5 = 0 ∧ (μ 141 7 = 0 ∨ μ 141 7 = 1)))) := by
  unfold fn76
  by_cases h1 : μ 141 11 = -1
  · rw [if_pos h1]; exact ⟨true, rfl, ⟨fun _ => Or.inl h1, fun _ => rfl⟩⟩
  · rw [if_neg h1]
    by_cases h2 : μ 141 5 = 0
    · rw [if_pos h2]
      by_cases h3 : μ 141 7 = 0
      · rw [if_pos h3]; exact ⟨true, rfl, ⟨fun _ => Or.inr ⟨h2, Or.inl h3⟩, fun _ => rfl⟩⟩
      · rw [if_neg h3]
        by_cases h4 : μ 141 7 = 1
        · rw [if_pos h4]; exact ⟨true, rfl, ⟨fun _ => Or.inr ⟨h2, Or.inr h4⟩, fun _ => rfl⟩⟩
        · rw [if_neg h4]; exact ⟨false, rfl, ⟨(fun z => by cases z), (fun z => by omega)⟩⟩
    · rw [if_neg h2]; exact ⟨false, rfl, ⟨(fun z => by cases z), (fun z => by omega)⟩⟩
theorem fn77_ok {T : Nat → Int} {n : Nat} {μ : am_M} (hS : TSrc μ T n) (hC : CT μ fs cols recs) (hY : ∀ c, c < cols → μ 140 c = ty c) (ht : ∀ c, c < cols → ty c = 1 ∨ ty c = 2 ∨ ty c = 3) (h183 : μ 183 1 = 0) :
    ∃ μ', (∀ c t, ¬ (141 ≤ c ∧ c ≤ 182) → ¬ (186 ≤ c ∧ c ≤ 195) → μ' c t = μ c t) ∧ ((∃ h s, q_good fs cols ty (tx_ws T n) h s ∧ fn77 141 3 5 μ = some (1, μ') ∧ Qfin fs cols recs ty μ' h s) ∨ ((∀ h s, ¬ q_good fs cols ty (tx_ws T n) h s) ∧ fn77 141 3 5 μ = some (0, μ'))) := by
  have hm := tx_mem hS.2.1 (fun i hi => (hS.2.2 i hi).2)
  have h5 : cols ≤ 5 := hC.2.2.2.1
  have g0 : ∃ μ0, fn49 141 μ = some (0, μ0) ∧ μ0 141 3 = 0 ∧ μ0 141 4 = 0 ∧ μ0 141 8 = -1 ∧ μ0 141 9 = 0 ∧ μ0 141 10 = 0 ∧ μ0 141 11 = -1 ∧ μ0 141 12 = 0 ∧ ∀ c t, c ≠ 141 → μ0 c t = μ c t := by
    refine ⟨_, rfl, ?_, ?_, ?_, ?_, ?_, ?_, ?_, fun c t hc => ?_⟩
    all_goals first | (simp [am_up, hc]; done) | (simp [am_up]; done)
  obtain ⟨μ0, e0, a3, a4, a8, a9, a10, a11, a12, aF⟩ := g0
  obtain ⟨μ1, e1, hW, f1⟩ := fn52_ok (hS.fr (μ' := μ0) (aF _ _ (by decide)) (fun i => aF _ _ (by decide))) a3
  have F1 : ∀ c t, ¬ (141 ≤ c ∧ c ≤ 182) → μ1 c t = μ c t := fun c t hc => by rw [f1 c t (by omega) (by omega), aF c t (by omega)]
  have K1 : ∀ t, t ≠ 3 → μ1 141 t = μ0 141 t := fun t h => f1 141 t (by omega) (by omega)
  generalize tx_ws T n = ws at *
  unfold fn77
  rw [e0, am_op_some]
  dsimp only
  rw [e1, am_op_some]
  dsimp only
  by_cases hl : ws.length ≤ 20
  · have q1 : Qs fs cols recs μ1 ws ws ([], 0, -1, 0) := ⟨⟨hW, hl, fun w hw => ⟨(hm w hw).1, (hm w hw).2.1⟩, by rw [F1 _ _ (by omega)]; exact h183, 0, by omega, by rw [K1 _ (by decide), a4]; rfl, rfl⟩, by rw [K1 _ (by decide), a9]; rfl, by simp, fun j hj => absurd hj (by simp), by rw [K1 _ (by decide), a10], by rw [K1 _ (by decide), a11], by rw [K1 _ (by decide), a12], hC.fw (fun c t hc => F1 c t (by omega))⟩
    rw [if_neg (by rw [hW.1]; omega)]
    have FF : ∀ μ', FH μ1 μ' → ∀ c t, ¬ (141 ≤ c ∧ c ≤ 182) → ¬ (186 ≤ c ∧ c ≤ 195) → μ' c t = μ c t := fun μ' h c t c1 c2 => by rw [h c t (by omega) c2, F1 c t c1]
    have FY : ∀ μ', FH μ1 μ' → ∀ c, c < cols → μ' 140 c = ty c := fun μ' h c hc => by rw [FF μ' h _ _ (by omega) (by omega)]; exact hY c hc
    obtain ⟨μ2, b1, b2, b3, b4, b5⟩ := fn61_ok q1
    rw [b1, am_op_some]
    dsimp only
    by_cases c1 : q_mk (hdW ws) = -1
    · rw [if_pos c1, if_pos rfl, q_fail]
      exact ⟨μ2, FF μ2 b2, Or.inr ⟨fun h s z => (by have := z.1; unfold q_all q_hh at this; rw [if_pos c1] at this; cases this), rfl⟩⟩
    · rw [if_neg c1, if_neg (by decide)]
      obtain ⟨μ3, d1, d2, d3⟩ := fn64_ok b3
      rw [d1, am_op_some]
      dsimp only
      by_cases c2 : hdW ws.tail = lit 5 ∧ colN fs cols (hdW ws.tail.tail) ≠ -1
      · obtain ⟨d4, d5, d6, d8⟩ := d3 c2
        have x8 : μ3 141 8 = -1 := by rw [d8, b5, K1 _ (by decide)]; exact a8
        rw [if_pos c2, if_neg (by decide)]
        obtain ⟨μ4, i1, i2⟩ := fn66_ok d4 (FY μ3 (b2.trans d2)) x8
        have f4 : FH μ1 μ4 := b2.trans (d2.trans i1)
        cases hy : yR fs cols ty ws.tail.tail.tail with
        | none =>
          rw [hy] at i2
          rw [show fn66 141 5 μ3 = some (0, μ4) from i2, am_op_some]
          dsimp only
          rw [if_pos rfl, q_fail]
          exact ⟨μ4, FF μ4 f4, Or.inr ⟨fun h s z => (by have := z.1; unfold q_all q_hh at this; rw [if_neg c1, if_pos c2, hy] at this; cases this), rfl⟩⟩
        | some p =>
          obtain ⟨r, me, y⟩ := p
          rw [hy] at i2
          obtain ⟨i2, i3, i4, i5, i6, i7⟩ := i2
          rw [i2, am_op_some]
          dsimp only at i3 i6 i7 ⊢
          have ehh : q_hh fs cols ty ws = some (r, q_mk (hdW ws), colN fs cols (hdW ws.tail.tail), me, y) := by
            unfold q_hh; rw [if_neg c1, if_pos c2, hy]
          have hrl : r.length ≤ 20 := by
            obtain ⟨-, -, -, -, k, k1, k2, k3⟩ := i3.1
            rw [k3, List.length_drop]; omega
          rw [if_neg (show ¬ ((1 : Int) = 0) by decide)]
          obtain ⟨x', μ5, j1, j2⟩ := L77_50_ok r.length am_fuel 0 μ4 r ([], 0, -1, 0) 0 (by unfold am_fuel; omega) rfl (by omega) (by omega) i3
          cases hr : q_run fs cols r.length r ([], 0, -1, 0) with
          | none =>
            rw [hr] at j2
            dsimp only at j2
            rw [j2, am_op_some, am_lp_r]
            dsimp only
            rw [show am_fuel = 9999 + 1 from rfl, L77_87, if_pos rfl, am_op_some, am_lp_r]
            exact ⟨μ5, FF μ5 (f4.trans j1.fh), Or.inr ⟨fun h s z => (by have := z.1; unfold q_all at this; rw [ehh] at this; dsimp only at this; rw [hr] at this; cases this), rfl⟩⟩
          | some s =>
            rw [hr] at j2
            obtain ⟨j2, j3⟩ := j2
            rw [j2, am_op_some, am_lp_r]
            dsimp only
            have f5 : FH μ1 μ5 := f4.trans j1.fh
            have eall : q_all fs cols ty ws = some ((q_mk (hdW ws), colN fs cols (hdW ws.tail.tail), me, y), s) := by
              unfold q_all; rw [ehh]; dsimp only; rw [hr]
            obtain ⟨-, l9, lc, ld, l10, l11, l12, -⟩ := j3
            obtain ⟨b, x2, μ6, m1, m2, m3, m4⟩ := L77_87_ok (ty := ty) (cs := s.1) h5 lc ht s.1.length am_fuel 0 μ5 0 (by unfold am_fuel; omega) rfl (by omega) l9 (FY μ5 f5) ld (fun j hj => absurd hj (by omega))
            rw [m1, am_op_some, am_lp_r]
            dsimp only
            have f6 : ∀ c t, ¬ (141 ≤ c ∧ c ≤ 182) → ¬ (186 ≤ c ∧ c ≤ 195) → μ6 c t = μ c t := fun c t c1 c2 => by rw [m2 c t (by omega), FF μ5 f5 c t c1 c2]
            have m3' : b = true ↔ ∀ c ∈ s.1, q_fit ty c := m3.trans (Iff.trans ⟨fun z j hj => z j (by omega) hj, fun z j _ hj => z j hj⟩ (getD_mem' (P := q_fit ty)))
            cases b with
            | false =>
              rw [if_pos (show bI false = 0 from rfl)]
              exact ⟨μ6, f6, Or.inr ⟨fun h s2 z => (by
                have z1 := z.1
                rw [eall] at z1
                injection z1 with z1
                injection z1 with z1 z2
                subst z2
                exact absurd (m3'.mpr z.2.1) (by decide)), rfl⟩⟩
            | true =>
              rw [if_neg (by decide)]
              have k6 : ∀ t, μ6 141 t = μ5 141 t := fun t => m2 141 t (by omega)
              have k5 : ∀ t, t ≤ 8 → 5 ≤ t → μ5 141 t = μ4 141 t := fun t t1 t2 => j1 141 t (by omega) (by omega)
              have e5 : μ6 141 5 = q_mk (hdW ws) := by rw [k6, k5 5 (by omega) (by omega), i4, d5, b4]
              have e7 : μ6 141 7 = me := by rw [k6, k5 7 (by omega) (by omega), i6]
              have e11 : μ6 141 11 = s.2.2.1 := by rw [k6, l11]
              obtain ⟨b', n1, n2⟩ := fn76_ok (μ := μ6)
              rw [e5, e7, e11] at n2
              rw [n1, am_op_some]
              dsimp only
              cases b' with
              | false =>
                rw [if_pos (show bI false = 0 from rfl)]
                exact ⟨μ6, f6, Or.inr ⟨fun h s2 z => (by
                  have z1 := z.1
                  rw [eall] at z1
                  injection z1 with z1
                  injection z1 with z0 z2
                  subst z2
                  subst z0
                  exact absurd (n2.mpr z.2.2) (by decide)), rfl⟩⟩
              | true =>
                rw [if_neg (by decide)]
                exact ⟨μ6, f6, Or.inl ⟨_, s, ⟨eall, m3'.mp rfl, n2.mp rfl⟩, rfl, e5, by rw [k6, k5 6 (by omega) (by omega), i5, d6], e7, by rw [k6, k5 8 (by omega) (by omega), i7], by rw [k6, l9], lc, fun j hj => ⟨(ld j hj).1.fr (fun q t q1 q2 q3 => m2 q t (by omega)), (ld j hj).2, m4 rfl j hj⟩, by rw [k6, l10], e11, by rw [k6, l12]⟩⟩
      · rw [if_neg c2, if_pos rfl, q_fail]
        exact ⟨μ3, FF μ3 (b2.trans d2), Or.inr ⟨fun h s z => (by have := z.1; unfold q_all q_hh at this; rw [if_neg c1, if_neg c2] at this; cases this), rfl⟩⟩
  · rw [if_pos (by rw [hW.1]; omega), q_fail]
    exact ⟨μ1, fun c t c1 c2 => F1 c t c1, Or.inr ⟨fun h s z => absurd (q_all_len z.1).1 hl, rfl⟩⟩
end QF
