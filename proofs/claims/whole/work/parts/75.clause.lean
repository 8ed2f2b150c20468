/-! The class's clauses. -/
theorem rf_9 : ∀ j, j < 2 → am_ref 185 j = 186 + 5 * j ∧ am_ref (186 + 5 * j) 0 = 187 + 5 * j ∧ am_ref (186 + 5 * j) 1 = 189 + 5 * j ∧ am_ref (187 + 5 * j) 0 = 188 + 5 * j ∧ am_len (188 + 5 * j) = 1 ∧ am_ref (189 + 5 * j) 0 = 190 + 5 * j ∧ am_len (190 + 5 * j) = 12 := by decide +kernel
theorem fn67_ok {o ao cap a : Nat} {w : List Int} {μ : am_M} (hr : am_ref o 0 = ao) (hc : am_len ao = cap) (hoa : o ≠ ao) (hcap : cap ≤ 12) (h : Wc μ a w) (ho : 186 ≤ o) (hao : 186 ≤ ao) : ∃ μ', fn67 o a μ = some (0, μ') ∧ Lt μ' o ao cap w ∧ ∀ c t, ¬ (c = o ∧ t = 1) → c ≠ ao → μ' c t = μ c t := by
  obtain ⟨h1, hl, b, cs, h3, h4, h5, h6, h7, h8, h9, h10⟩ := h
  unfold fn67 fn14
  rw [am_op_some]
  dsimp only
  have hf : ∀ c t, ¬ (c = o ∧ t = 1) → am_up μ o 1 0 c t = μ c t := fun c t hc => by
    by_cases h9 : c = o
    · exact am_up_s _ _ (by omega)
    · exact am_up_c _ _ h9
  obtain ⟨x', μ', r1, r2, r3⟩ := L67_ok (w := w) hr hc hoa hcap h3 h4 h6 h1 hl (by omega) (by omega) (by omega) (by omega) w.length am_fuel 0 (am_up μ o 1 0) 0 (by unfold am_fuel; omega) rfl (by omega) (h5.fr (hf _ _ (by omega)) (fun i => hf _ _ (by omega))) ⟨by rw [am_up_at]; simp, fun i hi => absurd hi (by simp)⟩
  rw [r1, am_op_some, am_lp_r]
  exact ⟨μ', rfl, r2, fun c t c1 c2 => by rw [r3 c t c1 c2, hf c t c1]⟩
def Qd (μ : am_M) (j : Nat) (c : Nat × List Int × List Int) : Prop := μ (186 + 5 * j) 2 = ((c.1 : Nat) : Int) ∧ Lt μ (187 + 5 * j) (188 + 5 * j) 1 c.2.1 ∧ Lt μ (189 + 5 * j) (190 + 5 * j) 12 c.2.2 ∧ Cr c.2.1 ∧ Cr c.2.2 ∧ c.2.1.length ≤ 160 ∧ c.2.2.length ≤ 160
theorem Qd.fr {μ μ' : am_M} {j : Nat} {c : Nat × List Int × List Int} (h : Qd μ j c) (g : ∀ q t, 186 + 5 * j ≤ q → q ≤ 190 + 5 * j → ¬ (q = 186 + 5 * j ∧ 3 ≤ t) → μ' q t = μ q t) : Qd μ' j c := by
  obtain ⟨h1, h2, h3, h4⟩ := h
  exact ⟨by rw [g _ _ (by omega) (by omega) (by omega)]; exact h1, h2.fr (g _ _ (by omega) (by omega) (by omega)) (fun i => g _ _ (by omega) (by omega) (by omega)), h3.fr (g _ _ (by omega) (by omega) (by omega)) (fun i => g _ _ (by omega) (by omega) (by omega)), h4⟩
theorem fn68_ok {μ : am_M} {j : Nat} (hj : j < 2) {a b : Nat} {sg wd : List Int} (hs : Wc μ a sg) (hw : Wc μ b wd) {c : Nat} {x : Int} (hx : x = c) : ∃ μ', fn68 (186 + 5 * j) x a b μ = some (0, μ') ∧ Qd μ' j (c, sg, wd) ∧ ∀ q t, ¬ (186 + 5 * j ≤ q ∧ q ≤ 190 + 5 * j) → μ' q t = μ q t := by
  obtain ⟨y1, y2, y3, y4, y5, y6, y7⟩ := rf_9 j hj
  have hf : ∀ q t, ¬ (186 + 5 * j ≤ q ∧ q ≤ 190 + 5 * j) → am_up μ (186 + 5 * j) 2 x q t = μ q t := fun q t h => am_up_c _ _ (by omega)
  obtain ⟨μ1, p1, p2, p3⟩ := fn67_ok y4 y5 (by omega) (by omega) (hs.fr (fun c t c1 c2 => hf c t (by omega))) (by omega) (by omega)
  obtain ⟨μ2, q1, q2, q3⟩ := fn67_ok y6 y7 (by omega) (by omega) (hw.fr (μ' := μ1) (fun c t c1 c2 => by rw [p3 c t (by omega) (by omega), hf c t (by omega)])) (by omega) (by omega)
  refine ⟨μ2, ?_, ⟨?_, ?_, q2, hs.1, hw.1, hs.2.1, hw.2.1⟩, fun q t h => ?_⟩
  · unfold fn68
    rw [y2, y3, p1, am_op_some]
    dsimp only
    rw [q1, am_op_some]
  · rw [q3 _ _ (by omega) (by omega), p3 _ _ (by omega) (by omega), am_up_at]; exact hx
  · exact p2.fr (q3 _ _ (by omega) (by omega)) (fun i => q3 _ _ (by omega) (by omega))
  · rw [q3 q t (by omega) (by omega), p3 q t (by omega) (by omega), hf q t h]
section QQ
variable {fs : List (List Int)} {cols recs : Nat}
def Qs (fs : List (List Int)) (cols recs : Nat) (μ : am_M) (ws r : List (List Int)) (s : QC) : Prop :=
  Qw μ ws r ∧ μ 141 9 = ((s.1.length : Nat) : Int) ∧ s.1.length ≤ 2 ∧ (∀ j, j < s.1.length → Qd μ j (s.1.getD j (0, [], [])) ∧ (s.1.getD j (0, [], [])).1 < cols) ∧ μ 141 10 = s.2.1 ∧ μ 141 11 = s.2.2.1 ∧ μ 141 12 = s.2.2.2 ∧ CT μ fs cols recs
def FQ (μ μ' : am_M) : Prop := ∀ c t, ¬ (c = 141 ∧ (t = 4 ∨ 9 ≤ t)) → ¬ (186 ≤ c ∧ c ≤ 195) → μ' c t = μ c t
theorem CT.fw {μ μ' : am_M} (h : CT μ fs cols recs) (g : ∀ c t, c < 141 → μ' c t = μ c t) : CT μ' fs cols recs := by
  obtain ⟨h1, h2, h3, h4, h5, h6, h7, h8, h9⟩ := h
  refine ⟨by rw [g _ _ (by omega)]; exact h1, by rw [g _ _ (by omega)]; exact h2, h3, h4, h5, h6, h7, h8, fun f hf => ?_⟩
  have : fs.length ≤ 65 := by
    rw [h7]
    calc recs * cols ≤ 13 * 5 := Nat.mul_le_mul h6 h4
      _ = 65 := rfl
  exact (h9 f hf).fr (g _ _ (by omega)) (fun i => g _ _ (by omega))
/-- a word is taken -/
theorem Qs.take {μ : am_M} {ws r : List (List Int)} {s : QC} (h : Qs fs cols recs μ ws r s) : ∃ (a : Nat) (μ' : am_M), fn53 141 μ = some ((a : Int), μ') ∧ Qs fs cols recs μ' ws r.tail s ∧ Wc μ' a (hdW r) ∧ FQ μ μ' := by
  obtain ⟨h1, h2, h3, h4, h5, h6, h7, h8⟩ := h
  obtain ⟨a, μ', q1, q2, q3, q4⟩ := fn53_ok h1
  refine ⟨a, μ', q1, ⟨q2, by rw [q4 _ _ (by omega)]; exact h2, h3, fun j hj => ⟨(h4 j hj).1.fr (fun q t _ _ _ => q4 q t (by omega)), (h4 j hj).2⟩, by rw [q4 _ _ (by omega)]; exact h5, by rw [q4 _ _ (by omega)]; exact h6, by rw [q4 _ _ (by omega)]; exact h7, h8.fw (fun c t hc => q4 c t (by omega))⟩, q3, fun c t c1 c2 => q4 c t (by omega)⟩
def Qres (fs : List (List Int)) (cols recs : Nat) (x : Option (Int × am_M)) (μ : am_M) (ws : List (List Int)) (o : Option (List (List Int) × QC)) : Prop :=
  ∃ μ', FQ μ μ' ∧ match o with | none => x = some (0, μ') | some p => x = some (1, μ') ∧ Qs fs cols recs μ' ws p.1 p.2
theorem FQ.refl (μ : am_M) : FQ μ μ := fun _ _ _ _ => rfl
theorem FQ.trans {μ μ1 μ2 : am_M} (h : FQ μ μ1) (g : FQ μ1 μ2) : FQ μ μ2 := fun c t c1 c2 => by rw [g c t c1 c2, h c t c1 c2]
theorem FQ.up {μ : am_M} {t : Nat} (h : 9 ≤ t) (x : Int) : FQ μ (am_up μ 141 t x) := fun c u c1 c2 => by
  by_cases hc : c = 141
  · exact am_up_s _ _ (by omega)
  · exact am_up_c _ _ hc
theorem Qres.pre {x : Option (Int × am_M)} {μ μ1 : am_M} {ws : List (List Int)} {o} (hf : FQ μ μ1) (h : Qres fs cols recs x μ1 ws o) : Qres fs cols recs x μ ws o := by
  obtain ⟨μ', q, h⟩ := h
  exact ⟨μ', hf.trans q, h⟩
theorem Qres.w1 {x : Option (Int × am_M)} {μ : am_M} {ws : List (List Int)} {o} (h : Qres fs cols recs x μ ws o) : Qres fs cols recs (am_op x (fun z => if z.1 = 0 then some (0, z.2) else some (1, z.2))) μ ws o := by
  obtain ⟨μ', q, h⟩ := h
  refine ⟨μ', q, ?_⟩
  cases o with
  | none => dsimp only at h ⊢; rw [h, am_op_some]; rfl
  | some p => dsimp only at h ⊢; rw [h.1, am_op_some]; exact ⟨rfl, h.2⟩
theorem Qres.w2 {x : Option (Int × am_M)} {μ : am_M} {ws : List (List Int)} {o} (h : Qres fs cols recs x μ ws o) : Qres fs cols recs (am_op x (fun z => if z.1 = 0 ∨ z.1 = 1 then some (z.1, z.2) else none)) μ ws o := by
  obtain ⟨μ', q, h⟩ := h
  refine ⟨μ', q, ?_⟩
  cases o with
  | none => dsimp only at h ⊢; rw [h, am_op_some]; rfl
  | some p => dsimp only at h ⊢; rw [h.1, am_op_some]; exact ⟨rfl, h.2⟩
theorem Qs.up {μ : am_M} {ws r : List (List Int)} {s : QC} (h : Qs fs cols recs μ ws r s) {t : Nat} (ht : 9 ≤ t) (x : Int) {s' : QC} (e1 : s'.1 = s.1) (e9 : t ≠ 9) (e10 : (if t = 10 then x else μ 141 10) = s'.2.1) (e11 : (if t = 11 then x else μ 141 11) = s'.2.2.1) (e12 : (if t = 12 then x else μ 141 12) = s'.2.2.2) : Qs fs cols recs (am_up μ 141 t x) ws r s' := by
  obtain ⟨h1, h2, h3, h4, h5, h6, h7, h8⟩ := h
  have g : ∀ c u, c ≠ 141 → am_up μ 141 t x c u = μ c u := fun c u hc => am_up_c _ _ hc
  refine ⟨h1.fr (am_up_s _ _ (by omega)) (am_up_s _ _ (by omega)) (fun c t c1 c2 => g c t (by omega)), by rw [am_up_s _ _ (by omega), e1]; exact h2, by rw [e1]; exact h3, by rw [e1]; exact fun j hj => ⟨(h4 j hj).1.fr (fun q t _ _ _ => g q t (by omega)), (h4 j hj).2⟩, ?_, ?_, ?_, h8.fw (fun c t hc => g c t (by omega))⟩
  · rw [← e10]; by_cases hc : t = 10
    · rw [if_pos hc, hc, am_up_at]
    · rw [if_neg hc, am_up_s _ _ (by omega)]
  · rw [← e11]; by_cases hc : t = 11
    · rw [if_pos hc, hc, am_up_at]
    · rw [if_neg hc, am_up_s _ _ (by omega)]
  · rw [← e12]; by_cases hc : t = 12
    · rw [if_pos hc, hc, am_up_at]
    · rw [if_neg hc, am_up_s _ _ (by omega)]
variable {μ : am_M} {ws r : List (List Int)} {s : QC}
/-- where -/
theorem fn69_ok (h : Qs fs cols recs μ ws r s) : Qres fs cols recs (fn69 141 5 μ) μ ws (if colN fs cols (hdW r) = -1 then none else if s.1.length < 2 then some (r.tail.tail.tail, (s.1 ++ [((colN fs cols (hdW r)).toNat, hdW r.tail, hdW r.tail.tail)], s.2)) else none) := by
  obtain ⟨a, μ1, p1, p2, p3, p4⟩ := h.take
  have hT := p2.2.2.2.2.2.2.2
  unfold fn69
  rw [p1, am_op_some, rf_6.2.2.2.2.1, rf_6.2.2.2.2.2.2.1]
  dsimp only
  rw [Int.toNat_natCast, fn63_ok hT p3, am_op_some]
  dsimp only
  refine Qres.pre p4 ?_
  have hrg := colN_rng fs cols (hdW r)
  generalize colN fs cols (hdW r) = cn at *
  by_cases hc : cn = -1
  · rw [if_pos hc, if_pos hc]
    exact ⟨μ1, FQ.refl _, rfl⟩
  · rw [if_neg hc, if_neg hc]
    have h9 := p2.2.1
    by_cases hl : s.1.length < 2
    · rw [if_pos (by rw [h9]; omega), if_pos hl]
      have p5 : Qw (am_up μ1 141 9 (w32 (μ1 141 9 + 1))) ws r.tail := p2.1.fr (am_up_s _ _ (by decide)) (am_up_s _ _ (by decide)) (fun c t c1 c2 => am_up_c _ _ (by omega))
      have e9 : am_up μ1 141 9 (w32 (μ1 141 9 + 1)) 141 9 = ((s.1.length + 1 : Nat) : Int) := by rw [am_up_at, h9, w32_id (by omega) (by omega)]; omega
      have f9 : ∀ c t, ¬ (c = 141 ∧ t = 9) → am_up μ1 141 9 (w32 (μ1 141 9 + 1)) c t = μ1 c t := fun c t hc => by
        by_cases h9 : c = 141
        · exact am_up_s _ _ (by omega)
        · exact am_up_c _ _ h9
      generalize am_up μ1 141 9 (w32 (μ1 141 9 + 1)) = μ2 at *
      obtain ⟨a2, μ3, q1, q2, q3, q4⟩ := fn53_ok p5
      obtain ⟨a3, μ4, t1, t2, t3, t4⟩ := fn53_ok q2
      rw [q1, am_op_some]
      dsimp only
      have e : w32 (μ3 141 9 - 1) = ((s.1.length : Nat) : Int) := by rw [q4 _ _ (by omega), e9, w32_id (by omega) (by omega)]; omega
      have q3' : Wc μ4 a2 (hdW r.tail) := q3.fr (fun c t c1 c2 => t4 c t (by omega))
      obtain ⟨y1, -⟩ := rf_9 s.1.length hl
      obtain ⟨μ5, u1, u2, u3⟩ := fn68_ok hl q3' t3 (c := cn.toNat) (x := cn) (by omega)
      rw [if_pos (by rw [e]; omega), t1, am_op_some]
      dsimp only
      rw [e, Int.toNat_natCast, Int.toNat_natCast, Int.toNat_natCast, y1, u1, am_op_some]
      have g : ∀ c t, ¬ (c = 141 ∧ (t = 4 ∨ t = 9)) → ¬ (186 + 5 * s.1.length ≤ c ∧ c ≤ 190 + 5 * s.1.length) → μ5 c t = μ1 c t := fun c t c1 c2 => by rw [u3 c t c2, t4 c t (by omega), q4 c t (by omega), f9 c t (by omega)]
      refine ⟨μ5, fun c t c1 c2 => g c t (by omega) (by omega), rfl, ?_⟩
      obtain ⟨-, -, h3, h4, h5, h6, h7, h8⟩ := p2
      refine ⟨t2.fr (u3 _ _ (by omega)) (u3 _ _ (by omega)) (fun c t c1 c2 => u3 c t (by omega)), ?_, ?_, fun j hj => ?_, ?_, ?_, ?_, h8.fw (fun c t hc => g c t (by omega) (by omega))⟩
      · rw [u3 _ _ (by omega), t4 _ _ (by omega), q4 _ _ (by omega), e9]; simp
      · simp; omega
      · rw [getD_app]
        by_cases hj2 : j < s.1.length
        · rw [if_pos hj2]
          exact ⟨(h4 j hj2).1.fr (fun q t q1 q2 _ => g q t (by omega) (by omega)), (h4 j hj2).2⟩
        · simp at hj
          rw [if_neg hj2, if_pos (by omega), show j = s.1.length by omega]
          exact ⟨u2, by dsimp only; omega⟩
      · rw [g _ _ (by omega) (by omega)]; exact h5
      · rw [g _ _ (by omega) (by omega)]; exact h6
      · rw [g _ _ (by omega) (by omega)]; exact h7
    · rw [if_neg (by rw [h9]; omega), if_neg hl]
      exact ⟨μ1, FQ.refl _, rfl⟩
/-- order -/
theorem fn70_ok (h : Qs fs cols recs μ ws r s) : Qres fs cols recs (fn70 141 μ) μ ws (if hdW r = lit 14 then some (r.tail, (s.1, 1, s.2.2)) else if hdW r = lit 15 then some (r.tail, (s.1, -1, s.2.2)) else none) := by
  obtain ⟨a, μ1, p1, p2, p3, p4⟩ := h.take
  have e11 := p2.2.2.2.2.2.1
  have e12 := p2.2.2.2.2.2.2.1
  unfold fn70
  rw [p1, am_op_some]
  dsimp only
  rw [Int.toNat_natCast, fnis_ok p3 (by decide) (by decide), am_op_some]
  dsimp only
  refine Qres.pre p4 ?_
  by_cases h1 : hdW r = lit 14
  · rw [if_pos h1, if_neg (by rw [decide_eq_true h1]; decide), if_neg (by rw [am_up_at]; decide)]
    exact ⟨_, FQ.up (by decide) _, rfl, p2.up (by decide) _ rfl (by decide) rfl e11 e12⟩
  · rw [if_neg h1, if_pos (by rw [decide_eq_false h1]; rfl), fnis_ok p3 (by decide) (by decide), am_op_some]
    dsimp only
    by_cases h2 : hdW r = lit 15
    · rw [if_pos h2, if_neg (by rw [decide_eq_true h2]; decide), if_neg (by rw [am_up_at]; decide)]
      exact ⟨_, FQ.up (by decide) _, rfl, p2.up (by decide) _ rfl (by decide) rfl e11 e12⟩
    · rw [if_neg h2, if_pos (by rw [decide_eq_false h2]; rfl), if_pos (by rw [am_up_at])]
      exact ⟨_, FQ.up (by decide) _, rfl⟩
/-- stack -/
theorem fn71_ok (h : Qs fs cols recs μ ws r s) : Qres fs cols recs (fn71 141 5 μ) μ ws (if colN fs cols (hdW r) = -1 then none else some (r.tail, (s.1, s.2.1, colN fs cols (hdW r), s.2.2.2))) := by
  obtain ⟨a, μ1, p1, p2, p3, p4⟩ := h.take
  have e10 := p2.2.2.2.2.1
  have e12 := p2.2.2.2.2.2.2.1
  have hT := p2.2.2.2.2.2.2.2
  unfold fn71
  rw [p1, am_op_some]
  dsimp only
  rw [Int.toNat_natCast, fn63_ok hT p3, am_op_some]
  dsimp only
  refine Qres.pre p4 ?_
  by_cases h1 : colN fs cols (hdW r) = -1
  · rw [if_pos h1, if_pos (by rw [am_up_at]; exact h1)]
    exact ⟨_, FQ.up (by decide) _, rfl⟩
  · rw [if_neg h1, if_neg (by rw [am_up_at]; exact h1)]
    exact ⟨_, FQ.up (by decide) _, rfl, p2.up (by decide) _ rfl (by decide) e10 rfl e12⟩
theorem Wc.at0 {a : Nat} {w : List Int} (h : Wc μ a w) (hl : w.length = 1) : fn30 a 0 μ = some (w.getD 0 0, μ) := by
  obtain ⟨h1, hl', b, cs, h3, h4, h5, h6, h7, h8, h9, h10⟩ := h
  rw [fn30_at h3 h4 h5 h1 0 (x := 0) rfl]
  unfold gc
  have hz : 0 < cs := by
    rcases h6 with h6 | ⟨-, h6⟩
    · omega
    · rw [h6] at hl; cases hl
  rw [if_pos ⟨by omega, hz⟩]
/-- ticks -/
theorem fn72_ok (h : Qs fs cols recs μ ws r s) : Qres fs cols recs (fn72 141 μ) μ ws (if (hdW r).length = 1 ∧ 51 ≤ (hdW r).getD 0 0 ∧ (hdW r).getD 0 0 ≤ 57 then some (r.tail, (s.1, s.2.1, s.2.2.1, (hdW r).getD 0 0 - 48)) else none) := by
  obtain ⟨a, μ1, p1, p2, p3, p4⟩ := h.take
  have e10 := p2.2.2.2.2.1
  have e11 := p2.2.2.2.2.2.1
  have hz : μ1 a 1 = (((hdW r).length : Nat) : Int) := by
    obtain ⟨h1, hl', b, cs, h3, h4, h5, h6, h7, h8, h9, h10⟩ := p3
    exact h5.1
  unfold fn72 fn21
  rw [p1, am_op_some]
  dsimp only
  rw [Int.toNat_natCast, am_op_some]
  dsimp only
  refine Qres.pre p4 ?_
  have no : ∀ x, Qres fs cols recs (some (0, am_up μ1 141 12 x)) μ1 ws none := fun x => ⟨_, FQ.up (by decide) _, rfl⟩
  by_cases h1 : (hdW r).length = 1
  · have y := p3.at0 h1
    rw [if_pos (show μ1 a 1 = 1 by omega), y, am_op_some]
    dsimp only
    by_cases h2 : (hdW r).getD 0 0 < 51
    · rw [if_pos h2, if_neg (show ¬ _ by omega)]
      exact no 0
    · rw [if_neg h2, y, am_op_some]
      dsimp only
      by_cases h3 : 57 < (hdW r).getD 0 0
      · rw [if_pos h3, if_neg (show ¬ _ by omega)]
        exact no 0
      · rw [if_neg h3, y, am_op_some, if_pos (show _ ∧ _ ∧ _ from ⟨h1, by omega, by omega⟩), w32_id (by omega) (by omega)]
        exact ⟨_, FQ.up (by decide) _, rfl, p2.up (by decide) _ rfl (by decide) e10 e11 rfl⟩
  · rw [if_neg (show ¬ (μ1 a 1 = 1) by omega), if_neg (fun z => h1 z.1)]
    exact no 0
theorem fn73_ok (h : Qs fs cols recs μ ws r s) : Qres fs cols recs (fn73 141 5 μ) μ ws (q_cl fs cols r s) := by
  obtain ⟨a, μ1, p1, p2, p3, p4⟩ := h.take
  unfold fn73 q_cl
  rw [p1, am_op_some]
  dsimp only
  rw [Int.toNat_natCast, fnis_ok p3 (by decide) (by decide), am_op_some]
  dsimp only
  refine Qres.pre p4 ?_
  have e10 := p2.2.2.2.2.1
  have e11 := p2.2.2.2.2.2.1
  have e12 := p2.2.2.2.2.2.2.1
  have no : Qres fs cols recs (some (0, μ1)) μ1 ws none := ⟨_, FQ.refl _, rfl⟩
  by_cases h1 : hdW r = lit 12
  · rw [if_pos h1, if_neg (by rw [decide_eq_true h1]; decide)]
    exact (fn69_ok p2).w2
  · rw [if_neg h1, if_pos (by rw [decide_eq_false h1]; rfl), fnis_ok p3 (by decide) (by decide), am_op_some]
    dsimp only
    by_cases h2 : hdW r = lit 13
    · rw [if_pos h2, if_neg (by rw [decide_eq_true h2]; decide)]
      by_cases h5 : s.2.1 = 0
      · rw [if_pos h5, if_pos (by rw [e10]; exact h5)]
        exact (fn70_ok p2).w1
      · rw [if_neg h5, if_neg (by rw [e10]; exact h5)]
        exact no
    · rw [if_neg h2, if_pos (by rw [decide_eq_false h2]; rfl), fnis_ok p3 (by decide) (by decide), am_op_some]
      dsimp only
      by_cases h3 : hdW r = lit 16
      · rw [if_pos h3, if_neg (by rw [decide_eq_true h3]; decide)]
        by_cases h5 : s.2.2.1 = -1
        · rw [if_pos h5, if_pos (by rw [e11]; exact h5)]
          exact (fn71_ok p2).w1
        · rw [if_neg h5, if_neg (by rw [e11]; exact h5)]
          exact no
      · rw [if_neg h3, if_pos (by rw [decide_eq_false h3]; rfl), fnis_ok p3 (by decide) (by decide), am_op_some]
        dsimp only
        by_cases h4 : hdW r = lit 17
        · rw [if_pos h4, if_neg (by rw [decide_eq_true h4]; decide)]
          by_cases h5 : s.2.2.2 = 0
          · rw [if_pos h5, if_pos (by rw [e12]; exact h5)]
            exact (fn72_ok p2).w1
          · rw [if_neg h5, if_neg (by rw [e12]; exact h5)]
            exact no
        · rw [if_neg h4, if_pos (by rw [decide_eq_false h4]; rfl)]
          exact no
end QQ
