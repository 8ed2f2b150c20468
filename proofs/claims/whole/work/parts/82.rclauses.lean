/-! The reference's readText. -/
section RX
variable {fs : List (List Int)} {cols recs : Nat} {ty : Nat → Int} {mk me : Int}
theorem q_cl_inv {r r' : List (List Int)} {s s' : QC} (h : q_cl fs cols r s = some (r', s')) (hi : q_inv s) : q_inv s' := by
  unfold q_cl at h
  unfold q_inv at *
  have hrg := colN_rng fs cols (hdW r.tail)
  split at h
  · split at h
    · cases h
    · split at h
      · injection h with h; injection h with e1 e2; subst e2; exact hi
      · cases h
  · split at h
    · split at h
      · split at h
        · injection h with h; injection h with e1 e2; subst e2; exact hi
        · split at h
          · injection h with h; injection h with e1 e2; subst e2; exact hi
          · cases h
      · cases h
    · split at h
      · split at h
        · split at h
          · cases h
          · injection h with h; injection h with e1 e2; subst e2; dsimp only; omega
        · cases h
      · split at h
        · split at h
          · split at h
            · injection h with h; injection h with e1 e2; subst e2; exact hi
            · cases h
          · cases h
        · cases h
theorem fn190_ok {μ : am_M} {ws r : List (List Int)} {s : QC} (h : Rs fs cols recs ty μ ws r s) (ht : ∀ c, c < cols → ty c = 1 ∨ ty c = 2 ∨ ty c = 3) (hok : q_ok ty mk me s) (hi : q_inv s) (hcr : ∀ w ∈ ws, Cr w) (hmk : μ 240 20 = mk) (hme : μ 240 22 = me) : Rres fs cols recs ty (fn190 240 μ) μ ws (q_ok ty mk me) (q_cl fs cols r s) := by
  have e28 := h.2.2.2.2.2.2.1
  have e29 := h.2.2.2.2.2.2.2.1
  have e30 := h.2.2.2.2.2.2.2.2
  obtain ⟨-, -, -, -, -, -, -, -, -, -, v12, v13, v14, v15, v16, v17, -⟩ := pk_v
  obtain ⟨-, -, -, -, -, -, -, -, -, -, w12, w13, w14, w15, w16, w17, -⟩ := pk_l
  have T12 := h.takes (t := 12) (by decide) (by decide) (P := 512852587109) (n := 5) v12.symm (by rw [w12]; rfl)
  have T13 := h.takes (t := 13) (by decide) (by decide) (P := 478660552050) (n := 5) v13.symm (by rw [w13]; rfl)
  have T16 := h.takes (t := 16) (by decide) (by decide) (P := 495873778539) (n := 5) v16.symm (by rw [w16]; rfl)
  have T17 := h.takes (t := 17) (by decide) (by decide) (P := 499984329587) (n := 5) v17.symm (by rw [w17]; rfl)
  have ne : ∀ a b, a < 21 → b < 21 → a ≠ b → hdW r = lit a → hdW r ≠ lit b := fun a b ha hb hab e e2 => hab (lit_inj a ha b hb (e.symm.trans e2))
  have no : ∀ (x : Option (Int × am_M)), x = some (0, μ) → Rres fs cols recs ty x μ ws (q_ok ty mk me) none := fun x hx => ⟨μ, FR.refl _, fun _ _ _ => rfl, hx⟩
  obtain ⟨r4, l4, r17, l17, r18, l18, -⟩ := rf_8
  unfold q_cl
  by_cases c12 : hdW r = lit 12
  · obtain ⟨μ1, p1, p2, p3⟩ := T12.1 c12
    unfold fn190
    rw [if_pos c12, p1, am_op_some]
    dsimp only
    rw [if_neg (show ¬ ((1 : Int) = 0) by decide)]
    exact (fn189_ok p2 ht hok).w2.pre p3
  · rw [if_neg c12]
    by_cases c13 : hdW r = lit 13
    · rw [if_pos c13]
      by_cases d : s.2.1 = 0
      · rw [if_pos d]
        obtain ⟨μ1, p1, p2, p3⟩ := T13.1 c13
        unfold fn190
        rw [T12.2 c12, am_op_some]
        dsimp only
        rw [if_pos (show (0 : Int) = 0 from rfl), if_pos (by omega), p1, am_op_some]
        dsimp only
        rw [if_neg (show ¬ ((1 : Int) = 0) by decide)]
        refine Rres.pre p3 ?_
        have U1 := p2.takes (t := 14) (by decide) (by decide) (P := 30064) (n := 2) v14.symm (by rw [w14]; rfl)
        have U2 := p2.takes (t := 15) (by decide) (by decide) (P := 1685026670) (n := 4) v15.symm (by rw [w15]; rfl)
        have keep : ∀ μ2 x, F19 μ1 μ2 → FR μ1 (am_up μ2 240 28 x) ∧ ∀ t, 20 ≤ t → t ≤ 23 → am_up μ2 240 28 x 240 t = μ1 240 t := fun μ2 x f => ⟨f.fr.trans (FR.up (by decide) (by decide) _), fun t t1 t2 => by rw [am_up_s _ _ (by omega), f _ _ (by omega)]⟩
        by_cases c14 : hdW r.tail = lit 14
        · obtain ⟨μ2, q1, q2, q3⟩ := U1.1 c14
          rw [if_pos c14, q1, am_op_some]
          dsimp only
          rw [if_neg (show ¬ ((1 : Int) = 0) by decide), if_neg (by rw [am_up_at]; decide)]
          exact ⟨_, (keep μ2 1 q3).1, (keep μ2 1 q3).2, fun _ => ⟨rfl, q2.up (by decide) _ rfl (by decide) rfl q2.2.2.2.2.2.2.2.1 q2.2.2.2.2.2.2.2.2⟩, fun z => absurd hok z⟩
        · rw [if_neg c14, U1.2 c14, am_op_some]
          dsimp only
          rw [if_pos (show (0 : Int) = 0 from rfl)]
          by_cases c15 : hdW r.tail = lit 15
          · obtain ⟨μ2, q1, q2, q3⟩ := U2.1 c15
            rw [if_pos c15, q1, am_op_some]
            dsimp only
            rw [if_neg (show ¬ ((1 : Int) = 0) by decide), if_neg (by rw [am_up_at]; decide)]
            exact ⟨_, (keep μ2 (-1) q3).1, (keep μ2 (-1) q3).2, fun _ => ⟨rfl, q2.up (by decide) _ rfl (by decide) rfl q2.2.2.2.2.2.2.2.1 q2.2.2.2.2.2.2.2.2⟩, fun z => absurd hok z⟩
          · rw [if_neg c15, U2.2 c15, am_op_some]
            dsimp only
            rw [if_pos (show (0 : Int) = 0 from rfl), if_pos (by rw [am_up_at])]
            exact ⟨_, (keep μ1 0 (fun _ _ _ => rfl)).1, (keep μ1 0 (fun _ _ _ => rfl)).2, rfl⟩
      · rw [if_neg d]
        exact no _ (no190 h hi c12 (fun _ => d) (fun z => absurd z (ne 13 16 (by decide) (by decide) (by decide) c13)) (fun z => absurd z (ne 13 17 (by decide) (by decide) (by decide) c13)))
    · rw [if_neg c13]
      by_cases c16 : hdW r = lit 16
      · rw [if_pos c16]
        by_cases d : s.2.2.1 = -1
        · rw [if_pos d]
          obtain ⟨μ1, p1, p2, p3⟩ := T16.1 c16
          obtain ⟨μ2, q1, q2, q3⟩ := p2.col
          have hrg := colN_rng fs cols (hdW r.tail)
          have f2 : F19 μ μ2 := fun c t hct => by rw [q3 c t hct, p3 c t hct]
          have a20 : am_up μ2 240 29 (colN fs cols (hdW r.tail)) 240 20 = mk := by rw [am_up_s _ _ (by decide), f2 _ _ (by omega)]; exact hmk
          have a22 : am_up μ2 240 29 (colN fs cols (hdW r.tail)) 240 22 = me := by rw [am_up_s _ _ (by decide), f2 _ _ (by omega)]; exact hme
          have a29 : am_up μ2 240 29 (colN fs cols (hdW r.tail)) 240 29 = colN fs cols (hdW r.tail) := am_up_at _ _ _ _
          have k1 : FR μ (am_up μ2 240 29 (colN fs cols (hdW r.tail))) := f2.fr.trans (FR.up (by decide) (by decide) _)
          have k2 : ∀ t, 20 ≤ t → t ≤ 23 → am_up μ2 240 29 (colN fs cols (hdW r.tail)) 240 t = μ 240 t := fun t t1 t2 => by rw [am_up_s _ _ (by omega), f2 _ _ (by omega)]
          have k3 : Rs fs cols recs ty (am_up μ2 240 29 (colN fs cols (hdW r.tail))) ws r.tail.tail (s.1, s.2.1, colN fs cols (hdW r.tail), s.2.2.2) := q2.up (by decide) _ rfl (by decide) q2.2.2.2.2.2.2.1 rfl q2.2.2.2.2.2.2.2.2
          have tail : Rres fs cols recs ty (am_op (fn186 240 μ1) (fun z5 => (if (am_up z5.2 240 29 z5.1) 240 29 < 0 then some (0, am_up z5.2 240 29 z5.1) else (if (am_up z5.2 240 29 z5.1) 240 20 = 0 then (if (am_up z5.2 240 29 z5.1) 240 22 = 0 then some (1, am_up z5.2 240 29 z5.1) else (if (am_up z5.2 240 29 z5.1) 240 22 = 1 then some (1, am_up z5.2 240 29 z5.1) else some (0, am_up z5.2 240 29 z5.1))) else some (0, am_up z5.2 240 29 z5.1))))) μ ws (q_ok ty mk me) (if colN fs cols (hdW r.tail) = -1 then none else some (r.tail.tail, (s.1, s.2.1, colN fs cols (hdW r.tail), s.2.2.2))) := by
            rw [q1, am_op_some]
            dsimp only
            generalize am_up μ2 240 29 (colN fs cols (hdW r.tail)) = μ3 at *
            generalize colN fs cols (hdW r.tail) = cn at *
            by_cases hc : cn = -1
            · rw [if_pos hc, if_pos (show μ3 240 29 < 0 by omega)]
              exact ⟨_, k1, k2, rfl⟩
            · rw [if_neg hc, if_neg (show ¬ (μ3 240 29 < 0) by omega)]
              refine ⟨μ3, k1, k2, fun z => ⟨?_, k3⟩, fun z => ?_⟩
              · have z2 := z.2
                unfold q_st at z2
                dsimp only at z2
                rw [if_pos (show μ3 240 20 = 0 by omega)]
                by_cases e0 : μ3 240 22 = 0
                · rw [if_pos e0]
                · rw [if_neg e0, if_pos (show μ3 240 22 = 1 by omega)]
              · have z2 : ¬ (mk = 0 ∧ (me = 0 ∨ me = 1)) := fun y => z ⟨hok.1, Or.inr y⟩
                by_cases e0 : μ3 240 20 = 0
                · rw [if_pos e0, if_neg (show ¬ (μ3 240 22 = 0) by omega), if_neg (show ¬ (μ3 240 22 = 1) by omega)]
                · rw [if_neg e0]
          unfold fn190
          rw [T12.2 c12, am_op_some]
          dsimp only
          rw [if_pos (show (0 : Int) = 0 from rfl)]
          by_cases a28 : μ 240 28 = 0
          · rw [if_pos a28, T13.2 c13, am_op_some]
            dsimp only
            rw [if_pos (show (0 : Int) = 0 from rfl), if_pos (show μ 240 29 < 0 by omega), p1, am_op_some]
            dsimp only
            rw [if_neg (show ¬ ((1 : Int) = 0) by decide)]
            exact tail
          · rw [if_neg a28, if_pos (show μ 240 29 < 0 by omega), p1, am_op_some]
            dsimp only
            rw [if_neg (show ¬ ((1 : Int) = 0) by decide)]
            exact tail
        · rw [if_neg d]
          exact no _ (no190 h hi c12 (fun z => absurd z c13) (fun _ => d) (fun z => absurd z (ne 16 17 (by decide) (by decide) (by decide) c16)))
      · rw [if_neg c16]
        by_cases c17 : hdW r = lit 17
        · rw [if_pos c17]
          by_cases d : s.2.2.2 = 0
          · rw [if_pos d]
            obtain ⟨μ1, p1, p2, p3⟩ := T17.1 c17
            have tail := (tT_ok (mk := mk) (me := me) p2 hcr hok).pre p3
            unfold fn190
            rw [r18, l18, r17, l17, r4, l4, T12.2 c12, am_op_some]
            dsimp only
            rw [if_pos (show (0 : Int) = 0 from rfl)]
            by_cases a28 : μ 240 28 = 0
            · rw [if_pos a28, T13.2 c13, am_op_some]
              dsimp only
              rw [if_pos (show (0 : Int) = 0 from rfl)]
              by_cases a29 : μ 240 29 < 0
              · rw [if_pos a29, T16.2 c16, am_op_some]
                dsimp only
                rw [if_pos (show (0 : Int) = 0 from rfl), if_pos (show μ 240 30 = 0 by omega), p1, am_op_some]
                dsimp only
                rw [if_neg (show ¬ ((1 : Int) = 0) by decide)]
                exact tail
              · rw [if_neg a29, if_pos (show μ 240 30 = 0 by omega), p1, am_op_some]
                dsimp only
                rw [if_neg (show ¬ ((1 : Int) = 0) by decide)]
                exact tail
            · rw [if_neg a28]
              by_cases a29 : μ 240 29 < 0
              · rw [if_pos a29, T16.2 c16, am_op_some]
                dsimp only
                rw [if_pos (show (0 : Int) = 0 from rfl), if_pos (show μ 240 30 = 0 by omega), p1, am_op_some]
                dsimp only
                rw [if_neg (show ¬ ((1 : Int) = 0) by decide)]
                exact tail
              · rw [if_neg a29, if_pos (show μ 240 30 = 0 by omega), p1, am_op_some]
                dsimp only
                rw [if_neg (show ¬ ((1 : Int) = 0) by decide)]
                exact tail
          · rw [if_neg d]
            exact no _ (no190 h hi c12 (fun z => absurd z c13) (fun z => absurd z c16) (fun _ => d))
        · rw [if_neg c17]
          exact no _ (no190 h hi c12 (fun z => absurd z c13) (fun z => absurd z c16) (fun z => absurd z c17))
def Lres (fs : List (List Int)) (cols recs : Nat) (ty : Nat → Int) (x : Option ((Int × am_M) ⊕ (Int × am_M))) (μ : am_M) (ws : List (List Int)) (o : Option QC) : Prop :=
  ∃ μ', FR μ μ' ∧ (∀ t, 20 ≤ t → t ≤ 23 → μ' 240 t = μ 240 t) ∧ match o with | none => x = some (.inr (0, μ')) | some s => x = some (.inr (1, μ')) ∧ Rs fs cols recs ty μ' ws [] s
theorem L191_ok {ws : List (List Int)} (ht : ∀ c, c < cols → ty c = 1 ∨ ty c = 2 ∨ ty c = 3) (hcr : ∀ w ∈ ws, Cr w) : ∀ (k N : Nat) (μ : am_M) (r : List (List Int)) (s : QC), k < N → r.length ≤ k → Rs fs cols recs ty μ ws r s → q_ok ty mk me s → q_inv s → μ 240 20 = mk → μ 240 22 = me → Lres fs cols recs ty (L191_136 240 N 1 μ) μ ws (q_runR fs cols (q_ok ty mk me) k r s)
  | k, 0, _, _, _, hN, _, _, _, _, _, _ => absurd hN (by omega)
  | 0, N + 1, μ, r, s, hN, hr, h, hok, hi, hmk, hme => by
    have e : r = [] := List.length_eq_zero_iff.mp (by omega)
    subst e
    obtain ⟨k, k1, k2, k3, k4, -⟩ := h.more
    rw [L191_136, if_neg (by decide), if_neg (by have := k4 rfl; omega)]
    unfold q_runR
    rw [if_pos rfl]
    exact ⟨μ, FR.refl _, fun _ _ _ => rfl, rfl, h⟩
  | k + 1, N + 1, μ, r, s, hN, hr, h, hok, hi, hmk, hme => by
    obtain ⟨kk, k1, k2, k3, k4, k5⟩ := h.more
    rw [L191_136, if_neg (by decide)]
    unfold q_runR
    by_cases hne : r = []
    · rw [if_neg (by have := k4 hne; omega), if_pos hne]
      rw [hne] at h
      exact ⟨μ, FR.refl _, fun _ _ _ => rfl, rfl, h⟩
    · rw [if_pos (by have := (k5 hne).1; omega), if_neg hne]
      obtain ⟨μ1, f1, f2, q1⟩ := fn190_ok h ht hok hi hcr hmk hme
      obtain ⟨N', rfl⟩ : ∃ N', N = N' + 1 := ⟨N - 1, by omega⟩
      have no : ∀ x, x = some (0, μ1) → Lres fs cols recs ty (am_op x (fun z9 => (L191_136 240 (N' + 1) z9.1 z9.2))) μ ws none := fun x hx => by
        rw [hx, am_op_some]
        dsimp only
        rw [L191_136, if_pos rfl]
        exact ⟨μ1, f1, f2, rfl⟩
      cases hc : q_cl fs cols r s with
      | none =>
        rw [hc] at q1
        exact no _ q1
      | some p =>
        obtain ⟨r1, s1⟩ := p
        rw [hc] at q1
        obtain ⟨q1, q2⟩ := q1
        obtain ⟨z1, z2, z3, z4, -⟩ := q_cl_st hc h.2.2.2.2.1
        dsimp only at q1 q2 ⊢
        by_cases hp : q_ok ty mk me s1
        · rw [if_pos hp, (q1 hp).1, am_op_some]
          dsimp only
          obtain ⟨μ', g1, g2, g3⟩ := L191_ok ht hcr k (N' + 1) μ1 r1 s1 (by omega) (by omega) (q1 hp).2 hp (q_cl_inv hc hi) (by rw [f2 _ (by omega) (by omega)]; exact hmk) (by rw [f2 _ (by omega) (by omega)]; exact hme)
          exact ⟨μ', f1.trans g1, fun t t1 t2 => by rw [g2 t t1 t2, f2 t t1 t2], g3⟩
        · rw [if_neg hp]
          exact no _ (q2 hp)
end RX
