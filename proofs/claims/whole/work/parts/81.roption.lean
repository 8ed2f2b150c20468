/-! The reference's readOption. -/
section RO
variable {fs : List (List Int)} {cols recs : Nat} {ty : Nat → Int} {μ : am_M} {ws r : List (List Int)} {s : QC} {mk me : Int}
theorem fn189_ok (h : Rs fs cols recs ty μ ws r s) (ht : ∀ c, c < cols → ty c = 1 ∨ ty c = 2 ∨ ty c = 3) (hok : q_ok ty mk me s) : Rres fs cols recs ty (fn189 240 μ) μ ws (q_ok ty mk me) (if colN fs cols (hdW r) = -1 then none else if s.1.length < 2 then some (r.tail.tail.tail, (s.1 ++ [((colN fs cols (hdW r)).toNat, hdW r.tail, hdW r.tail.tail)], s.2)) else none) := by
  have h24 := h.2.2.2.1
  have h2 := h.2.2.2.2.1
  obtain ⟨r4, l4, r17, l17, r18, l18, r10, l10, r11, l11, r15, l15, r25, l25, r26, l26, r27, l27⟩ := rf_8
  unfold fn189
  rw [r15, l15, r17, l17, r18, l18, r25, l25, r26, l26, r27, l27]
  by_cases hl : s.1.length < 2
  · obtain ⟨μ1, p1, p2, p3⟩ := h.col
    rw [if_neg (by omega), p1, am_op_some]
    dsimp only
    have hrg := colN_rng fs cols (hdW r)
    generalize colN fs cols (hdW r) = cn at *
    refine Rres.pre p3 ?_
    by_cases hc : cn = -1
    · rw [if_pos hc]
      have neg : ∀ sg g3 z, wT cn sg g3 z = some (0, z) := fun sg g3 z => by unfold wT; rw [if_pos (by omega)]
      obtain ⟨a1, a2⟩ := p2.takes (t := 18) (by decide) (by decide) (P := 61) (n := 1) pk_v.2.2.2.2.2.2.2.2.2.2.2.2.2.2.2.2.1.symm (by rw [pk_l.2.2.2.2.2.2.2.2.2.2.2.2.2.2.2.2.1]; rfl)
      obtain ⟨b1, b2⟩ := p2.takes (t := 19) (by decide) (by decide) (P := 60) (n := 1) pk_v.2.2.2.2.2.2.2.2.2.2.2.2.2.2.2.2.2.1.symm (by rw [pk_l.2.2.2.2.2.2.2.2.2.2.2.2.2.2.2.2.2.1]; rfl)
      obtain ⟨c1, c2⟩ := p2.takes (t := 20) (by decide) (by decide) (P := 62) (n := 1) pk_v.2.2.2.2.2.2.2.2.2.2.2.2.2.2.2.2.2.2.symm (by rw [pk_l.2.2.2.2.2.2.2.2.2.2.2.2.2.2.2.2.2.2]; rfl)
      by_cases e1 : hdW r.tail = lit 18
      · obtain ⟨μ2, q1, q2, q3⟩ := a1 e1
        rw [q1, am_op_some]
        dsimp only
        rw [if_neg (by decide)]
        exact ⟨μ2, q3.fr, fun t t1 t2 => q3 _ _ (by omega), neg 0 1 μ2⟩
      · rw [a2 e1, am_op_some]
        dsimp only
        rw [if_pos rfl]
        by_cases e2 : hdW r.tail = lit 19
        · obtain ⟨μ2, q1, q2, q3⟩ := b1 e2
          rw [q1, am_op_some]
          dsimp only
          rw [if_neg (by decide)]
          exact ⟨μ2, q3.fr, fun t t1 t2 => q3 _ _ (by omega), neg (-1) 0 μ2⟩
        · rw [b2 e2, am_op_some]
          dsimp only
          rw [if_pos rfl]
          by_cases e3 : hdW r.tail = lit 20
          · obtain ⟨μ2, q1, q2, q3⟩ := c1 e3
            rw [q1, am_op_some]
            dsimp only
            rw [if_neg (by decide)]
            exact ⟨μ2, q3.fr, fun t t1 t2 => q3 _ _ (by omega), neg 1 0 μ2⟩
          · rw [c2 e3, am_op_some]
            dsimp only
            rw [if_pos rfl, if_pos (by omega)]
            exact ⟨μ1, FR.refl _, fun _ _ _ => rfl, rfl⟩
    · rw [if_neg hc, if_pos hl]
      have hcr : 0 ≤ cn ∧ cn < (cols : Int) := by omega
      have hP : q_ok ty mk me (s.1 ++ [(cn.toNat, hdW r.tail, hdW r.tail.tail)], s.2) ↔ q_fit ty (cn.toNat, hdW r.tail, hdW r.tail.tail) := by
        constructor
        · exact fun z => z.1 _ (List.mem_append_right _ (List.mem_singleton.mpr rfl))
        · intro z
          refine ⟨fun c hc => ?_, hok.2⟩
          rcases List.mem_append.mp hc with hc | hc
          · exact hok.1 c hc
          · rw [List.mem_singleton.mp hc]; exact z
      have fin : ∀ μ2 sg g3, F19 μ1 μ2 → Rs fs cols recs ty μ2 ws r.tail.tail s → sg = q_sg (hdW r.tail) → (hdW r.tail = lit 18 ∨ hdW r.tail = lit 19 ∨ hdW r.tail = lit 20) → g3 = (if hdW r.tail = lit 18 then 1 else 0) → Rres fs cols recs ty (wT cn sg g3 μ2) μ1 ws (q_ok ty mk me) (some (r.tail.tail.tail, (s.1 ++ [(cn.toNat, hdW r.tail, hdW r.tail.tail)], s.2))) := by
        intro μ2 sg g3 f1 f2 f3 f4 f5
        refine Rres.pre f1 ?_
        obtain ⟨μ', z1, z2, z3, z4⟩ := wT_ok f2 hl ht hcr f3 f4 f5
        exact ⟨μ', z1, z2, fun z => z3 (hP.mp z), fun z => z4 (fun y => z (hP.mpr y))⟩
      obtain ⟨a1, a2⟩ := p2.takes (t := 18) (by decide) (by decide) (P := 61) (n := 1) pk_v.2.2.2.2.2.2.2.2.2.2.2.2.2.2.2.2.1.symm (by rw [pk_l.2.2.2.2.2.2.2.2.2.2.2.2.2.2.2.2.1]; rfl)
      obtain ⟨b1, b2⟩ := p2.takes (t := 19) (by decide) (by decide) (P := 60) (n := 1) pk_v.2.2.2.2.2.2.2.2.2.2.2.2.2.2.2.2.2.1.symm (by rw [pk_l.2.2.2.2.2.2.2.2.2.2.2.2.2.2.2.2.2.1]; rfl)
      obtain ⟨c1, c2⟩ := p2.takes (t := 20) (by decide) (by decide) (P := 62) (n := 1) pk_v.2.2.2.2.2.2.2.2.2.2.2.2.2.2.2.2.2.2.symm (by rw [pk_l.2.2.2.2.2.2.2.2.2.2.2.2.2.2.2.2.2.2]; rfl)
      by_cases e1 : hdW r.tail = lit 18
      · obtain ⟨μ2, q1, q2, q3⟩ := a1 e1
        rw [q1, am_op_some]
        dsimp only
        rw [if_neg (by decide)]
        exact fin μ2 0 1 q3 q2 (by unfold q_sg; rw [if_pos e1]) (Or.inl e1) (by rw [if_pos e1])
      · rw [a2 e1, am_op_some]
        dsimp only
        rw [if_pos rfl]
        by_cases e2 : hdW r.tail = lit 19
        · obtain ⟨μ2, q1, q2, q3⟩ := b1 e2
          rw [q1, am_op_some]
          dsimp only
          rw [if_neg (by decide)]
          exact fin μ2 (-1) 0 q3 q2 (by unfold q_sg; rw [if_neg e1, if_pos e2]) (Or.inr (Or.inl e2)) (by rw [if_neg e1])
        · rw [b2 e2, am_op_some]
          dsimp only
          rw [if_pos rfl]
          by_cases e3 : hdW r.tail = lit 20
          · obtain ⟨μ2, q1, q2, q3⟩ := c1 e3
            rw [q1, am_op_some]
            dsimp only
            rw [if_neg (by decide)]
            exact fin μ2 1 0 q3 q2 (by unfold q_sg; rw [if_neg e1, if_neg e2]) (Or.inr (Or.inr e3)) (by rw [if_neg e1])
          · rw [c2 e3, am_op_some]
            dsimp only
            rw [if_pos rfl, if_neg (by omega)]
            refine ⟨μ1, FR.refl _, fun _ _ _ => rfl, fun z => ?_, fun _ => rfl⟩
            exfalso
            rcases (hP.mp z).1 with y | y | y
            · exact e1 y
            · exact e2 y
            · exact e3 y
  · rw [if_pos (by omega)]
    refine ⟨μ, FR.refl _, fun _ _ _ => rfl, ?_⟩
    rw [if_neg hl]
    by_cases hc : colN fs cols (hdW r) = -1
    · rw [if_pos hc]
    · rw [if_neg hc]
/-- the number of ticks -/
theorem tT_ok (h : Rs fs cols recs ty μ ws r s) (hcr : ∀ w ∈ ws, Cr w) (hok : q_ok ty mk me s) : Rres fs cols recs ty (tT μ) μ ws (q_ok ty mk me) (if (hdW r).length = 1 ∧ 51 ≤ (hdW r).getD 0 0 ∧ (hdW r).getD 0 0 ≤ 57 then some (r.tail, (s.1, s.2.1, s.2.2.1, (hdW r).getD 0 0 - 48)) else none) := by
  obtain ⟨k, k1, k2, k3, k4, k5⟩ := h.more
  unfold tT
  by_cases hr : r = []
  · rw [if_neg (by have := k4 hr; omega), if_neg (by rw [hr]; exact fun z => absurd z.1 (by decide))]
    exact ⟨μ, FR.refl _, fun _ _ _ => rfl, rfl⟩
  · obtain ⟨k6, k7, k8, k9, p, p1, p2, p3⟩ := k5 hr
    have e248 : μ 248 (μ 240 19).toNat = (((hdW r).length : Nat) : Int) := by rw [k1, Int.toNat_natCast]; exact p2
    have e247 : μ 247 (μ 240 19).toNat = (p : Int) := by rw [k1, Int.toNat_natCast]; exact p1
    rw [if_pos (by omega), if_pos (by omega), e248]
    by_cases hl : (hdW r).length = 1
    · have hle : p + (hdW r).length ≤ 160 ∧ ∀ i, i < (hdW r).length → μ 242 (p + i) = (hdW r).getD i 0 := by
        rcases p3 with ⟨h, -⟩ | ⟨-, h, h'⟩
        · cases h
        · exact ⟨h, h'⟩
      have hm : hdW r ∈ ws := by
        rw [← k7, List.getD_eq_getElem?_getD, List.getElem?_eq_getElem k6]
        exact List.getElem_mem k6
      have hch := hcr _ hm 0
      have e242 : μ 242 (μ 247 (μ 240 19).toNat).toNat = (hdW r).getD 0 0 := by rw [e247, Int.toNat_natCast]; exact hle.2 0 (by omega)
      rw [if_pos (by omega), if_pos (by omega), if_pos (by rw [e247]; omega), e242]
      have g30 : am_up (am_up μ 240 30 (w32 ((hdW r).getD 0 0 - 48))) 240 19 (w32 (am_up μ 240 30 (w32 ((hdW r).getD 0 0 - 48)) 240 19 + 1)) 240 30 = (hdW r).getD 0 0 - 48 := by rw [am_up_s _ _ (by decide), am_up_at, w32_id (by omega) (by omega)]
      have ge : am_up (am_up μ 240 30 (w32 ((hdW r).getD 0 0 - 48))) 240 19 (w32 (am_up μ 240 30 (w32 ((hdW r).getD 0 0 - 48)) 240 19 + 1)) = am_up (am_up μ 240 30 ((hdW r).getD 0 0 - 48)) 240 19 ((k : Int) + 1) := by
        rw [am_up_s _ _ (by decide), k1, w32_id (x := (k : Int) + 1) (by omega) (by omega), w32_id (by omega) (by omega)]
      have f1 : FR μ (am_up (am_up μ 240 30 ((hdW r).getD 0 0 - 48)) 240 19 ((k : Int) + 1)) := (FR.up (by decide) (by decide) _).trans (FR.up (by decide) (by decide) _)
      have f2 : ∀ t, 20 ≤ t → t ≤ 23 → am_up (am_up μ 240 30 ((hdW r).getD 0 0 - 48)) 240 19 ((k : Int) + 1) 240 t = μ 240 t := fun t t1 t2 => by rw [am_up_s _ _ (by omega), am_up_s _ _ (by omega)]
      by_cases c1 : (hdW r).getD 0 0 < 51
      · rw [if_pos (by rw [g30]; omega), if_neg (show ¬ ((hdW r).length = 1 ∧ 51 ≤ (hdW r).getD 0 0 ∧ (hdW r).getD 0 0 ≤ 57) by omega), ge]
        exact ⟨_, f1, f2, rfl⟩
      · rw [if_neg (by rw [g30]; omega)]
        by_cases c2 : 57 < (hdW r).getD 0 0
        · rw [if_pos (by rw [g30]; omega), if_neg (show ¬ ((hdW r).length = 1 ∧ 51 ≤ (hdW r).getD 0 0 ∧ (hdW r).getD 0 0 ≤ 57) by omega), ge]
          exact ⟨_, f1, f2, rfl⟩
        · rw [if_neg (by rw [g30]; omega), if_pos (show ((hdW r).length = 1 ∧ 51 ≤ (hdW r).getD 0 0 ∧ (hdW r).getD 0 0 ≤ 57) by omega), ge]
          have h' : Rs fs cols recs ty (am_up μ 240 30 ((hdW r).getD 0 0 - 48)) ws r (s.1, s.2.1, s.2.2.1, (hdW r).getD 0 0 - 48) := h.up (by decide) _ rfl (by decide) h.2.2.2.2.2.2.1 h.2.2.2.2.2.2.2.1 rfl
          have g : F19 (am_up μ 240 30 ((hdW r).getD 0 0 - 48)) (am_up (am_up μ 240 30 ((hdW r).getD 0 0 - 48)) 240 19 ((k : Int) + 1)) := fun c t hct => by
            by_cases h9 : c = 240
            · exact am_up_s _ _ (by omega)
            · exact am_up_c _ _ h9
          exact ⟨_, f1, f2, fun _ => ⟨rfl, h'.at' ⟨h'.1.1.fr (g _ _ (by omega)) (fun c t hc => g c t (by omega)), h'.1.2.1, k + 1, k6, by rw [am_up_at]; omega, k9.symm⟩ g⟩, fun z => absurd hok z⟩
    · rw [if_neg (by omega), if_neg (fun z => hl z.1)]
      exact ⟨μ, FR.refl _, fun _ _ _ => rfl, rfl⟩
def q_inv (s : QC) : Prop := s.2.2.1 = -1 ∨ 0 ≤ s.2.2.1
theorem no190 (h : Rs fs cols recs ty μ ws r s) (hi : q_inv s) (n12 : hdW r ≠ lit 12) (n13 : hdW r = lit 13 → s.2.1 ≠ 0) (n16 : hdW r = lit 16 → s.2.2.1 ≠ -1) (n17 : hdW r = lit 17 → s.2.2.2 ≠ 0) : fn190 240 μ = some (0, μ) := by
  have e28 := h.2.2.2.2.2.2.1
  have e29 := h.2.2.2.2.2.2.2.1
  have e30 := h.2.2.2.2.2.2.2.2
  obtain ⟨-, -, -, -, -, -, -, -, -, -, v12, v13, v14, v15, v16, v17, -⟩ := pk_v
  obtain ⟨-, -, -, -, -, -, -, -, -, -, w12, w13, w14, w15, w16, w17, -⟩ := pk_l
  have T12 := (h.takes (t := 12) (by decide) (by decide) (P := 512852587109) (n := 5) v12.symm (by rw [w12]; rfl)).2
  have T13 := (h.takes (t := 13) (by decide) (by decide) (P := 478660552050) (n := 5) v13.symm (by rw [w13]; rfl)).2
  have T16 := (h.takes (t := 16) (by decide) (by decide) (P := 495873778539) (n := 5) v16.symm (by rw [w16]; rfl)).2
  have T17 := (h.takes (t := 17) (by decide) (by decide) (P := 499984329587) (n := 5) v17.symm (by rw [w17]; rfl)).2
  unfold fn190
  rw [T12 n12, am_op_some]
  dsimp only
  rw [if_pos rfl]
  by_cases a28 : μ 240 28 = 0
  · rw [if_pos a28, T13 (fun z => n13 z (by omega)), am_op_some]
    dsimp only
    rw [if_pos rfl]
    by_cases a29 : μ 240 29 < 0
    · rw [if_pos a29, T16 (fun z => n16 z (by unfold q_inv at hi; omega)), am_op_some]
      dsimp only
      rw [if_pos rfl]
      by_cases a30 : μ 240 30 = 0
      · rw [if_pos a30, T17 (fun z => n17 z (by omega)), am_op_some]
        rfl
      · rw [if_neg a30]
    · rw [if_neg a29]
      by_cases a30 : μ 240 30 = 0
      · rw [if_pos a30, T17 (fun z => n17 z (by omega)), am_op_some]
        rfl
      · rw [if_neg a30]
  · rw [if_neg a28]
    by_cases a29 : μ 240 29 < 0
    · rw [if_pos a29, T16 (fun z => n16 z (by unfold q_inv at hi; omega)), am_op_some]
      dsimp only
      rw [if_pos rfl]
      by_cases a30 : μ 240 30 = 0
      · rw [if_pos a30, T17 (fun z => n17 z (by omega)), am_op_some]
        rfl
      · rw [if_neg a30]
    · rw [if_neg a29]
      by_cases a30 : μ 240 30 = 0
      · rw [if_pos a30, T17 (fun z => n17 z (by omega)), am_op_some]
        rfl
      · rw [if_neg a30]
end RO
