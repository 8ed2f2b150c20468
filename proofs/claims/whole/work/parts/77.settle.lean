/-! Request.read to its end. -/
section QE
variable {fs : List (List Int)} {cols recs : Nat} {ty : Nat → Int}
theorem bI_or (b : Bool) : bI b = 0 ∨ bI b = 1 := by cases b <;> simp [bI]
theorem fn74_ok {μ : am_M} {j : Nat} (hj : j < 2) {c : Nat × List Int × List Int} (h : Qd μ j c) (h3 : μ (186 + 5 * j) 3 = ty c.1) (ht : ty c.1 = 1 ∨ ty c.1 = 2 ∨ ty c.1 = 3) : ∃ b, fn74 (186 + 5 * j) μ = some (bI b, μ) ∧ (b = true ↔ q_fit ty c) := by
  obtain ⟨y1, y2, y3, y4, y5, y6, y7⟩ := rf_9 j hj
  obtain ⟨h1, h2, h4, h5, h6, h7, h8⟩ := h
  have is : ∀ t, 18 ≤ t → t ≤ 20 → fn60 (187 + 5 * j) t μ = some (bI (decide (c.2.1 = lit t)), μ) := fun t t1 t2 => by
    refine fn60_ok y4 y5 h2 h5 (by omega) ?_ (by omega)
    have : ∀ t, t < 21 → 18 ≤ t → am_slen t ≤ 1 := by decide +kernel
    exact Or.inl (this t (by omega) t1)
  have e33 := fn33_ok y6 y7 h4 h6 (by omega)
  rw [sp_num_gc] at e33
  have e36 := fn36_ok y6 y7 h4 h6 (by omega)
  rw [sp_date_gc] at e36
  have e29 := fn29_ok h4
  unfold fn74 q_fit
  rw [y2, y3, is 18 (by decide) (by decide), am_op_some]
  dsimp only
  by_cases c1 : c.2.1 = lit 18
  · rw [if_neg (by rw [decide_eq_true c1]; decide)]
    by_cases t1 : ty c.1 = 1
    · rw [if_pos (h3.trans t1), if_pos t1, e33, am_op_some]
      dsimp only
      rw [if_pos (bI_or _)]
      exact ⟨_, rfl, ⟨fun z => ⟨Or.inl c1, z⟩, fun z => z.2⟩⟩
    · rw [if_neg (fun z => t1 (h3.symm.trans z)), if_neg t1]
      by_cases t2 : ty c.1 = 2
      · rw [if_pos (h3.trans t2), if_pos t2, e36, am_op_some]
        dsimp only
        rw [if_pos (bI_or _)]
        exact ⟨_, rfl, ⟨fun z => ⟨Or.inl c1, z⟩, fun z => z.2⟩⟩
      · rw [if_neg (fun z => t2 (h3.symm.trans z)), if_neg t2, if_neg (by rw [decide_eq_true c1]; decide), e29, am_op_some]
        dsimp only
        by_cases l0 : c.2.2.length = 0
        · rw [decide_eq_true l0, if_neg (by decide)]
          exact ⟨false, rfl, ⟨(fun z => by cases z), fun z => absurd l0 z.2.2⟩⟩
        · rw [decide_eq_false l0, if_pos (show bI false = 0 from rfl)]
          exact ⟨true, rfl, ⟨fun _ => ⟨Or.inl c1, c1, l0⟩, fun _ => rfl⟩⟩
  · rw [if_pos (by rw [decide_eq_false c1]; rfl), is 19 (by decide) (by decide), am_op_some]
    dsimp only
    by_cases c2 : c.2.1 = lit 19
    · rw [if_neg (by rw [decide_eq_true c2]; decide)]
      by_cases t1 : ty c.1 = 1
      · rw [if_pos (h3.trans t1), if_pos t1, e33, am_op_some]
        dsimp only
        rw [if_pos (bI_or _)]
        exact ⟨_, rfl, ⟨fun z => ⟨Or.inr (Or.inl c2), z⟩, fun z => z.2⟩⟩
      · rw [if_neg (fun z => t1 (h3.symm.trans z)), if_neg t1]
        by_cases t2 : ty c.1 = 2
        · rw [if_pos (h3.trans t2), if_pos t2, e36, am_op_some]
          dsimp only
          rw [if_pos (bI_or _)]
          exact ⟨_, rfl, ⟨fun z => ⟨Or.inr (Or.inl c2), z⟩, fun z => z.2⟩⟩
        · rw [if_neg (fun z => t2 (h3.symm.trans z)), if_neg t2, if_pos (by rw [decide_eq_false c1]; rfl)]
          exact ⟨false, rfl, ⟨(fun z => by cases z), fun z => absurd z.2.1 c1⟩⟩
    · rw [if_pos (by rw [decide_eq_false c2]; rfl), is 20 (by decide) (by decide), am_op_some]
      dsimp only
      by_cases c3 : c.2.1 = lit 20
      · rw [if_neg (by rw [decide_eq_true c3]; decide)]
        by_cases t1 : ty c.1 = 1
        · rw [if_pos (h3.trans t1), if_pos t1, e33, am_op_some]
          dsimp only
          rw [if_pos (bI_or _)]
          exact ⟨_, rfl, ⟨fun z => ⟨Or.inr (Or.inr c3), z⟩, fun z => z.2⟩⟩
        · rw [if_neg (fun z => t1 (h3.symm.trans z)), if_neg t1]
          by_cases t2 : ty c.1 = 2
          · rw [if_pos (h3.trans t2), if_pos t2, e36, am_op_some]
            dsimp only
            rw [if_pos (bI_or _)]
            exact ⟨_, rfl, ⟨fun z => ⟨Or.inr (Or.inr c3), z⟩, fun z => z.2⟩⟩
          · rw [if_neg (fun z => t2 (h3.symm.trans z)), if_neg t2, if_pos (by rw [decide_eq_false c1]; rfl)]
            exact ⟨false, rfl, ⟨(fun z => by cases z), fun z => absurd z.2.1 c1⟩⟩
      · rw [if_pos (by rw [decide_eq_false c3]; rfl)]
        exact ⟨false, rfl, ⟨(fun z => by cases z), fun z => by rcases z.1 with z | z | z
                                                               · exact absurd z c1
                                                               · exact absurd z c2
                                                               · exact absurd z c3⟩⟩
def Qe (ty : Nat → Int) (μ : am_M) (j : Nat) (c : Nat × List Int × List Int) : Prop := μ (186 + 5 * j) 3 = ty c.1 ∧ μ (186 + 5 * j) 4 = sp_wo (ty c.1) c.2.2
def Fs (μ μ' : am_M) : Prop := ∀ q t, ¬ ((q = 186 ∨ q = 191) ∧ (t = 3 ∨ t = 4)) → μ' q t = μ q t
theorem fn75_ok {μ : am_M} {j : Nat} (hj : j < 2) {c : Nat × List Int × List Int} (h : Qd μ j c) (hc : c.1 < cols) (h5 : cols ≤ 5) (hY : ∀ c, c < cols → μ 140 c = ty c) (ht : ty c.1 = 1 ∨ ty c.1 = 2 ∨ ty c.1 = 3) : ∃ b μ', fn75 (186 + 5 * j) 5 μ = some (bI b, μ') ∧ (b = true ↔ q_fit ty c) ∧ (b = true → Qe ty μ' j c) ∧ ∀ q t, ¬ (q = 186 + 5 * j ∧ (t = 3 ∨ t = 4)) → μ' q t = μ q t := by
  obtain ⟨y1, y2, y3, y4, y5, y6, y7⟩ := rf_9 j hj
  have g : ∀ q t, ¬ (q = 186 + 5 * j ∧ (t = 3 ∨ t = 4)) → am_up μ (186 + 5 * j) 3 (ty c.1) q t = μ q t := fun q t hq => by
    by_cases h9 : q = 186 + 5 * j
    · exact am_up_s _ _ (by omega)
    · exact am_up_c _ _ h9
  have h3 : am_up μ (186 + 5 * j) 3 (ty c.1) (186 + 5 * j) 3 = ty c.1 := am_up_at _ _ _ _
  have hd : Qd (am_up μ (186 + 5 * j) 3 (ty c.1)) j c := h.fr (fun q t q1 q2 q3 => g q t (by omega))
  obtain ⟨b, p1, p2⟩ := fn74_ok hj hd h3 ht
  unfold fn75
  rw [fn45_ty hY h5 (x := μ (186 + 5 * j) 2) (by rw [h.1]; omega) (by rw [h.1]; omega), am_op_some, h.1, Int.toNat_natCast]
  dsimp only
  rw [p1, am_op_some]
  dsimp only
  cases b with
  | false =>
    rw [if_pos (show bI false = 0 from rfl)]
    exact ⟨false, _, rfl, p2, (fun z => by cases z), g⟩
  | true =>
    have hq := p2.mp rfl
    obtain ⟨-, -, w3, -, w5, -, w7⟩ := hd
    rw [if_neg (by decide), h3, y3, fn40_ok y6 y7 w3 w5 (by omega) ht (fun t1 _ => by have := hq.2; rw [if_pos t1] at this; exact this) (fun t2 _ => by have := hq.2; rw [if_neg (by omega), if_pos t2] at this; exact this), am_op_some]
    refine ⟨true, _, rfl, p2, fun _ => ⟨by rw [am_up_s _ _ (by decide)]; exact h3, am_up_at _ _ _ _⟩, fun q t hq => ?_⟩
    rw [← g q t hq]
    by_cases h9 : q = 186 + 5 * j
    · exact am_up_s _ _ (by omega)
    · exact am_up_c _ _ h9
variable {cs : List (Nat × List Int × List Int)}
theorem L77_87_ok (h5 : cols ≤ 5) (hl : cs.length ≤ 2) (ht : ∀ c, c < cols → ty c = 1 ∨ ty c = 2 ∨ ty c = 3) : ∀ (k N i : Nat) (μ : am_M) (x : Int), k < N → x = i → i + k = cs.length → μ 141 9 = ((cs.length : Nat) : Int) → (∀ c, c < cols → μ 140 c = ty c) → (∀ j, j < cs.length → Qd μ j (cs.getD j (0, [], [])) ∧ (cs.getD j (0, [], [])).1 < cols) → (∀ j, j < i → Qe ty μ j (cs.getD j (0, [], []))) →
    ∃ b x' μ', L77_87 141 5 N 1 x μ = some (.inr (bI b, x', μ')) ∧ Fs μ μ' ∧ (b = true ↔ ∀ j, i ≤ j → j < cs.length → q_fit ty (cs.getD j (0, [], []))) ∧ (b = true → ∀ j, j < cs.length → Qe ty μ' j (cs.getD j (0, [], [])))
  | k, 0, _, _, _, hN, _, _, _, _, _, _ => absurd hN (by omega)
  | 0, N + 1, i, μ, x, hN, hx, hk, h9, hY, hd, he => by
    rw [L77_87, if_neg (by decide), if_neg (by rw [h9]; omega)]
    exact ⟨true, x, μ, rfl, fun _ _ _ => rfl, ⟨fun _ j j1 j2 => by omega, fun _ => rfl⟩, fun _ j hj => he j (by omega)⟩
  | k + 1, N + 1, i, μ, x, hN, hx, hk, h9, hY, hd, he => by
    obtain ⟨d1, d2⟩ := hd i (by omega)
    obtain ⟨b, μ1, p1, p2, p3, p4⟩ := fn75_ok (by omega) d1 d2 h5 hY (ht _ d2)
    obtain ⟨y1, -⟩ := rf_9 i (by omega)
    rw [L77_87, rf_6.2.2.2.2.1, rf_6.2.2.2.2.2.2.1, if_neg (by decide), if_pos (by rw [h9]; omega), if_pos (by omega), if_pos (by omega), show x.toNat = i by omega, y1, p1, am_op_some]
    dsimp only
    rw [w32_id (by omega) (by omega)]
    have f1 : Fs μ μ1 := fun q t hq => p4 q t (by omega)
    cases b with
    | false =>
      obtain ⟨N', rfl⟩ : ∃ N', N = N' + 1 := ⟨N - 1, by omega⟩
      rw [L77_87, if_pos (show bI false = 0 from rfl)]
      exact ⟨false, _, μ1, rfl, f1, ⟨(fun z => by cases z), fun z => p2.mpr (z i (by omega) (by omega))⟩, (fun z => by cases z)⟩
    | true =>
      obtain ⟨b', x', μ', q1, q2, q3, q4⟩ := L77_87_ok h5 hl ht k N (i + 1) μ1 (x + 1) (by omega) (by omega) (by omega) (by rw [p4 _ _ (by omega)]; exact h9) (fun c hc => by rw [p4 _ _ (by omega)]; exact hY c hc) (fun j hj => ⟨(hd j hj).1.fr (fun q t q1 q2 q3 => by
        by_cases hij : j = i
        · exact p4 q t (by omega)
        · exact p4 q t (by omega)), (hd j hj).2⟩) (fun j hj => by
        by_cases hij : j = i
        · rw [hij]; exact p3 rfl
        · obtain ⟨w1, w2⟩ := he j (by omega)
          exact ⟨by rw [p4 _ _ (by omega)]; exact w1, by rw [p4 _ _ (by omega)]; exact w2⟩)
      refine ⟨b', x', μ', q1, fun q t hq => by rw [q2 q t hq, f1 q t hq], ⟨fun z j j1 j2 => ?_, fun z => q3.mpr (fun j j1 j2 => z j (by omega) j2)⟩, q4⟩
      by_cases hij : j = i
      · rw [hij]; exact p2.mp rfl
      · exact q3.mp z j (by omega) j2
end QE
