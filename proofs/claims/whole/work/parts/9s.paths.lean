/-! Lines and points. -/
def dif (y1 y2 : Int) : Int := if y1 < y2 then y2 - y1 else y1 - y2
def dwn (y1 y2 : Int) : Int := if y1 < y2 then 1 else -1
def pth (x1 y1 x2 y2 : Int) : List Dot := brz (x2 - x1) (dif y1 y2) (dwn y1 y2) x2 y2 (x2 - x1 + dif y1 y2).toNat (x2 - x1 - dif y1 y2) x1 y1
theorem BZ0 {x1 y1 x2 y2 : Int} (hx : x1 ≤ x2) : BZ (x2 - x1) (dif y1 y2) (dwn y1 y2) x2 y2 (x2 - x1 - dif y1 y2) x1 y1 (x2 - x1) (dif y1 y2) := by
  have hb : 0 ≤ dif y1 y2 := by unfold dif; split <;> omega
  refine ⟨by omega, by omega, by omega, ?_, ?_⟩
  · unfold dif dwn
    by_cases c : y1 < y2
    · rw [if_pos c, if_pos c]; omega
    · rw [if_neg c, if_neg c]; omega
  · rw [Int.mul_comm (dif y1 y2)]; omega
section LN2
variable {W H : Int}
theorem fn154_ok (hW : W ≤ 96) (hH : H ≤ 64) {x1 y1 x2 y2 : Int} (hx1 : 0 ≤ x1) (hx : x1 ≤ x2) (hx2 : x2 ≤ 100) (hy1 : 0 ≤ y1 ∧ y1 ≤ 100) (hy2 : 0 ≤ y2 ∧ y2 ≤ 100) {P : Cv} {μ : am_M} (hP : PC W H P μ) : ∃ μ', fn154 234 x1 y1 x2 y2 3 μ = some (0, μ') ∧ PC W H (dts P ((x1, y1, 3) :: pth x1 y1 x2 y2)) μ' ∧ Fc μ μ' := by
  have hZ := BZ0 (y1 := y1) (y2 := y2) hx
  have hd : 0 ≤ dif y1 y2 ∧ dif y1 y2 ≤ 100 := by unfold dif; split <;> omega
  have e1 : fn153 (w32 (x2 - x1)) μ = some (x2 - x1, μ) := by
    unfold fn153; rw [w32_id (by omega) (by omega), if_neg (by omega)]
  have e2 : fn153 (w32 (y2 - y1)) μ = some (dif y1 y2, μ) := by
    unfold fn153 dif
    rw [w32_id (by omega) (by omega)]
    by_cases c : y2 - y1 < 0
    · rw [if_pos c, if_neg (by omega), w32_id (by omega) (by omega)]; congr 2; omega
    · rw [if_neg c]
      by_cases c2 : y1 < y2
      · rw [if_pos c2]
      · rw [if_neg c2]; congr 2; omega
  obtain ⟨μ1, q1, q2, q3⟩ := fn137_ok hW hH (x := x1) (y := y1) (v := 3) (by omega) hP
  have go : ∀ l8, (l8 = dwn y1 y2 ∨ dif y1 y2 = 0) → ∃ μ', (am_op (fn137 234 x1 y1 3 μ) (fun z3 => (am_op (L154_57 234 x2 y2 3 (x2 - x1) (w32 (-(dif y1 y2))) l8 am_fuel (w32 (x2 - x1 + (w32 (-(dif y1 y2))))) x1 y1 0 z3.2) (fun s => am_lp s (fun q1 => some q1) (fun t1 => some (0, t1.2.2.2.2)))))) = some ((0 : Int), μ') ∧ PC W H (dts P ((x1, y1, 3) :: pth x1 y1 x2 y2)) μ' ∧ Fc μ μ' := fun l8 hl8 => by
    obtain ⟨z1, z2, z3, z4, μ2, r1, r2, r3⟩ := L154_ok hW hH (x2 := x2) (y2 := y2) (a := x2 - x1) (b := dif y1 y2) (dn := dwn y1 y2) (by omega) (by omega) hl8 (by omega) (by omega) (x2 - x1 + dif y1 y2).toNat am_fuel _ μ1 _ x1 y1 _ _ 0 (by unfold am_fuel; omega) (by omega) hZ (by omega) (by omega) q2
    rw [q1, am_op_some, w32_id (x := -(dif y1 y2)) (by omega) (by omega), w32_id (by omega) (by omega), show x2 - x1 + -(dif y1 y2) = x2 - x1 - dif y1 y2 by omega, r1, am_op_some, am_lp_r]
    exact ⟨_, rfl, r2, q3.trans r3⟩
  unfold fn154
  rw [e1, am_op_some]
  dsimp only
  rw [e2, am_op_some]
  dsimp only
  by_cases c : y2 < y1
  · rw [if_pos c]; exact go (-1) (Or.inl (by unfold dwn; rw [if_neg (by omega)]))
  · rw [if_neg c]
    refine go 1 ?_
    unfold dwn dif
    by_cases c2 : y1 < y2
    · rw [if_pos c2]; exact Or.inl rfl
    · rw [if_neg c2, if_neg c2]; omega
theorem fn223_ok (hW : W ≤ 96) (hH : H ≤ 64) {x1 y1 x2 y2 : Int} (hx1 : 0 ≤ x1) (hx : x1 ≤ x2) (hx2 : x2 < W) (hy1 : 0 ≤ y1 ∧ y1 < H) (hy2 : 0 ≤ y2 ∧ y2 < H) {P : Cv} {μ : am_M} (hP : PR W H P μ) : ∃ μ', fn223 240 x1 y1 x2 y2 μ = some (0, μ') ∧ PR W H (dts P (pth x1 y1 x2 y2)) μ' ∧ F9 μ μ' := by
  have hZ := BZ0 (y1 := y1) (y2 := y2) hx
  have hd : 0 ≤ dif y1 y2 ∧ dif y1 y2 ≤ 100 := by unfold dif; split <;> omega
  obtain ⟨z1, z2, z3, μ2, r1, r2, r3⟩ := L223_ok hW hH (x2 := x2) (y2 := y2) (a := x2 - x1) (b := dif y1 y2) (dn := dwn y1 y2) (by omega) (by omega) (by omega) hy2 hy1 rfl (x2 - x1 + dif y1 y2).toNat am_fuel P μ _ x1 y1 _ _ (by unfold am_fuel; omega) (by omega) hZ hx1 (by omega) hP
  unfold fn223
  by_cases c : y1 < y2
  · have e : w32 (y1 - y2) = -(dif y1 y2) := by unfold dif; rw [if_pos c, w32_id (by omega) (by omega)]; omega
    rw [if_pos c, e, w32_id (x := x2 - x1) (by omega) (by omega), w32_id (by omega) (by omega), show x2 - x1 + -(dif y1 y2) = x2 - x1 - dif y1 y2 by omega, r1, am_op_some, am_lp_r]
    exact ⟨_, rfl, r2, r3⟩
  · have e : w32 (y2 - y1) = -(dif y1 y2) := by unfold dif; rw [if_neg c, w32_id (by omega) (by omega)]; omega
    rw [if_neg c, e, w32_id (x := x2 - x1) (by omega) (by omega), w32_id (by omega) (by omega), show x2 - x1 + -(dif y1 y2) = x2 - x1 - dif y1 y2 by omega, r1, am_op_some, am_lp_r]
    exact ⟨_, rfl, r2, r3⟩
end LN2
/-! One colour: the order is of no account. -/
def C3l (L : List Dot) : Prop := ∀ d ∈ L, d.2.2 = 3
theorem dts_hit {a b : Nat} : ∀ (L : List Dot) (P : Cv), C3l L → (P a b = 3 ∨ ∃ d ∈ L, (a : Int) = d.1 ∧ (b : Int) = d.2.1) → dts P L a b = 3
  | [], P, _, h => by
    rcases h with h | ⟨d, hd, _⟩
    · exact h
    · cases hd
  | d :: L, P, hc, h => by
    refine dts_hit L (dt P d) (fun e he => hc e (List.mem_cons_of_mem _ he)) ?_
    by_cases q : (a : Int) = d.1 ∧ (b : Int) = d.2.1
    · left; unfold dt; rw [if_pos q]; exact hc d List.mem_cons_self
    · rcases h with h | ⟨e, he, h2⟩
      · left; unfold dt; rw [if_neg q]; exact h
      · rcases List.mem_cons.mp he with z | z
        · rw [z] at h2; exact absurd h2 q
        · exact Or.inr ⟨e, z, h2⟩
theorem dts_miss {a b : Nat} : ∀ (L : List Dot) (P : Cv), (∀ d ∈ L, ¬ ((a : Int) = d.1 ∧ (b : Int) = d.2.1)) → dts P L a b = P a b
  | [], _, _ => rfl
  | d :: L, P, h => by
    show dts (dt P d) L a b = P a b
    rw [dts_miss L (dt P d) (fun e he => h e (List.mem_cons_of_mem _ he))]
    unfold dt
    rw [if_neg (h d List.mem_cons_self)]
theorem dts_same {L R : List Dot} (hL : C3l L) (hR : C3l R) (h : ∀ d, d ∈ L ↔ d ∈ R) (P : Cv) : dts P L = dts P R := by
  funext a b
  by_cases q : ∃ d ∈ L, (a : Int) = d.1 ∧ (b : Int) = d.2.1
  · rw [dts_hit L P hL (Or.inr q)]
    obtain ⟨d, hd, h2⟩ := q
    rw [dts_hit R P hR (Or.inr ⟨d, (h d).mp hd, h2⟩)]
  · rw [dts_miss L P (fun d hd z => q ⟨d, hd, z⟩), dts_miss R P (fun d hd z => q ⟨d, (h d).mpr hd, z⟩)]
theorem brz_3 (a b dn x2 y2 : Int) : ∀ (m : Nat) (e x y : Int), C3l (brz a b dn x2 y2 m e x y)
  | 0, _, _, _ => fun d hd => by cases hd
  | m + 1, e, x, y => by
    unfold brz
    split
    · exact fun d hd => by cases hd
    · intro d hd
      rcases List.mem_cons.mp hd with z | z
      · rw [z]
      · exact brz_3 a b dn x2 y2 m _ _ _ d z
theorem brz_end {a b dn x2 y2 : Int} : ∀ (m : Nat) (e x y p q : Int), BZ a b dn x2 y2 e x y p q → ¬ (p = 0 ∧ q = 0) → p + q ≤ m → (x2, y2, 3) ∈ brz a b dn x2 y2 m e x y
  | 0, e, x, y, p, q, hZ, hn, hm => by obtain ⟨_, _, _, _, _⟩ := hZ; omega
  | m + 1, e, x, y, p, q, hZ, hn, hm => by
    obtain ⟨p', q', hZ', hlt, hp', hq', hby⟩ := hZ.step hn
    unfold brz
    rw [if_neg (fun z => hn (hZ.fin.mp z))]
    by_cases f : p' = 0 ∧ q' = 0
    · have := hZ'.fin.mpr f
      rw [this.1, this.2]
      exact List.mem_cons_self
    · exact List.mem_cons_of_mem _ (brz_end m _ _ _ p' q' hZ' f (by omega))
theorem pth_3 (x1 y1 x2 y2 : Int) : C3l (pth x1 y1 x2 y2) := brz_3 _ _ _ _ _ _ _ _ _
theorem pth_end {x1 y1 x2 y2 : Int} (hx : x1 < x2) : (x2, y2, 3) ∈ pth x1 y1 x2 y2 := by
  have hd : 0 ≤ dif y1 y2 := by unfold dif; split <;> omega
  exact brz_end _ _ _ _ _ _ (BZ0 (by omega)) (by omega) (by omega)
/-- class: the way to each from the one before, its beginning with it -/
def lnc (X Y : Nat → Int) : Nat → Nat → List Dot
  | 0, _ => []
  | m + 1, i => ((X (i - 1), Y (i - 1), 3) :: pth (X (i - 1)) (Y (i - 1)) (X i) (Y i)) ++ lnc X Y m (i + 1)
/-- reference: each, and the way to it -/
def lnr (X Y : Nat → Int) : Nat → Nat → List Dot
  | 0, _ => []
  | m + 1, i => ((X i, Y i, 3) :: (if i = 0 then [] else pth (X (i - 1)) (Y (i - 1)) (X i) (Y i))) ++ lnr X Y m (i + 1)
theorem lnc_3 (X Y : Nat → Int) : ∀ m i, C3l (lnc X Y m i)
  | 0, _ => fun d hd => by cases hd
  | m + 1, i => fun d hd => by
    unfold lnc at hd
    rcases List.mem_append.mp hd with z | z
    · rcases List.mem_cons.mp z with w | w
      · rw [w]
      · exact pth_3 _ _ _ _ d w
    · exact lnc_3 X Y m (i + 1) d z
theorem lnr_3 (X Y : Nat → Int) : ∀ m i, C3l (lnr X Y m i)
  | 0, _ => fun d hd => by cases hd
  | m + 1, i => fun d hd => by
    unfold lnr at hd
    rcases List.mem_append.mp hd with z | z
    · rcases List.mem_cons.mp z with w | w
      · rw [w]
      · split at w
        · cases w
        · exact pth_3 _ _ _ _ d w
    · exact lnr_3 X Y m (i + 1) d z
theorem lnc_mem {X Y : Nat → Int} {d : Dot} : ∀ m i, 1 ≤ i → (d ∈ lnc X Y m i ↔ ∃ j, i ≤ j ∧ j < i + m ∧ (d = (X (j - 1), Y (j - 1), 3) ∨ d ∈ pth (X (j - 1)) (Y (j - 1)) (X j) (Y j)))
  | 0, i, _ => ⟨fun h => (by cases h), fun ⟨j, h1, h2, _⟩ => by omega⟩
  | m + 1, i, hi => by
    unfold lnc
    rw [List.mem_append, List.mem_cons, lnc_mem m (i + 1) (by omega)]
    constructor
    · rintro (h | ⟨j, h1, h2, h3⟩)
      · exact ⟨i, by omega, by omega, h⟩
      · exact ⟨j, by omega, by omega, h3⟩
    · rintro ⟨j, h1, h2, h3⟩
      by_cases e : j = i
      · rw [e] at h3; exact Or.inl h3
      · exact Or.inr ⟨j, by omega, by omega, h3⟩
theorem lnr_mem {X Y : Nat → Int} {d : Dot} : ∀ m i, (d ∈ lnr X Y m i ↔ ∃ j, i ≤ j ∧ j < i + m ∧ (d = (X j, Y j, 3) ∨ (j ≠ 0 ∧ d ∈ pth (X (j - 1)) (Y (j - 1)) (X j) (Y j))))
  | 0, i => ⟨fun h => (by cases h), fun ⟨j, h1, h2, _⟩ => by omega⟩
  | m + 1, i => by
    have e1 : d ∈ (if i = 0 then ([] : List Dot) else pth (X (i - 1)) (Y (i - 1)) (X i) (Y i)) ↔ (i ≠ 0 ∧ d ∈ pth (X (i - 1)) (Y (i - 1)) (X i) (Y i)) := by
      by_cases c : i = 0
      · rw [if_pos c]; exact ⟨fun h => (by cases h), fun h => absurd c h.1⟩
      · rw [if_neg c]; exact ⟨fun h => ⟨c, h⟩, fun h => h.2⟩
    unfold lnr
    rw [List.mem_append, List.mem_cons, lnr_mem m (i + 1), e1]
    constructor
    · rintro (h | ⟨j, h1, h2, h3⟩)
      · exact ⟨i, by omega, by omega, h⟩
      · exact ⟨j, by omega, by omega, h3⟩
    · rintro ⟨j, h1, h2, h3⟩
      by_cases e : j = i
      · rw [e] at h3; exact Or.inl h3
      · exact Or.inr ⟨j, by omega, by omega, h3⟩
theorem ln_eq {X Y : Nat → Int} {c : Nat} (hc : 1 ≤ c) (hX : ∀ i, i + 1 < c → X i < X (i + 1)) (P : Cv) : dts P ((X 0, Y 0, 3) :: lnc X Y (c - 1) 1) = dts P (lnr X Y c 0) := by
  refine dts_same ?_ (lnr_3 X Y c 0) (fun d => ?_) P
  · intro d hd
    rcases List.mem_cons.mp hd with z | z
    · rw [z]
    · exact lnc_3 X Y _ _ d z
  · rw [List.mem_cons, lnc_mem _ _ (Nat.le_refl _), lnr_mem]
    constructor
    · rintro (h | ⟨j, h1, h2, h3 | h3⟩)
      · exact ⟨0, by omega, by omega, Or.inl h⟩
      · exact ⟨j - 1, by omega, by omega, Or.inl h3⟩
      · exact ⟨j, by omega, by omega, Or.inr ⟨by omega, h3⟩⟩
    · rintro ⟨j, h1, h2, h3 | ⟨h3, h4⟩⟩
      · by_cases e : j = 0
        · rw [e] at h3; exact Or.inl h3
        · refine Or.inr ⟨j, by omega, by omega, Or.inr ?_⟩
          rw [h3]
          refine pth_end ?_
          have := hX (j - 1) (by omega)
          rw [show j - 1 + 1 = j by omega] at this
          exact this
      · exact Or.inr ⟨j, by omega, by omega, Or.inr h4⟩
