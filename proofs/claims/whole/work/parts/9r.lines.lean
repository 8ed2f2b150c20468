/-! Lines. -/
def b_x (b e x : Int) : Int := if -b ≤ 2 * e then x + 1 else x
def b_y (a dn e y : Int) : Int := if 2 * e ≤ a then y + dn else y
def b_z (a b e : Int) : Int := (if -b ≤ 2 * e then e - b else e) + (if 2 * e ≤ a then a else 0)
def brz (a b dn x2 y2 : Int) : Nat → Int → Int → Int → List Dot
  | 0, _, _, _ => []
  | m + 1, e, x, y => if x = x2 ∧ y = y2 then [] else (b_x b e x, b_y a dn e y, 3) :: brz a b dn x2 y2 m (b_z a b e) (b_x b e x) (b_y a dn e y)
/-- p and q: how far to go -/
def BZ (a b dn x2 y2 e x y p q : Int) : Prop := (0 ≤ p ∧ p ≤ a) ∧ (0 ≤ q ∧ q ≤ b) ∧ x + p = x2 ∧ ((dn = 1 ∧ y + q = y2) ∨ (dn = -1 ∧ y - q = y2)) ∧ e = a - b + p * b - q * a
theorem BZ.step {a b dn x2 y2 e x y p q : Int} (h : BZ a b dn x2 y2 e x y p q) (hn : ¬ (p = 0 ∧ q = 0)) : ∃ p' q', BZ a b dn x2 y2 (b_z a b e) (b_x b e x) (b_y a dn e y) p' q' ∧ p' + q' < p + q ∧ p' ≤ p ∧ q' ≤ q ∧ (2 * e ≤ a → 1 ≤ b) := by
  obtain ⟨⟨p0, p1⟩, ⟨q0, q1⟩, hx, hy, he⟩ := h
  have mp : 1 ≤ p → b ≤ p * b := fun z => by
    have := Int.mul_nonneg (show 0 ≤ p - 1 by omega) (show 0 ≤ b by omega)
    rw [Int.sub_mul, Int.one_mul] at this; omega
  have mq : 1 ≤ q → a ≤ q * a := fun z => by
    have := Int.mul_nonneg (show 0 ≤ q - 1 by omega) (show 0 ≤ a by omega)
    rw [Int.sub_mul, Int.one_mul] at this; omega
  have zp : p = 0 → p * b = 0 := fun z => by rw [z, Int.zero_mul]
  have zq : q = 0 → q * a = 0 := fun z => by rw [z, Int.zero_mul]
  have sp : (p - 1) * b = p * b - b := by rw [Int.sub_mul, Int.one_mul]
  have sq : (q - 1) * a = q * a - a := by rw [Int.sub_mul, Int.one_mul]
  have hxs : -b ≤ 2 * e → 1 ≤ p := fun z => by
    rcases Int.lt_or_le p 1 with w | w
    · have := mq (by omega); have := zp (by omega); omega
    · exact w
  have hys : 2 * e ≤ a → 1 ≤ q := fun z => by
    rcases Int.lt_or_le q 1 with w | w
    · have := mp (by omega); have := zq (by omega); omega
    · exact w
  unfold b_x b_y b_z
  by_cases c1 : -b ≤ 2 * e
  · have := hxs c1
    by_cases c2 : 2 * e ≤ a
    · have := hys c2
      refine ⟨p - 1, q - 1, ⟨by omega, by omega, ?_, ?_, ?_⟩, by omega, by omega, by omega, fun _ => by omega⟩
      · rw [if_pos c1]; omega
      · rw [if_pos c2]; omega
      · rw [if_pos c1, if_pos c2, sp, sq]; omega
    · refine ⟨p - 1, q, ⟨by omega, by omega, ?_, ?_, ?_⟩, by omega, by omega, by omega, fun z => absurd z c2⟩
      · rw [if_pos c1]; omega
      · rw [if_neg c2]; omega
      · rw [if_pos c1, if_neg c2, sp]; omega
  · by_cases c2 : 2 * e ≤ a
    · have := hys c2
      refine ⟨p, q - 1, ⟨by omega, by omega, ?_, ?_, ?_⟩, by omega, by omega, by omega, fun _ => by omega⟩
      · rw [if_neg c1]; omega
      · rw [if_pos c2]; omega
      · rw [if_neg c1, if_pos c2, sq]; omega
    · exact absurd c1 (by omega)
theorem BZ.rng {a b dn x2 y2 e x y p q : Int} (h : BZ a b dn x2 y2 e x y p q) (ha : a ≤ 100) (hb : b ≤ 100) : -20000 ≤ e ∧ e ≤ 20000 := by
  obtain ⟨⟨p0, p1⟩, ⟨q0, q1⟩, hx, hy, he⟩ := h
  have m1 := Int.mul_nonneg p0 (show 0 ≤ b by omega)
  have m2 := Int.mul_nonneg q0 (show 0 ≤ a by omega)
  have m3 := Int.mul_le_mul_of_nonneg_right (show p ≤ 100 by omega) (show 0 ≤ b by omega)
  have m4 := Int.mul_le_mul_of_nonneg_right (show q ≤ 100 by omega) (show 0 ≤ a by omega)
  omega
theorem BZ.fin {a b dn x2 y2 e x y p q : Int} (h : BZ a b dn x2 y2 e x y p q) : (x = x2 ∧ y = y2) ↔ (p = 0 ∧ q = 0) := by
  obtain ⟨⟨p0, p1⟩, ⟨q0, q1⟩, hx, hy, he⟩ := h
  omega
section LNc
variable {W H : Int}
theorem L154_ok (hW : W ≤ 96) (hH : H ≤ 64) {x2 y2 a b dn l8 : Int} (ha : a ≤ 100) (hb : b ≤ 100) (hl8 : l8 = dn ∨ b = 0) (hx2 : 0 ≤ x2 ∧ x2 ≤ 200) (hy2 : 0 ≤ y2 ∧ y2 ≤ 200) : ∀ (m N : Nat) (P : Cv) (μ : am_M) (e x y p q i : Int), m < N → p + q ≤ m → BZ a b dn x2 y2 e x y p q → 0 ≤ i → i + p + q ≤ a + b → PC W H P μ → ∃ y1 y3 y4 y5 μ', L154_57 234 x2 y2 3 a (-b) l8 N e x y i μ = some (.inr (y1, y3, y4, y5, μ')) ∧ PC W H (dts P (brz a b dn x2 y2 m e x y)) μ' ∧ Fc μ μ'
  | m, 0, _, _, _, _, _, _, _, _, hN, _, _, _, _, _ => absurd hN (by omega)
  | m, N + 1, P, μ, e, x, y, p, q, i, hN, hm, hZ, hi, hib, hP => by
    have er := hZ.rng ha hb
    have hZ2 := hZ
    obtain ⟨⟨p0, p1⟩, ⟨q0, q1⟩, hx, hy, he⟩ := hZ2
    by_cases f : p = 0 ∧ q = 0
    · have xy := hZ.fin.mpr f
      have eL : L154_57 234 x2 y2 3 a (-b) l8 (N + 1) e x y i μ = some (.inr (e, x, y, i, μ)) := by
        rw [L154_57, if_pos xy.1, if_pos xy.2]
        split <;> rfl
      have eB : brz a b dn x2 y2 m e x y = [] := by
        cases m with
        | zero => rfl
        | succ m => unfold brz; rw [if_pos xy]
      rw [eL, eB]
      exact ⟨_, _, _, _, _, rfl, hP, Fc.refl _⟩
    · obtain ⟨p', q', hZ', hlt, hp', hq', hby⟩ := hZ.step f
      have nxy : ¬ (x = x2 ∧ y = y2) := fun z => f (hZ.fin.mp z)
      cases m with
      | zero => omega
      | succ m =>
        unfold brz
        rw [if_neg nxy]
        obtain ⟨μ1, q1, q2, q3⟩ := fn137_ok hW hH (x := b_x b e x) (y := b_y a dn e y) (v := 3) (by omega) hP
        obtain ⟨y1, y3, y4, y5, μ2, r1, r2, r3⟩ := L154_ok hW hH ha hb hl8 hx2 hy2 m N _ μ1 (b_z a b e) (b_x b e x) (b_y a dn e y) p' q' (i + 1) (by omega) (by omega) hZ' (by omega) (by omega) q2
        have eL : L154_57 234 x2 y2 3 a (-b) l8 (N + 1) e x y i μ = am_op (fn137 234 (b_x b e x) (b_y a dn e y) 3 μ) (fun z => L154_57 234 x2 y2 3 a (-b) l8 N (b_z a b e) (b_x b e x) (b_y a dn e y) (i + 1) z.2) := by
          rw [L154_57, w32_id (x := a - -b) (by omega) (by omega), if_pos (by omega), w32_id (x := 2 * e) (by omega) (by omega), w32_id (x := i + 1) (by omega) (by omega)]
          unfold b_x b_y b_z
          have body : (if 2 * e < -b then (if a < 2 * e then (am_op (fn137 234 x y 3 μ) (fun z4 => (L154_57 234 x2 y2 3 a (-b) l8 N e x y (i + 1) z4.2))) else (am_op (fn137 234 x (w32 (y + l8)) 3 μ) (fun z5 => (L154_57 234 x2 y2 3 a (-b) l8 N (w32 (e + a)) x (w32 (y + l8)) (i + 1) z5.2)))) else (if a < 2 * e then (am_op (fn137 234 (w32 (x + 1)) y 3 μ) (fun z6 => (L154_57 234 x2 y2 3 a (-b) l8 N (w32 (e + -b)) (w32 (x + 1)) y (i + 1) z6.2))) else (am_op (fn137 234 (w32 (x + 1)) (w32 (y + l8)) 3 μ) (fun z7 => (L154_57 234 x2 y2 3 a (-b) l8 N (w32 ((w32 (e + -b)) + a)) (w32 (x + 1)) (w32 (y + l8)) (i + 1) z7.2))))) = am_op (fn137 234 (if -b ≤ 2 * e then x + 1 else x) (if 2 * e ≤ a then y + dn else y) 3 μ) (fun z => L154_57 234 x2 y2 3 a (-b) l8 N ((if -b ≤ 2 * e then e - b else e) + (if 2 * e ≤ a then a else 0)) (if -b ≤ 2 * e then x + 1 else x) (if 2 * e ≤ a then y + dn else y) (i + 1) z.2) := by
            by_cases c1 : -b ≤ 2 * e
            · rw [if_neg (show ¬ (2 * e < -b) by omega), if_pos c1, if_pos c1, w32_id (x := x + 1) (by omega) (by omega), w32_id (x := e + -b) (by omega) (by omega), show e + -b = e - b by omega]
              by_cases c2 : 2 * e ≤ a
              · have hd : l8 = dn := by have := hby c2; omega
                rw [if_neg (show ¬ (a < 2 * e) by omega), if_pos c2, if_pos c2, w32_id (x := e - b + a) (by omega) (by omega), hd, w32_id (x := y + dn) (by omega) (by omega)]
              · rw [if_pos (show a < 2 * e by omega), if_neg c2, if_neg c2, Int.add_zero]
            · rw [if_pos (show 2 * e < -b by omega), if_neg c1, if_neg c1]
              by_cases c2 : 2 * e ≤ a
              · have hd : l8 = dn := by have := hby c2; omega
                rw [if_neg (show ¬ (a < 2 * e) by omega), if_pos c2, if_pos c2, w32_id (x := e + a) (by omega) (by omega), hd, w32_id (x := y + dn) (by omega) (by omega)]
              · omega
          by_cases cx : x = x2
          · rw [if_pos cx, if_neg (fun z => nxy ⟨cx, z⟩)]; exact body
          · rw [if_neg cx]; exact body
        rw [eL, q1, am_op_some]
        exact ⟨y1, y3, y4, y5, μ2, r1, r2, q3.trans r3⟩
theorem L223_ok (hW : W ≤ 96) (hH : H ≤ 64) {x2 y2 a b y1 : Int} (ha : a ≤ 100) (hb : b ≤ 100) (hx2 : 0 ≤ x2 ∧ x2 < W) (hy2 : 0 ≤ y2 ∧ y2 < H) (hy1 : 0 ≤ y1 ∧ y1 < H) {dn : Int} (hdn : dn = if y1 < y2 then 1 else -1) : ∀ (m N : Nat) (P : Cv) (μ : am_M) (e x y p q : Int), m < N → p + q ≤ m → BZ a b dn x2 y2 e x y p q → 0 ≤ x → (min y1 y2 ≤ y ∧ y ≤ max y1 y2) → PR W H P μ → ∃ z1 z2 z3 μ', L223_37 240 y1 x2 y2 a (-b) N e x y μ = some (.inr (z1, z2, z3, μ')) ∧ PR W H (dts P (brz a b dn x2 y2 m e x y)) μ' ∧ F9 μ μ'
  | m, 0, _, _, _, _, _, _, _, hN, _, _, _, _, _ => absurd hN (by omega)
  | m, N + 1, P, μ, e, x, y, p, q, hN, hm, hZ, hx0, hyr, hP => by
    have er := hZ.rng ha hb
    have hZ2 := hZ
    obtain ⟨⟨p0, p1⟩, ⟨q0, q1⟩, hx, hy, he⟩ := hZ2
    by_cases f : p = 0 ∧ q = 0
    · have xy := hZ.fin.mpr f
      have eL : L223_37 240 y1 x2 y2 a (-b) (N + 1) e x y μ = some (.inr (e, x, y, μ)) := by
        rw [L223_37, if_pos xy.1, if_pos xy.2]
      have eB : brz a b dn x2 y2 m e x y = [] := by
        cases m with
        | zero => rfl
        | succ m => unfold brz; rw [if_pos xy]
      rw [eL, eB]
      exact ⟨_, _, _, _, rfl, hP, F9.refl _⟩
    · obtain ⟨p', q', hZ', hlt, hp', hq', hby⟩ := hZ.step f
      have hZ3 := hZ'
      obtain ⟨⟨p0', p1'⟩, ⟨q0', q1'⟩, hx', hy', he'⟩ := hZ3
      have nxy : ¬ (x = x2 ∧ y = y2) := fun z => f (hZ.fin.mp z)
      cases m with
      | zero => omega
      | succ m =>
        unfold brz
        rw [if_neg nxy]
        have hyr' : min y1 y2 ≤ b_y a dn e y ∧ b_y a dn e y ≤ max y1 y2 := by
          by_cases w : y1 < y2
          · rw [if_pos w] at hdn; omega
          · rw [if_neg w] at hdn; omega
        have hx0' : 0 ≤ b_x b e x := by unfold b_x; split <;> omega
        obtain ⟨μ1, q1, q2, q3⟩ := fn217_ok hW hH (x := b_x b e x) (y := b_y a dn e y) ⟨by omega, by omega⟩ 3 hP
        obtain ⟨z1, z2, z3, μ2, r1, r2, r3⟩ := L223_ok hW hH ha hb hx2 hy2 hy1 hdn m N _ μ1 (b_z a b e) (b_x b e x) (b_y a dn e y) p' q' (by omega) (by omega) hZ' hx0' hyr' q2
        have eL : L223_37 240 y1 x2 y2 a (-b) (N + 1) e x y μ = am_op (fn217 240 (b_x b e x) (b_y a dn e y) 3 μ) (fun z => L223_37 240 y1 x2 y2 a (-b) N (b_z a b e) (b_x b e x) (b_y a dn e y) z.2) := by
          rw [L223_37, w32_id (x := 2 * e) (by omega) (by omega)]
          unfold b_x b_y b_z
          have body : (if 2 * e < -b then (if a < 2 * e then (am_op (fn217 240 x y 3 μ) (fun z1 => (L223_37 240 y1 x2 y2 a (-b) N e x y z1.2))) else (if y1 < y2 then (am_op (fn217 240 x (w32 (y + 1)) 3 μ) (fun z3 => (L223_37 240 y1 x2 y2 a (-b) N (w32 (e + a)) x (w32 (y + 1)) z3.2))) else (am_op (fn217 240 x (w32 (y - 1)) 3 μ) (fun z2 => (L223_37 240 y1 x2 y2 a (-b) N (w32 (e + a)) x (w32 (y - 1)) z2.2))))) else (if a < 2 * e then (am_op (fn217 240 (w32 (x + 1)) y 3 μ) (fun z4 => (L223_37 240 y1 x2 y2 a (-b) N (w32 (e + -b)) (w32 (x + 1)) y z4.2))) else (if y1 < y2 then (am_op (fn217 240 (w32 (x + 1)) (w32 (y + 1)) 3 μ) (fun z6 => (L223_37 240 y1 x2 y2 a (-b) N (w32 ((w32 (e + -b)) + a)) (w32 (x + 1)) (w32 (y + 1)) z6.2))) else (am_op (fn217 240 (w32 (x + 1)) (w32 (y - 1)) 3 μ) (fun z5 => (L223_37 240 y1 x2 y2 a (-b) N (w32 ((w32 (e + -b)) + a)) (w32 (x + 1)) (w32 (y - 1)) z5.2)))))) = am_op (fn217 240 (if -b ≤ 2 * e then x + 1 else x) (if 2 * e ≤ a then y + dn else y) 3 μ) (fun z => L223_37 240 y1 x2 y2 a (-b) N ((if -b ≤ 2 * e then e - b else e) + (if 2 * e ≤ a then a else 0)) (if -b ≤ 2 * e then x + 1 else x) (if 2 * e ≤ a then y + dn else y) z.2) := by
            have wy : ∀ F : Int → Option ((Int × am_M) ⊕ (Int × Int × Int × am_M)), (if y1 < y2 then F (w32 (y + 1)) else F (w32 (y - 1))) = F (y + dn) := fun F => by
              by_cases w : y1 < y2
              · rw [if_pos w] at hdn; rw [if_pos w, hdn, w32_id (by omega) (by omega)]
              · rw [if_neg w] at hdn; rw [if_neg w, hdn, w32_id (by omega) (by omega)]; rfl
            by_cases c1 : -b ≤ 2 * e
            · rw [if_neg (show ¬ (2 * e < -b) by omega), if_pos c1, if_pos c1, w32_id (x := x + 1) (by omega) (by omega), w32_id (x := e + -b) (by omega) (by omega), show e + -b = e - b by omega]
              by_cases c2 : 2 * e ≤ a
              · rw [if_neg (show ¬ (a < 2 * e) by omega), if_pos c2, if_pos c2, w32_id (x := e - b + a) (by omega) (by omega)]
                exact wy (fun v => am_op (fn217 240 (x + 1) v 3 μ) (fun z => L223_37 240 y1 x2 y2 a (-b) N (e - b + a) (x + 1) v z.2))
              · rw [if_pos (show a < 2 * e by omega), if_neg c2, if_neg c2, Int.add_zero]
            · rw [if_pos (show 2 * e < -b by omega), if_neg c1, if_neg c1]
              by_cases c2 : 2 * e ≤ a
              · rw [if_neg (show ¬ (a < 2 * e) by omega), if_pos c2, if_pos c2, w32_id (x := e + a) (by omega) (by omega)]
                exact wy (fun v => am_op (fn217 240 x v 3 μ) (fun z => L223_37 240 y1 x2 y2 a (-b) N (e + a) x v z.2))
              · omega
          by_cases cx : x = x2
          · rw [if_pos cx, if_neg (fun z => nxy ⟨cx, z⟩)]; exact body
          · rw [if_neg cx]; exact body
        rw [eL, q1, am_op_some]
        exact ⟨z1, z2, z3, μ2, r1, r2, q3.trans r3⟩
end LNc
