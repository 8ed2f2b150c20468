/-! Words and names compared. -/
theorem lst_eq {l m : List Int} : l = m ↔ (l.length = m.length ∧ ∀ i, i < l.length → l.getD i 0 = m.getD i 0) := by
  constructor
  · rintro rfl; exact ⟨rfl, fun _ _ => rfl⟩
  · rintro ⟨h1, h2⟩
    apply List.ext_getElem h1
    intro i a b
    have z := h2 i a
    rw [List.getD_eq_getElem?_getD, List.getD_eq_getElem?_getD, List.getElem?_eq_getElem a, List.getElem?_eq_getElem b] at z
    exact z
/-- equality by characters, from i on -/
def eqf (f g : Nat → Int) : Nat → Nat → Bool → Bool
  | 0, _, b => b
  | k + 1, i, b => if b = true then eqf f g k (i + 1) (decide (f i = g i)) else false
theorem eqf_t {f g : Nat → Int} : ∀ (k i : Nat) (b : Bool), eqf f g k i b = true ↔ (b = true ∧ ∀ j, j < k → f (i + j) = g (i + j))
  | 0, i, b => ⟨fun h => ⟨h, fun j hj => by omega⟩, fun h => h.1⟩
  | k + 1, i, b => by
    unfold eqf
    cases b with
    | false => exact ⟨(fun h => by rw [if_neg (by decide)] at h; cases h), (fun h => by cases h.1)⟩
    | true =>
      rw [if_pos rfl, eqf_t k (i + 1), decide_eq_true_eq]
      constructor
      · rintro ⟨h1, h2⟩
        refine ⟨rfl, fun j hj => ?_⟩
        cases j with
        | zero => exact h1
        | succ j => rw [show i + (j + 1) = i + 1 + j by omega]; exact h2 j (by omega)
      · rintro ⟨-, h⟩
        exact ⟨h 0 (by omega), fun j hj => by rw [show i + 1 + j = i + (j + 1) by omega]; exact h (j + 1) (by omega)⟩
theorem eqf_l {l m : List Int} : (decide (l.length = m.length) && eqf (fun i => l.getD i 0) (fun i => m.getD i 0) l.length 0 true) = decide (l = m) := by
  by_cases h : l = m
  · subst h
    rw [decide_eq_true (rfl : l = l), decide_eq_true (rfl : l.length = l.length), Bool.true_and]
    exact (eqf_t _ _ _).mpr ⟨rfl, fun _ _ => rfl⟩
  · rw [decide_eq_false h]
    by_cases hl : l.length = m.length
    · rw [decide_eq_true hl, Bool.true_and]
      cases hz : eqf (fun i => l.getD i 0) (fun i => m.getD i 0) l.length 0 true with
      | false => rfl
      | true =>
        have z := (eqf_t _ _ _).mp hz
        exact absurd (lst_eq.mpr ⟨hl, fun i hi => by have := z.2 i hi; rw [Nat.zero_add] at this; exact this⟩) h
    · rw [decide_eq_false hl]; rfl
def lit (a : Nat) : List Int := am_sby.getD a []
theorem lit_ck : ∀ a, a < 24 → am_slen a ≤ 100 ∧ ∀ i, i < am_slen a → o_i2c (o_and (am_schr a i) 255) = am_schr a i ∧ 0 ≤ am_schr a i ∧ am_schr a i ≤ 65535 := by decide +kernel
theorem lit_len (a : Nat) : (lit a).length = am_slen a := rfl
theorem lit_at (a i : Nat) : (lit a).getD i 0 = am_schr a i := rfl
theorem fn55_ok {a : Nat} (ha : a < 24) (μ : am_M) : fn55 a μ = some (((am_slen a : Nat) : Int), μ) := by
  have z := (lit_ck a ha).1
  unfold fn55 fn54
  rw [if_pos (by decide), am_op_some]
  dsimp only
  have e := o_shr_nn (a := ((am_slen a : Nat) : Int)) (k := 0) (by omega) (by omega) (by omega)
  rw [show ((0 : Nat) : Int) = 0 from rfl] at e
  rw [e]
  simp
theorem fn59_ok {a : Nat} (ha : a < 24) (μ : am_M) {i : Nat} (hi : i < am_slen a) {x : Int} (hx : x = i) : fn59 a x μ = some (am_schr a i, μ) := by
  subst hx
  obtain ⟨z1, z2, z3⟩ := (lit_ck a ha).2 i hi
  unfold fn59 fn56
  rw [am_op_some]
  dsimp only
  rw [if_neg (by decide)]
  unfold fn58 fn57
  rw [if_pos (by omega), am_op_some]
  dsimp only
  rw [if_pos (by omega), Int.toNat_natCast, z1, if_pos ⟨z2, z3⟩, am_op_some]
  dsimp only
  rw [if_pos ⟨z2, z3⟩]
section EQ
variable {o a cap : Nat} {μ : am_M} {l : List Int}
theorem L60_ok (hr : am_ref o 0 = a) (hc : am_len a = cap) (h : Lt μ o a cap l) (hR : Cr l) {s : Nat} (hs : s < 24) : ∀ (k N i : Nat) (b : Bool) (x : Int), k < N → x = i → i + k = am_slen s → ∃ x', L60_31 o s N (bI b) x μ = some (.inr (bI (eqf (gc l cap) (am_schr s) k i b), x', μ))
  | k, 0, _, _, _, hN, _, _ => absurd hN (by omega)
  | 0, N + 1, i, b, x, hN, hx, hk => by
    rw [L60_31]
    unfold eqf
    cases b with
    | false => exact ⟨x, if_pos rfl⟩
    | true =>
      rw [if_neg (by decide), fn55_ok hs, am_op_some]
      dsimp only
      rw [if_neg (by omega)]
      exact ⟨x, rfl⟩
  | k + 1, N + 1, i, b, x, hN, hx, hk => by
    have z := (lit_ck s hs).1
    subst hx
    rw [L60_31]
    unfold eqf
    cases b with
    | false =>
      rw [if_pos (show bI false = 0 from rfl), if_neg (by decide)]
      exact ⟨_, rfl⟩
    | true =>
      rw [if_neg (by decide), if_pos rfl, fn55_ok hs, am_op_some]
      dsimp only
      rw [if_pos (by omega), fn30_at hr hc h hR i rfl, am_op_some]
      dsimp only
      rw [fn59_ok hs μ (by omega) rfl, am_op_some]
      dsimp only
      rw [w32_id (by omega) (by omega)]
      by_cases he : gc l cap i = am_schr s i
      · rw [if_pos he, decide_eq_true he]
        exact L60_ok hr hc h hR hs k N (i + 1) true ((i : Int) + 1) (by omega) (by omega) (by omega)
      · rw [if_neg he, decide_eq_false he]
        exact L60_ok hr hc h hR hs k N (i + 1) false ((i : Int) + 1) (by omega) (by omega) (by omega)
theorem bI_z (b : Bool) : bI b = 0 ∨ bI b = 1 := by cases b <;> simp [bI]
/-- is (a literal) -/
theorem fn60_ok (hr : am_ref o 0 = a) (hc : am_len a = cap) (h : Lt μ o a cap l) (hR : Cr l) {s : Nat} (hs : s < 24) (hcap : am_slen s ≤ cap ∨ l.length ≠ am_slen s) (hl : l.length ≤ 1000) : fn60 o s μ = some (bI (decide (l = lit s)), μ) := by
  have z := (lit_ck s hs).1
  have go : ∀ b : Bool, ∃ x', L60_31 o s am_fuel (bI b) 0 μ = some (.inr (bI (eqf (gc l cap) (am_schr s) (am_slen s) 0 b), x', μ)) := fun b => L60_ok hr hc h hR hs (am_slen s) am_fuel 0 b 0 (by unfold am_fuel; omega) rfl (by omega)
  have ff : ∀ k, eqf (gc l cap) (am_schr s) k 0 false = false := fun k => by
    cases k with
    | zero => rfl
    | succ k => rfl
  unfold fn60
  rw [fn55_ok hs, am_op_some, hr, hc]
  dsimp only
  by_cases h1 : l.length = am_slen s
  · have hcl : l.length ≤ cap := by
      rcases hcap with hcap | hcap
      · omega
      · exact absurd h1 hcap
    rw [if_pos (by rw [h.1]; omega), if_neg (by rw [h.1]; omega)]
    obtain ⟨x', q⟩ := go true
    rw [show L60_31 o s am_fuel 1 0 μ = _ from q, am_op_some, am_lp_r]
    dsimp only
    rw [if_pos (bI_z _)]
    congr 3
    rw [← eqf_l, lit_len, decide_eq_true h1, Bool.true_and, h1]
    cases hz : eqf (gc l cap) (am_schr s) (am_slen s) 0 true with
    | true =>
      have y := (eqf_t _ _ _).mp hz
      exact ((eqf_t _ _ _).mpr ⟨rfl, fun j hj => by
        have := y.2 j hj
        unfold gc at this
        rw [Nat.zero_add] at this ⊢
        rw [if_pos (by omega)] at this
        exact this⟩).symm
    | false =>
      cases hz2 : eqf (fun i => l.getD i 0) (fun i => (lit s).getD i 0) (am_slen s) 0 true with
      | false => rfl
      | true =>
        have y := (eqf_t _ _ _).mp hz2
        have : eqf (gc l cap) (am_schr s) (am_slen s) 0 true = true := (eqf_t _ _ _).mpr ⟨rfl, fun j hj => by
          have := y.2 j hj
          rw [Nat.zero_add] at this ⊢
          unfold gc
          rw [if_pos (by omega)]
          exact this⟩
        rw [this] at hz; cases hz
  · rw [if_neg (by rw [h.1]; omega)]
    obtain ⟨x', q⟩ := go false
    rw [show L60_31 o s am_fuel 0 0 μ = _ from q, am_op_some, am_lp_r, ff]
    dsimp only
    rw [if_pos (bI_z _), decide_eq_false (fun e => h1 (by rw [e, lit_len]))]
variable {o2 a2 cap2 : Nat} {l2 : List Int}
theorem L62_ok (hr : am_ref o 0 = a) (hc : am_len a = cap) (h : Lt μ o a cap l) (hR : Cr l) (hr2 : am_ref o2 0 = a2) (hc2 : am_len a2 = cap2) (h2 : Lt μ o2 a2 cap2 l2) (hR2 : Cr l2) (hl : l.length ≤ 1000) : ∀ (k N i : Nat) (b : Bool) (x : Int), k < N → x = i → i + k = l.length → ∃ x', L62_43 o o2 N (bI b) x μ = some (.inr (bI (eqf (gc l cap) (gc l2 cap2) k i b), x', μ))
  | k, 0, _, _, _, hN, _, _ => absurd hN (by omega)
  | 0, N + 1, i, b, x, hN, hx, hk => by
    rw [L62_43]
    unfold eqf
    cases b with
    | false => exact ⟨x, if_pos rfl⟩
    | true =>
      rw [if_neg (by decide), if_neg (by rw [h.1]; omega)]
      exact ⟨x, rfl⟩
  | k + 1, N + 1, i, b, x, hN, hx, hk => by
    subst hx
    rw [L62_43]
    unfold eqf
    cases b with
    | false =>
      rw [if_pos (show bI false = 0 from rfl), if_neg (by decide)]
      exact ⟨_, rfl⟩
    | true =>
      rw [if_neg (by decide), if_pos rfl, if_pos (by rw [h.1]; omega), fn30_at hr hc h hR i rfl, am_op_some]
      dsimp only
      rw [fn30_at hr2 hc2 h2 hR2 i rfl, am_op_some]
      dsimp only
      rw [w32_id (by omega) (by omega)]
      by_cases he : gc l cap i = gc l2 cap2 i
      · rw [if_pos he, decide_eq_true he]
        exact L62_ok hr hc h hR hr2 hc2 h2 hR2 hl k N (i + 1) true ((i : Int) + 1) (by omega) (by omega) (by omega)
      · rw [if_neg he, decide_eq_false he]
        exact L62_ok hr hc h hR hr2 hc2 h2 hR2 hl k N (i + 1) false ((i : Int) + 1) (by omega) (by omega) (by omega)
/-- same, where the first has room for what it holds -/
theorem fn62_ok (hr : am_ref o 0 = a) (hc : am_len a = cap) (h : Lt μ o a cap l) (hR : Cr l) (hr2 : am_ref o2 0 = a2) (hc2 : am_len a2 = cap2) (h2 : Lt μ o2 a2 cap2 l2) (hR2 : Cr l2) (hl : l.length ≤ cap) (hcc : l.length ≤ cap2 ∨ l2.length ≠ l.length) (hl2 : l.length ≤ 1000) : fn62 o o2 μ = some (bI (decide (l = l2)), μ) := by
  have go : ∀ b : Bool, ∃ x', L62_43 o o2 am_fuel (bI b) 0 μ = some (.inr (bI (eqf (gc l cap) (gc l2 cap2) l.length 0 b), x', μ)) := fun b => L62_ok hr hc h hR hr2 hc2 h2 hR2 hl2 l.length am_fuel 0 b 0 (by unfold am_fuel; omega) rfl (by omega)
  have ff : ∀ k, eqf (gc l cap) (gc l2 cap2) k 0 false = false := fun k => by
    cases k with
    | zero => rfl
    | succ k => rfl
  unfold fn62
  rw [hr, hc, hr2, hc2]
  by_cases h1 : l.length = l2.length
  · have hcl : l.length ≤ cap2 := by
      rcases hcc with hcc | hcc
      · exact hcc
      · exact absurd h1.symm hcc
    rw [if_pos (by rw [h.1, h2.1]; omega), if_neg (by rw [h.1]; omega), if_neg (by rw [h.1]; omega)]
    obtain ⟨x', q⟩ := go true
    rw [show L62_43 o o2 am_fuel 1 0 μ = _ from q, am_op_some, am_lp_r]
    dsimp only
    rw [if_pos (bI_z _)]
    congr 3
    rw [← eqf_l, decide_eq_true h1, Bool.true_and]
    cases hz : eqf (gc l cap) (gc l2 cap2) l.length 0 true with
    | true =>
      have y := (eqf_t _ _ _).mp hz
      exact ((eqf_t _ _ _).mpr ⟨rfl, fun j hj => by
        have := y.2 j hj
        unfold gc at this
        rw [Nat.zero_add] at this ⊢
        rw [if_pos (by omega), if_pos (by omega)] at this
        exact this⟩).symm
    | false =>
      cases hz2 : eqf (fun i => l.getD i 0) (fun i => l2.getD i 0) l.length 0 true with
      | false => rfl
      | true =>
        have y := (eqf_t _ _ _).mp hz2
        have : eqf (gc l cap) (gc l2 cap2) l.length 0 true = true := (eqf_t _ _ _).mpr ⟨rfl, fun j hj => by
          have := y.2 j hj
          rw [Nat.zero_add] at this ⊢
          unfold gc
          rw [if_pos (by omega), if_pos (by omega)]
          exact this⟩
        rw [this] at hz; cases hz
  · rw [if_neg (by rw [h.1, h2.1]; omega)]
    obtain ⟨x', q⟩ := go false
    rw [show L62_43 o o2 am_fuel 0 0 μ = _ from q, am_op_some, am_lp_r, ff]
    dsimp only
    rw [if_pos (bI_z _), decide_eq_false (fun e => h1 (by rw [e]))]
end EQ
/-- sameSpan -/
theorem L185_ok {μ : am_M} {i1 i2 : Int} {p1 p2 n : Nat} {g1 g2 : Nat → Int} (h1 : Sp μ i1 p1 n g1) (h2 : Sp μ i2 p2 n g2) : ∀ (k N i : Nat) (b : Bool) (x : Int), k < N → x = i → i + k = n → ∃ x', L185_16 240 (p1 : Int) (n : Int) i1 (p2 : Int) i2 N (bI b) x μ = some (.inr (bI (eqf g1 g2 k i b), x', μ))
  | k, 0, _, _, _, hN, _, _ => absurd hN (by omega)
  | 0, N + 1, i, b, x, hN, hx, hk => by
    rw [L185_16, if_neg (by omega)]
    unfold eqf
    exact ⟨x, rfl⟩
  | k + 1, N + 1, i, b, x, hN, hx, hk => by
    have hle := h1.le
    have hle2 := h2.le
    subst hx
    rw [L185_16, if_pos (by omega)]
    unfold eqf
    cases b with
    | false =>
      rw [if_pos (show bI false = 0 from rfl), if_neg (by decide)]
      exact ⟨_, rfl⟩
    | true =>
      rw [if_neg (by decide), if_pos rfl, w32_id (x := (p1 : Int) + (i : Int)) (by omega) (by omega), w32_id (x := (p2 : Int) + (i : Int)) (by omega) (by omega), fn174_at h1 (i := i) (by omega) (by omega), am_op_some]
      dsimp only
      rw [fn174_at h2 (i := i) (by omega) (by omega), am_op_some]
      dsimp only
      rw [w32_id (by omega) (by omega)]
      by_cases he : g1 i = g2 i
      · rw [if_pos he, decide_eq_true he]
        exact L185_ok h1 h2 k N (i + 1) true ((i : Int) + 1) (by omega) (by omega) (by omega)
      · rw [if_neg he, decide_eq_false he]
        exact L185_ok h1 h2 k N (i + 1) false ((i : Int) + 1) (by omega) (by omega) (by omega)
theorem L185_f {l1 l2 i1 l4 i2 x : Int} {μ : am_M} {N : Nat} : ∃ x', L185_16 240 l1 l2 i1 l4 i2 (N + 1) 0 x μ = some (.inr (0, x', μ)) := by
  rw [L185_16]
  by_cases h : x < l2
  · rw [if_pos h, if_pos rfl]; exact ⟨_, rfl⟩
  · rw [if_neg h]; exact ⟨_, rfl⟩
theorem fn185_ok {μ : am_M} {i1 i2 : Int} {p1 p2 : Nat} {l m : List Int} (h1 : Sp μ i1 p1 l.length (sp_g l)) (h2 : Sp μ i2 p2 m.length (sp_g m)) {a b d e : Int} (ha : a = p1) (hb : b = l.length) (hd : d = p2) (he : e = m.length) : fn185 240 a b i1 d e i2 μ = some (bI (decide (l = m)), μ) := by
  subst ha hb hd he
  have hle := h1.le
  unfold fn185
  by_cases hl : l.length = m.length
  · rw [if_pos (by omega)]
    rw [← hl] at h2
    obtain ⟨x', q⟩ := L185_ok h1 h2 l.length am_fuel 0 true 0 (by unfold am_fuel; omega) rfl (by omega)
    rw [show L185_16 240 (p1 : Int) (l.length : Int) i1 (p2 : Int) i2 am_fuel 1 0 μ = _ from q, am_op_some, am_lp_r]
    dsimp only
    rw [if_pos (bI_z _), ← eqf_l, decide_eq_true hl, Bool.true_and]
    rfl
  · rw [if_neg (by omega)]
    obtain ⟨x', q⟩ := L185_f (l1 := (p1 : Int)) (l2 := (l.length : Int)) (i1 := i1) (l4 := (p2 : Int)) (i2 := i2) (x := 0) (μ := μ) (N := 9999)
    rw [show am_fuel = 9999 + 1 from rfl, q, am_op_some, am_lp_r]
    dsimp only
    rw [if_pos (Or.inl rfl), decide_eq_false (fun e => hl (by rw [e]))]
    rfl
