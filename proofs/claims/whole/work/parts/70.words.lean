/-! The chart's text: its words. -/
def tw_w (T : Nat → Int) (n : Nat) : Nat → Nat → List Int × Nat
  | 0, q => ([], q)
  | k + 1, q => if q < n then (if T q = 32 then ([], q) else (T q :: (tw_w T n k (q + 1)).1, (tw_w T n k (q + 1)).2)) else ([], q)
def tw (T : Nat → Int) (n : Nat) : Nat → Nat → List (List Int)
  | 0, _ => []
  | k + 1, p => if p < n then (if T p = 32 then tw T n k (p + 1) else (tw_w T n n p).1 :: tw T n k (tw_w T n n p).2) else []
theorem tw_w_le (T : Nat → Int) (n : Nat) : ∀ k q, q ≤ n → q + (tw_w T n k q).1.length = (tw_w T n k q).2 ∧ (tw_w T n k q).2 ≤ n
  | 0, q, h => ⟨by unfold tw_w; simp, by unfold tw_w; exact h⟩
  | k + 1, q, h => by
    unfold tw_w
    split
    · split
      · exact ⟨by simp, h⟩
      · have z := tw_w_le T n k (q + 1) (by omega)
        simp only [List.length_cons]
        omega
    · exact ⟨by simp, h⟩
theorem tw_w_end (T : Nat → Int) (n : Nat) : ∀ k q, n - q ≤ k → q ≤ n → (tw_w T n k q).2 = n ∨ T (tw_w T n k q).2 = 32
  | 0, q, h, h2 => Or.inl (by unfold tw_w; dsimp only; omega)
  | k + 1, q, h, h2 => by
    unfold tw_w
    split
    · split
      · exact Or.inr (by assumption)
      · exact tw_w_end T n k (q + 1) (by omega) (by omega)
    · exact Or.inl (by dsimp only; omega)
theorem tw_w_st (T : Nat → Int) (n : Nat) : ∀ k k' q, n - q ≤ k → n - q ≤ k' → tw_w T n k q = tw_w T n k' q
  | 0, 0, _, _, _ => rfl
  | 0, k' + 1, q, h, _ => by
    unfold tw_w
    rw [if_neg (by omega)]
  | k + 1, 0, q, _, h => by
    unfold tw_w
    rw [if_neg (by omega)]
  | k + 1, k' + 1, q, h, h' => by
    unfold tw_w
    rw [tw_w_st T n k k' (q + 1) (by omega) (by omega)]
theorem tw_w_pos (T : Nat → Int) {n q : Nat} (h : q < n) (h1 : T q ≠ 32) : (tw_w T n n q).1 = T q :: (tw_w T n n (q + 1)).1 ∧ (tw_w T n n q).2 = (tw_w T n n (q + 1)).2 := by
  obtain ⟨k, rfl⟩ : ∃ k, n = k + 1 := ⟨n - 1, by omega⟩
  have e := tw_w_st T (k + 1) k (k + 1) (q + 1) (by omega) (by omega)
  constructor
  · conv => lhs; unfold tw_w
    rw [if_pos h, if_neg h1, e]
  · conv => lhs; unfold tw_w
    rw [if_pos h, if_neg h1, e]
theorem tw_st (T : Nat → Int) (n : Nat) : ∀ k k' p, n - p ≤ k → n - p ≤ k' → p ≤ n → tw T n k p = tw T n k' p
  | 0, 0, _, _, _, _ => rfl
  | 0, k' + 1, q, h, _, _ => by
    unfold tw
    rw [if_neg (by omega)]
  | k + 1, 0, q, _, h, _ => by
    unfold tw
    rw [if_neg (by omega)]
  | k + 1, k' + 1, q, h, h', hq => by
    unfold tw
    by_cases h1 : q < n
    · rw [if_pos h1, if_pos h1]
      by_cases h2 : T q = 32
      · rw [if_pos h2, if_pos h2, tw_st T n k k' (q + 1) (by omega) (by omega) (by omega)]
      · rw [if_neg h2, if_neg h2]
        have z := tw_w_le T n n q hq
        have z2 := (tw_w_pos T h1 h2).1
        have z3 : 1 ≤ (tw_w T n n q).1.length := by rw [z2]; simp
        rw [tw_st T n k k' (tw_w T n n q).2 (by omega) (by omega) (by omega)]
    · rw [if_neg h1, if_neg h1]
/-- the words -/
def tx_ws (T : Nat → Int) (n : Nat) : List (List Int) := tw T n n 0
theorem rf_6 : am_ref 3 0 = 4 ∧ am_len 4 = 160 ∧ am_ref 141 0 = 142 ∧ am_ref 141 1 = 183 ∧ am_ref 141 2 = 185 ∧ am_len 142 = 20 ∧ am_len 185 = 2 ∧ am_ref 183 0 = 184 ∧ am_len 184 = 0 ∧ am_ref 185 0 = 186 ∧ am_ref 185 1 = 191 := by decide +kernel
theorem rf_7 : ∀ k, k < 20 → am_ref 142 k = 143 + 2 * k ∧ am_ref (143 + 2 * k) 0 = 144 + 2 * k ∧ am_len (144 + 2 * k) = 12 := by decide +kernel
def TSrc (μ : am_M) (T : Nat → Int) (n : Nat) : Prop := μ 3 2 = n ∧ n ≤ 160 ∧ ∀ i : Nat, i < n → μ 4 i = T i ∧ 0 ≤ T i ∧ T i ≤ 65535
theorem TSrc.fr {μ μ' : am_M} {D : Nat → Int} {n : Nat} (h : TSrc μ D n) (h1 : μ' 3 2 = μ 3 2) (h2 : ∀ i, μ' 4 i = μ 4 i) : TSrc μ' D n := ⟨by rw [h1]; exact h.1, h.2.1, fun i hi => by rw [h2]; exact h.2.2 i hi⟩
theorem fn15_t {T : Nat → Int} {μ : am_M} {n : Nat} (h : TSrc μ T n) {a : Int} (p : Nat) (hp : p < n) (ha : a = p) : fn15 3 a μ = some (T p, μ) := by
  subst ha
  have hn := h.2.1
  obtain ⟨e1, e2, e3⟩ := h.2.2 p hp
  unfold fn15
  rw [rf_6.1, rf_6.2.1, if_neg (by omega), if_pos (by rw [h.1]; omega), if_pos (by omega), Int.toNat_natCast, e1, if_pos ⟨e2, e3⟩]
/-- the Request's memory holds the words ws (the first twenty) -/
def Wd (μ : am_M) (ws : List (List Int)) : Prop := μ 141 3 = (ws.length : Nat) ∧ ∀ k, k < ws.length → k < 20 → Lt μ (143 + 2 * k) (144 + 2 * k) 12 (ws.getD k [])
def Fw (μ μ' : am_M) : Prop := ∀ c t, ¬ (c = 141 ∧ t = 3) → ¬ (143 ≤ c ∧ c ≤ 182) → μ' c t = μ c t
theorem getD_app {α : Type} {l : List α} {a d : α} {k : Nat} : (l ++ [a]).getD k d = if k < l.length then l.getD k d else if k = l.length then a else d := by
  simp only [List.getD_eq_getElem?_getD]
  by_cases h : k < l.length
  · rw [if_pos h, List.getElem?_append_left h]
  · rw [if_neg h, List.getElem?_append_right (by omega)]
    by_cases h2 : k = l.length
    · rw [if_pos h2, h2, Nat.sub_self]; rfl
    · rw [if_neg h2, List.getElem?_eq_none (by simp; omega)]; rfl
theorem fn50_ok {μ : am_M} {ws : List (List Int)} (h : Wd μ ws) (hl : ws.length ≤ 1000) : ∃ μ', fn50 141 μ = some (0, μ') ∧ Wd μ' (ws ++ [[]]) ∧ Fw μ μ' := by
  unfold fn50
  rw [rf_6.2.2.1, rf_6.2.2.2.2.2.1, h.1, Int.toNat_natCast]
  by_cases h20 : ws.length < 20
  · obtain ⟨r1, r2, r3⟩ := rf_7 _ h20
    rw [if_pos (by omega), if_pos (by omega), r1]
    unfold fn14
    rw [am_op_some]
    dsimp only
    rw [am_up_c _ _ (by omega), h.1, w32_id (by omega) (by omega)]
    refine ⟨_, rfl, ⟨?_, fun k h1 h2 => ?_⟩, fun c t e1 e2 => ?_⟩
    · rw [am_up_at, List.length_append, List.length_singleton]; omega
    · rw [getD_app]
      rw [List.length_append, List.length_singleton] at h1
      by_cases hk : k < ws.length
      · rw [if_pos hk]
        exact ((h.2 k hk h2).fr (am_up_c _ _ (by omega)) (fun i => am_up_c _ _ (by omega))).fr (am_up_c _ _ (by omega)) (fun i => am_up_c _ _ (by omega))
      · have hk2 : k = ws.length := by omega
        subst hk2
        rw [if_neg (by omega), if_pos rfl]
        exact ⟨by rw [am_up_c _ _ (by omega), am_up_at]; rfl, fun i hi => by simp at hi⟩
    · by_cases hc : c = 141
      · rw [am_up_s _ _ (by omega), am_up_c _ _ (by omega)]
      · rw [am_up_c _ _ hc, am_up_c _ _ (by omega)]
  · rw [if_neg (by omega), w32_id (by omega) (by omega)]
    refine ⟨_, rfl, ⟨?_, fun k h1 h2 => ?_⟩, fun c t e1 e2 => ?_⟩
    · rw [am_up_at, List.length_append, List.length_singleton]; omega
    · rw [getD_app, if_pos (by omega)]
      exact (h.2 k (by omega) h2).fr (am_up_c _ _ (by omega)) (fun i => am_up_c _ _ (by omega))
    · by_cases hc : c = 141
      · rw [am_up_s _ _ (by omega)]
      · rw [am_up_c _ _ hc]
theorem fn51_ok {μ : am_M} {ws : List (List Int)} {l : List Int} (h : Wd μ (ws ++ [l])) (hl : ws.length ≤ 1000) (hl2 : l.length ≤ 1000) {c : Int} (h0 : 0 ≤ c) (h1 : c ≤ 65535) : ∃ μ', fn51 141 c μ = some (0, μ') ∧ Wd μ' (ws ++ [l ++ [c]]) ∧ Fw μ μ' := by
  have hw : μ 141 3 = ((ws.length + 1 : Nat) : Int) := by rw [h.1, List.length_append, List.length_singleton]
  unfold fn51
  rw [rf_6.2.2.1, rf_6.2.2.2.2.2.1, hw, if_neg (by omega)]
  by_cases h20 : ws.length < 20
  · obtain ⟨r1, r2, r3⟩ := rf_7 _ h20
    have e : w32 (((ws.length + 1 : Nat) : Int) - 1) = (ws.length : Nat) := by rw [w32_id (by omega) (by omega)]; omega
    rw [if_neg (by omega), e, if_pos (by omega), Int.toNat_natCast, r1]
    have hL := h.2 ws.length (by simp) h20
    rw [getD_app, if_neg (by omega), if_pos rfl] at hL
    obtain ⟨μ1, m1, m2, m3⟩ := fn17_ok r2 r3 (by omega) hL (by omega) h0 h1
    rw [m1, am_op_some]
    refine ⟨μ1, rfl, ⟨?_, fun k e1 e2 => ?_⟩, fun c t e1 e2 => ?_⟩
    · rw [m3 141 3 (by omega) (by omega), hw, List.length_append, List.length_singleton]
    · rw [getD_app]
      rw [List.length_append, List.length_singleton] at e1
      by_cases hk : k < ws.length
      · rw [if_pos hk]
        have z := h.2 k (by simp; omega) e2
        rw [getD_app, if_pos hk] at z
        exact z.fr (m3 _ _ (by omega) (by omega)) (fun i => m3 _ _ (by omega) (by omega))
      · have hk2 : k = ws.length := by omega
        subst hk2
        rw [if_neg (by omega), if_pos rfl]
        exact m2
    · exact m3 c t (by omega) (by omega)
  · rw [if_pos (by omega)]
    refine ⟨μ, rfl, ⟨?_, fun k e1 e2 => ?_⟩, fun _ _ _ _ => rfl⟩
    · rw [hw, List.length_append, List.length_singleton]
    · rw [getD_app, if_pos (by omega)]
      have z := h.2 k (by simp; omega) e2
      rw [getD_app, if_pos (by omega)] at z
      exact z
/-- within a word -/
theorem L52_w {T : Nat → Int} {n : Nat} : ∀ (k N : Nat) (μ : am_M) (p : Nat) (x : Int) (ws : List (List Int)) (l : List Int), x = p → p ≤ n → n - p ≤ k → TSrc μ T n → Wd μ (ws ++ [l]) → ws.length ≤ 200 → l.length ≤ p →
    ∃ μ', L52_4 141 3 (N + (tw_w T n k p).1.length) 1 x μ = L52_4 141 3 N 1 (((tw_w T n k p).2 : Nat) : Int) μ' ∧ Wd μ' (ws ++ [l ++ (tw_w T n k p).1]) ∧ Fw μ μ'
  | 0, N, μ, p, x, ws, l, hx, _, _, _, hW, _, _ => by
    subst hx
    unfold tw_w
    exact ⟨μ, by rw [List.length_nil, Nat.add_zero], by rw [List.append_nil]; exact hW, fun _ _ _ _ => rfl⟩
  | k + 1, N, μ, p, x, ws, l, hx, hp, hk, hS, hW, hw, hl => by
    have hn := hS.2.1
    subst hx
    unfold tw_w
    by_cases h1 : p < n
    · rw [if_pos h1]
      by_cases h2 : T p = 32
      · rw [if_pos h2]
        exact ⟨μ, by rw [List.length_nil, Nat.add_zero], by rw [List.append_nil]; exact hW, fun _ _ _ _ => rfl⟩
      · rw [if_neg h2]
        dsimp only
        rw [List.length_cons, show N + ((tw_w T n k (p + 1)).1.length + 1) = (N + (tw_w T n k (p + 1)).1.length) + 1 by omega, L52_4]
        unfold fn16
        rw [am_op_some]
        dsimp only
        rw [if_pos (by rw [hS.1]; omega), fn15_t hS p h1 rfl, am_op_some]
        dsimp only
        obtain ⟨d1, d2, d3⟩ := hS.2.2 p h1
        obtain ⟨μ1, m1, m2, m3⟩ := fn51_ok hW (by omega) (by omega) d2 d3
        rw [if_neg h2, if_neg (by decide), m1, am_op_some]
        dsimp only
        rw [w32_id (by omega) (by omega)]
        obtain ⟨μ2, q1, q2, q3⟩ := L52_w k N μ1 (p + 1) ((p : Int) + 1) ws (l ++ [T p]) (by omega) (by omega) (by omega) (hS.fr (m3 3 2 (by omega) (by omega)) (fun i => m3 4 i (by omega) (by omega))) m2 hw (by rw [List.length_append]; simp; omega)
        refine ⟨μ2, q1, ?_, fun c t e1 e2 => by rw [q3 c t e1 e2, m3 c t e1 e2]⟩
        rw [List.append_assoc] at q2
        exact q2
    · rw [if_neg h1]
      exact ⟨μ, by rw [List.length_nil, Nat.add_zero], by rw [List.append_nil]; exact hW, fun _ _ _ _ => rfl⟩
/-- splitWords, from a place where no word is open or the open one ends -/
theorem L52_ok {T : Nat → Int} {n : Nat} : ∀ (k N : Nat) (μ : am_M) (p : Nat) (x b : Int) (ws : List (List Int)), 2 * k + 2 ≤ N → x = p → p ≤ n → n - p ≤ k → (b = 0 ∨ (b = 1 ∧ (p = n ∨ T p = 32))) → TSrc μ T n → Wd μ ws → ws.length ≤ p →
    ∃ b' x' μ', L52_4 141 3 N b x μ = some (.inr (b', x', μ')) ∧ Wd μ' (ws ++ tw T n k p) ∧ Fw μ μ'
  | k, N, μ, p, x, b, ws, hN, hx, hp, hk, hb, hS, hW, hl => by
    have hn := hS.2.1
    subst hx
    obtain ⟨N, rfl⟩ : ∃ N', N = N' + 1 := ⟨N - 1, by omega⟩
    rw [L52_4]
    unfold fn16
    rw [am_op_some]
    dsimp only
    by_cases h1 : p < n
    · obtain ⟨k, rfl⟩ : ∃ k', k = k' + 1 := ⟨k - 1, by omega⟩
      rw [if_pos (by rw [hS.1]; omega), fn15_t hS p h1 rfl, am_op_some]
      dsimp only
      rw [w32_id (by omega) (by omega)]
      unfold tw
      rw [if_pos h1]
      by_cases h2 : T p = 32
      · rw [if_pos h2, if_pos h2]
        exact L52_ok k N μ (p + 1) ((p : Int) + 1) 0 ws (by omega) (by omega) (by omega) (by omega) (Or.inl rfl) hS hW (by omega)
      · have hb0 : b = 0 := by
          rcases hb with hb | ⟨-, hb⟩
          · exact hb
          · rcases hb with hb | hb
            · omega
            · exact absurd hb h2
        rw [if_neg h2, if_neg h2, if_pos hb0]
        obtain ⟨μ1, m1, m2, m3⟩ := fn50_ok hW (by omega)
        rw [m1, am_op_some]
        dsimp only
        obtain ⟨d1, d2, d3⟩ := hS.2.2 p h1
        obtain ⟨μ2, r1, r2, r3⟩ := fn51_ok m2 (by omega) (by simp) d2 d3
        rw [r1, am_op_some]
        dsimp only
        have hfr : Fw μ μ2 := fun c t e1 e2 => by rw [r3 c t e1 e2, m3 c t e1 e2]
        obtain ⟨w1, w2⟩ := tw_w_pos T h1 h2
        have z := tw_w_le T n n (p + 1) (by omega)
        have hS2 : TSrc μ2 T n := hS.fr (hfr 3 2 (by omega) (by omega)) (fun i => hfr 4 i (by omega) (by omega))
        obtain ⟨μ3, q1, q2, q3⟩ := L52_w n (N - (tw_w T n n (p + 1)).1.length) μ2 (p + 1) ((p : Int) + 1) ws ([] ++ [T p]) (by omega) (by omega) (by omega) hS2 r2 (by omega) (by simp)
        have hfr3 : Fw μ μ3 := fun c t e1 e2 => by rw [q3 c t e1 e2, hfr c t e1 e2]
        by_cases hbig : (tw_w T n n (p + 1)).1.length ≤ k
        · rw [show N - (tw_w T n n (p + 1)).1.length + (tw_w T n n (p + 1)).1.length = N by omega] at q1
          rw [q1]
          have e2 : [] ++ [T p] ++ (tw_w T n n (p + 1)).1 = (tw_w T n n p).1 := by rw [w1]; rfl
          rw [e2] at q2
          obtain ⟨b', x', μ', t1, t2, t3⟩ := L52_ok (k - (tw_w T n n (p + 1)).1.length) (N - (tw_w T n n (p + 1)).1.length) μ3 (tw_w T n n (p + 1)).2 _ 1 (ws ++ [(tw_w T n n p).1]) (by omega) rfl z.2 (by omega) (Or.inr ⟨rfl, tw_w_end T n n (p + 1) (by omega) (by omega)⟩) (hS.fr (hfr3 3 2 (by omega) (by omega)) (fun i => hfr3 4 i (by omega) (by omega))) q2 (by rw [List.length_append]; simp; omega)
          refine ⟨b', x', μ', t1, ?_, fun c t e1 e2 => by rw [t3 c t e1 e2, hfr3 c t e1 e2]⟩
          rw [List.append_assoc] at t2
          rw [w2, tw_st T n k (k - (tw_w T n n (p + 1)).1.length) _ (by omega) (by omega) z.2]
          exact t2
        · exfalso
          omega
    · rw [if_neg (by rw [hS.1]; omega)]
      have e : tw T n k p = [] := by
        cases k with
        | zero => rfl
        | succ k => unfold tw; rw [if_neg h1]
      rw [e, List.append_nil]
      exact ⟨_, _, _, rfl, hW, fun _ _ _ _ => rfl⟩
  termination_by k => k
/-- splitWords -/
theorem fn52_ok {T : Nat → Int} {n : Nat} {μ : am_M} (hS : TSrc μ T n) (h3 : μ 141 3 = 0) : ∃ μ', fn52 141 3 μ = some (0, μ') ∧ Wd μ' (tx_ws T n) ∧ Fw μ μ' := by
  have hn := hS.2.1
  unfold fn52
  obtain ⟨b', x', μ', q1, q2, q3⟩ := L52_ok (T := T) (n := n) n am_fuel μ 0 0 0 [] (by unfold am_fuel; omega) rfl (by omega) (by omega) (Or.inl rfl) hS ⟨h3, fun k hk => absurd hk (Nat.not_lt_zero _)⟩ (Nat.le_refl _)
  rw [q1, am_op_some, am_lp_r]
  exact ⟨μ', rfl, q2, q3⟩
