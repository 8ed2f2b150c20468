/-! Reading the data: what both sides make of the characters. -/
def ps_at (D : Nat → Int) (n p : Nat) : Int := if p < n then D p else 0
def ps_end (c : Int) : Bool := decide (c = 44 ∨ c = 34 ∨ c = 13 ∨ c = 10)
def ps_pl (D : Nat → Int) (n : Nat) : Nat → Nat → List Int × Nat
  | 0, q => ([], q)
  | k + 1, q => if q < n then (if ps_end (D q) = true then ([], q) else (D q :: (ps_pl D n k (q + 1)).1, (ps_pl D n k (q + 1)).2)) else ([], q)
def ps_qu (D : Nat → Int) (n : Nat) : Nat → Nat → List Int × Nat × Bool
  | 0, q => ([], q, false)
  | k + 1, q => if q < n then (if D q = 34 then (if ps_at D n (q + 1) = 34 then (34 :: (ps_qu D n k (q + 2)).1, (ps_qu D n k (q + 2)).2) else ([], q + 1, true)) else (D q :: (ps_qu D n k (q + 1)).1, (ps_qu D n k (q + 1)).2)) else ([], q, false)
def ps_fd (D : Nat → Int) (n p : Nat) : List Int × Nat × Bool := if ps_at D n p = 34 then ps_qu D n n (p + 1) else ((ps_pl D n n p).1, (ps_pl D n n p).2, true)
theorem ps_pl_le (D : Nat → Int) (n : Nat) : ∀ k q, q ≤ n → q + (ps_pl D n k q).1.length = (ps_pl D n k q).2 ∧ (ps_pl D n k q).2 ≤ n
  | 0, q, h => ⟨by unfold ps_pl; simp, by unfold ps_pl; exact h⟩
  | k + 1, q, h => by
    unfold ps_pl
    split
    · split
      · exact ⟨by simp, h⟩
      · have z := ps_pl_le D n k (q + 1) (by omega)
        simp only [List.length_cons]
        omega
    · exact ⟨by simp, h⟩
theorem ps_qu_le (D : Nat → Int) (n : Nat) : ∀ k q, q ≤ n → q + (ps_qu D n k q).1.length ≤ (ps_qu D n k q).2.1 ∧ (ps_qu D n k q).2.1 ≤ n
  | 0, q, h => ⟨by unfold ps_qu; simp, by unfold ps_qu; exact h⟩
  | k + 1, q, h => by
    unfold ps_qu
    split
    · split
      · split
        · rename_i h1 h2 h3
          have hq : q + 2 ≤ n := by
            unfold ps_at at h3
            split at h3
            · omega
            · omega
          have z := ps_qu_le D n k (q + 2) hq
          simp only [List.length_cons]
          omega
        · simp only [List.length_nil]
          omega
      · have z := ps_qu_le D n k (q + 1) (by omega)
        simp only [List.length_cons]
        omega
    · exact ⟨by simp, h⟩
theorem ps_fd_le (D : Nat → Int) {n p : Nat} (h : p ≤ n) : p + (ps_fd D n p).1.length ≤ (ps_fd D n p).2.1 ∧ (ps_fd D n p).2.1 ≤ n := by
  unfold ps_fd
  split
  · rename_i h1
    have hp : p < n := by
      unfold ps_at at h1
      split at h1
      · assumption
      · omega
    have z := ps_qu_le D n n (p + 1) (by omega)
    omega
  · have z := ps_pl_le D n n p h
    dsimp only
    omega
/-- the characters that a Script holds -/
def Src (μ : am_M) (D : Nat → Int) (n : Nat) : Prop := μ 1 2 = n ∧ n ≤ 400 ∧ ∀ i : Nat, i < n → μ 2 i = D i ∧ 0 ≤ D i ∧ D i ≤ 65535
theorem rf_1 : am_ref 1 0 = 2 ∧ am_len 2 = 400 ∧ am_ref 5 0 = 6 ∧ am_ref 5 1 = 137 ∧ am_len 6 = 65 ∧ am_ref 137 0 = 138 ∧ am_len 138 = 12 ∧ am_ref 5 2 = 139 ∧ am_ref 5 3 = 140 ∧ am_len 139 = 65 ∧ am_len 140 = 5 := by decide +kernel
theorem rf_2 : ∀ f, f < 65 → am_ref 6 f = 7 + 2 * f ∧ am_ref (7 + 2 * f) 0 = 8 + 2 * f ∧ am_len (8 + 2 * f) = 12 := by decide +kernel
theorem ps_at_in {D : Nat → Int} {μ : am_M} {n : Nat} (h : Src μ D n) (p : Nat) : 0 ≤ ps_at D n p ∧ ps_at D n p ≤ 65535 := by
  unfold ps_at
  split
  · rename_i hp
    exact (h.2.2 p hp).2
  · omega
theorem fn15_at {D : Nat → Int} {μ : am_M} {n : Nat} (h : Src μ D n) {a : Int} (p : Nat) (ha : a = p) : fn15 1 a μ = some (ps_at D n p, μ) := by
  subst ha
  unfold fn15 ps_at
  rw [h.1, rf_1.1, rf_1.2.1, if_neg (by omega), Int.toNat_natCast]
  have hn := h.2.1
  by_cases hp : p < n
  · obtain ⟨e1, e2, e3⟩ := h.2.2 p hp
    rw [if_pos (by omega), if_pos (by omega), e1, if_pos ⟨e2, e3⟩, if_pos hp]
  · rw [if_neg (by omega), if_neg hp]
/-- a Letters object o with its characters in a (room cap) holds l -/
def Lt (μ : am_M) (o a cap : Nat) (l : List Int) : Prop := μ o 1 = l.length ∧ ∀ i : Nat, i < l.length → i < cap → μ a i = l.getD i 0
def Fo (o a : Nat) (μ μ' : am_M) : Prop := ∀ c s, ¬ (c = o ∧ s = 1) → c ≠ a → μ' c s = μ c s
theorem fn17_ok {o a cap : Nat} (hr : am_ref o 0 = a) (hc : am_len a = cap) (hoa : o ≠ a) {μ : am_M} {l : List Int} (h : Lt μ o a cap l) (hl : l.length ≤ 1000) {c : Int} (h0 : 0 ≤ c) (h1 : c ≤ 65535) : ∃ μ', fn17 o c μ = some (0, μ') ∧ Lt μ' o a cap (l ++ [c]) ∧ Fo o a μ μ' := by
  unfold fn17
  rw [hr, hc, h.1, o_nc_id h0 h1, am_up_c _ _ hoa, h.1, w32_id (by omega) (by omega)]
  by_cases hp : (l.length : Int) < (cap : Int)
  · rw [if_pos hp, if_pos ⟨by omega, hp⟩, Int.toNat_natCast]
    refine ⟨_, rfl, ⟨?_, fun i hi hic => ?_⟩, fun x y e1 e2 => ?_⟩
    · rw [am_up_at, List.length_append]
      simp
    · rw [am_up_c _ _ (Ne.symm hoa)]
      rw [List.length_append, List.length_singleton] at hi
      by_cases e : i = l.length
      · subst e
        rw [am_up_at]
        simp
      · rw [am_up_s _ _ e, h.2 i (by omega) hic]
        simp only [List.getD_eq_getElem?_getD]
        rw [List.getElem?_append_left (by omega)]
    · by_cases ex : x = o
      · rw [am_up_s _ _ (fun ey => e1 ⟨ex, ey⟩), am_up_c _ _ e2]
      · rw [am_up_c _ _ ex, am_up_c _ _ e2]
  · rw [if_neg hp]
    refine ⟨_, rfl, ⟨?_, fun i hi hic => ?_⟩, fun x y e1 e2 => ?_⟩
    · rw [am_up_at, List.length_append]
      simp
    · rw [am_up_c _ _ (Ne.symm hoa)]
      rw [List.length_append, List.length_singleton] at hi
      rw [h.2 i (by omega) hic]
      simp only [List.getD_eq_getElem?_getD]
      rw [List.getElem?_append_left (by omega)]
    · by_cases ex : x = o
      · rw [am_up_s _ _ (fun ey => e1 ⟨ex, ey⟩)]
      · rw [am_up_c _ _ ex]
theorem Src.fr {μ μ' : am_M} {D : Nat → Int} {n : Nat} (h : Src μ D n) (h1 : μ' 1 2 = μ 1 2) (h2 : ∀ i, μ' 2 i = μ 2 i) : Src μ' D n := ⟨by rw [h1]; exact h.1, h.2.1, fun i hi => by rw [h2]; exact h.2.2 i hi⟩
theorem Lt.fr {μ μ' : am_M} {o a cap : Nat} {l : List Int} (h : Lt μ o a cap l) (h1 : μ' o 1 = μ o 1) (h2 : ∀ i, μ' a i = μ a i) : Lt μ' o a cap l := ⟨by rw [h1]; exact h.1, fun i hi hc => by rw [h2]; exact h.2 i hi hc⟩
theorem fn19_e (c : Int) (μ : am_M) : fn19 c μ = some (if ps_end c = true then 1 else 0, μ) := by
  unfold fn19 ps_end
  by_cases h : c = 44 ∨ c = 34 ∨ c = 13 ∨ c = 10
  · rw [if_pos (decide_eq_true h)]
    repeat' split
    all_goals first | rfl | omega
  · rw [if_neg (fun z => h (of_decide_eq_true z))]
    repeat' split
    all_goals first | rfl | omega
/-- a change of position and of one Letters object -/
def Fp (o a : Nat) (μ μ' : am_M) : Prop := ∀ c s, ¬ (c = o ∧ s = 1) → c ≠ a → ¬ (c = 5 ∧ s = 8) → μ' c s = μ c s
theorem L20_ok {D : Nat → Int} {n o a cap : Nat} (hr : am_ref o 0 = a) (hc : am_len a = cap) (hoa : o ≠ a) (ho : 6 < o) (ha : 6 < a) : ∀ (k N : Nat) (μ : am_M) (p : Nat) (l : List Int), k < N → Src μ D n → μ 5 8 = p → p ≤ n → n - p ≤ k → Lt μ o a cap l → l.length ≤ p →
    ∃ μ', L20_0 5 1 o N μ = some (.inr μ') ∧ μ' 5 8 = ((ps_pl D n k p).2 : Nat) ∧ Lt μ' o a cap (l ++ (ps_pl D n k p).1) ∧ Fp o a μ μ'
  | k, 0, _, _, _, hN, _, _, _, _, _, _ => absurd hN (by omega)
  | k, N + 1, μ, p, l, hN, hS, hp, hpn, hk, hL, hl => by
    have hn := hS.2.1
    rw [L20_0]
    unfold fn16
    rw [am_op_some]
    dsimp only
    rw [hp, hS.1]
    by_cases h : p < n
    · obtain ⟨k, rfl⟩ : ∃ k', k = k' + 1 := ⟨k - 1, by omega⟩
      rw [if_pos (by omega), fn15_at hS p rfl, am_op_some, fn19_e, am_op_some]
      have e : ps_at D n p = D p := by unfold ps_at; rw [if_pos h]
      dsimp only
      rw [e]
      unfold ps_pl
      rw [if_pos h]
      by_cases he : ps_end (D p) = true
      · rw [if_pos he, if_pos he, if_neg (by decide)]
        refine ⟨μ, rfl, hp, ?_, fun _ _ _ _ _ => rfl⟩
        rw [List.append_nil]
        exact hL
      · rw [if_neg he, if_neg he, if_pos rfl, hp, fn15_at hS p rfl, am_op_some, e]
        obtain ⟨d1, d2, d3⟩ := hS.2.2 p h
        obtain ⟨μ1, m1, m2, m3⟩ := fn17_ok hr hc hoa hL (by omega) d2 d3
        dsimp only
        rw [m1, am_op_some]
        dsimp only
        have hp1 : μ1 5 8 = p := by rw [m3 5 8 (by omega) (by omega)]; exact hp
        rw [hp1, w32_id (by omega) (by omega)]
        have hS1 : Src (am_up μ1 5 8 ((p : Int) + 1)) D n := (hS.fr (m3 1 2 (by omega) (by omega)) (fun i => m3 2 i (by omega) (by omega))).fr (am_up_c _ _ (by decide)) (fun i => am_up_c _ _ (by decide))
        obtain ⟨μ2, q1, q2, q3, q4⟩ := L20_ok hr hc hoa ho ha k N (am_up μ1 5 8 ((p : Int) + 1)) (p + 1) (l ++ [D p]) (by omega) hS1 (by rw [am_up_at]; omega) (by omega) (by omega) (m2.fr (am_up_c _ _ (by omega)) (fun i => am_up_c _ _ (by omega))) (by rw [List.length_append]; simp; omega)
        refine ⟨μ2, q1, q2, ?_, fun x y e1 e2 e3 => ?_⟩
        · rw [List.append_assoc] at q3
          exact q3
        · rw [q4 x y e1 e2 e3]
          by_cases ex : x = 5
          · rw [am_up_s _ _ (fun ey => e3 ⟨ex, ey⟩), m3 x y e1 e2]
          · rw [am_up_c _ _ ex, m3 x y e1 e2]
    · rw [if_neg (by omega)]
      have e : ps_pl D n k p = ([], p) := by
        cases k with
        | zero => rfl
        | succ k => unfold ps_pl; rw [if_neg h]
      rw [e]
      refine ⟨μ, rfl, hp, ?_, fun _ _ _ _ _ => rfl⟩
      rw [List.append_nil]
      exact hL
theorem L18_ok {D : Nat → Int} {n o a cap : Nat} (hr : am_ref o 0 = a) (hc : am_len a = cap) (hoa : o ≠ a) (ho : 6 < o) (ha : 6 < a) : ∀ (k N : Nat) (μ : am_M) (p : Nat) (l : List Int), k + 1 < N → Src μ D n → μ 5 8 = p → p ≤ n → n - p ≤ k → Lt μ o a cap l → l.length ≤ p →
    ∃ μ', L18_12 5 1 o N 1 μ = some (.inr (if (ps_qu D n k p).2.2 = true then 0 else 1, μ')) ∧ μ' 5 8 = ((ps_qu D n k p).2.1 : Nat) ∧ Lt μ' o a cap (l ++ (ps_qu D n k p).1) ∧ Fp o a μ μ'
  | k, 0, _, _, _, hN, _, _, _, _, _, _ => absurd hN (by omega)
  | k, N + 1, μ, p, l, hN, hS, hp, hpn, hk, hL, hl => by
    have hn := hS.2.1
    rw [L18_12, if_neg (by decide)]
    unfold fn16
    rw [am_op_some]
    dsimp only
    rw [hp, hS.1]
    by_cases h : p < n
    · obtain ⟨k, rfl⟩ : ∃ k', k = k' + 1 := ⟨k - 1, by omega⟩
      have e : ps_at D n p = D p := by unfold ps_at; rw [if_pos h]
      rw [if_pos (by omega), fn15_at hS p rfl, am_op_some, e]
      dsimp only
      rw [hp, w32_id (by omega) (by omega), am_up_at]
      have hS1 : Src (am_up μ 5 8 ((p : Int) + 1)) D n := hS.fr (am_up_c _ _ (by decide)) (fun i => am_up_c _ _ (by decide))
      have hL1 : Lt (am_up μ 5 8 ((p : Int) + 1)) o a cap l := hL.fr (am_up_c _ _ (by omega)) (fun i => am_up_c _ _ (by omega))
      obtain ⟨d1, d2, d3⟩ := hS.2.2 p h
      unfold ps_qu
      rw [if_pos h]
      by_cases hq : D p = 34
      · rw [if_pos hq, if_pos hq, fn15_at hS1 (p + 1) (by omega), am_op_some]
        dsimp only
        by_cases hq2 : ps_at D n (p + 1) = 34
        · have hp2 : p + 2 ≤ n := by
            unfold ps_at at hq2
            split at hq2
            · omega
            · omega
          rw [if_pos hq2, if_pos hq2]
          obtain ⟨μ1, m1, m2, m3⟩ := fn17_ok hr hc hoa hL1 (by omega) d2 d3
          rw [m1, am_op_some]
          dsimp only
          have hp1 : μ1 5 8 = (p : Int) + 1 := by rw [m3 5 8 (by omega) (by omega), am_up_at]
          rw [hp1, w32_id (by omega) (by omega)]
          have hS2 : Src (am_up μ1 5 8 ((p : Int) + 1 + 1)) D n := (hS1.fr (m3 1 2 (by omega) (by omega)) (fun i => m3 2 i (by omega) (by omega))).fr (am_up_c _ _ (by decide)) (fun i => am_up_c _ _ (by decide))
          obtain ⟨μ2, q1, q2, q3, q4⟩ := L18_ok hr hc hoa ho ha k N (am_up μ1 5 8 ((p : Int) + 1 + 1)) (p + 2) (l ++ [D p]) (by omega) hS2 (by rw [am_up_at]; omega) (by omega) (by omega) (m2.fr (am_up_c _ _ (by omega)) (fun i => am_up_c _ _ (by omega))) (by rw [List.length_append]; simp; omega)
          refine ⟨μ2, q1, q2, ?_, fun x y e1 e2 e3 => ?_⟩
          · rw [List.append_assoc, hq] at q3
            exact q3
          · rw [q4 x y e1 e2 e3]
            by_cases ex : x = 5
            · rw [am_up_s _ _ (fun ey => e3 ⟨ex, ey⟩), m3 x y e1 e2, am_up_s _ _ (fun ey => e3 ⟨ex, ey⟩)]
            · rw [am_up_c _ _ ex, m3 x y e1 e2, am_up_c _ _ ex]
        · rw [if_neg hq2, if_neg hq2]
          obtain ⟨N, rfl⟩ : ∃ N', N = N' + 1 := ⟨N - 1, by omega⟩
          rw [L18_12, if_pos rfl]
          refine ⟨_, rfl, ?_, ?_, fun x y e1 e2 e3 => ?_⟩
          · rw [am_up_at]; dsimp only; omega
          · rw [List.append_nil]; exact hL1
          · by_cases ex : x = 5
            · rw [am_up_s _ _ (fun ey => e3 ⟨ex, ey⟩)]
            · rw [am_up_c _ _ ex]
      · rw [if_neg hq, if_neg hq]
        obtain ⟨μ1, m1, m2, m3⟩ := fn17_ok hr hc hoa hL1 (by omega) d2 d3
        rw [m1, am_op_some]
        dsimp only
        have hp1 : μ1 5 8 = ((p + 1 : Nat) : Int) := by rw [m3 5 8 (by omega) (by omega), am_up_at]; omega
        have hS2 : Src μ1 D n := hS1.fr (m3 1 2 (by omega) (by omega)) (fun i => m3 2 i (by omega) (by omega))
        obtain ⟨μ2, q1, q2, q3, q4⟩ := L18_ok hr hc hoa ho ha k N μ1 (p + 1) (l ++ [D p]) (by omega) hS2 hp1 (by omega) (by omega) m2 (by rw [List.length_append]; simp; omega)
        refine ⟨μ2, q1, q2, ?_, fun x y e1 e2 e3 => ?_⟩
        · rw [List.append_assoc] at q3
          exact q3
        · rw [q4 x y e1 e2 e3, m3 x y e1 e2]
          by_cases ex : x = 5
          · rw [am_up_s _ _ (fun ey => e3 ⟨ex, ey⟩)]
          · rw [am_up_c _ _ ex]
    · rw [if_neg (by omega)]
      have e : ps_qu D n k p = ([], p, false) := by
        cases k with
        | zero => rfl
        | succ k => unfold ps_qu; rw [if_neg h]
      rw [e]
      refine ⟨μ, rfl, hp, ?_, fun _ _ _ _ _ => rfl⟩
      rw [List.append_nil]
      exact hL
/-- readField, of the Letters object o -/
def rf_U (m : am_M) (v : Int) : am_M := am_up (am_up (am_up m 5 11 v) 5 4 (w32 (((am_up m 5 11 v) 5 4) + 1))) 5 7 (w32 (((am_up (am_up m 5 11 v) 5 4 (w32 (((am_up m 5 11 v) 5 4) + 1))) 5 7) + 1))
def rf_V (o : Nat) (z : Int × am_M) : Option (Int × am_M) := (if z.2 5 11 = 0 then some (0, rf_U z.2 0) else (am_op (fn21 o z.2) (fun z12 => (if 12 < z12.1 then some (0, rf_U z12.2 0) else some (0, rf_U z12.2 1)))))
def rf_T (o : Nat) (μ : am_M) : Option (Int × am_M) := (am_op (fn14 o μ) (fun z7 => (am_op (fn15 1 (z7.2 5 8) z7.2) (fun z8 => (if z8.1 = 34 then (am_op (fn18 5 1 o z8.2) (rf_V o)) else (am_op (fn20 5 1 o z8.2) (rf_V o)))))))
theorem fn22_T {μ : am_M} {cc : Nat} (h : μ 5 4 = cc) : fn22 5 1 μ = rf_T (if cc < 65 then 7 + 2 * cc else 137) μ := by
  unfold fn22
  rw [rf_1.2.2.1, rf_1.2.2.2.1, rf_1.2.2.2.2.1, h, Int.toNat_natCast]
  by_cases hc : cc < 65
  · rw [if_pos (by omega), if_pos (by omega), if_pos hc, (rf_2 cc hc).1]
    rfl
  · rw [if_neg (by omega), if_neg hc]
    rfl
theorem rf_U_ok (m : am_M) (v : Int) {cc k : Nat} (h1 : m 5 4 = cc) (h2 : m 5 7 = k) (b1 : cc ≤ 10000) (b2 : k ≤ 10000) : rf_U m v 5 4 = ((cc + 1 : Nat) : Int) ∧ rf_U m v 5 7 = ((k + 1 : Nat) : Int) ∧ rf_U m v 5 11 = v ∧ ∀ c s, ¬ (c = 5 ∧ (s = 4 ∨ s = 7 ∨ s = 11)) → rf_U m v c s = m c s := by
  unfold rf_U
  have e1 : (am_up m 5 11 v) 5 4 = cc := by rw [am_up_s _ _ (by decide), h1]
  rw [e1, w32_id (by omega) (by omega)]
  have e2 : (am_up (am_up m 5 11 v) 5 4 ((cc : Int) + 1)) 5 7 = k := by rw [am_up_s _ _ (by decide), am_up_s _ _ (by decide), h2]
  rw [e2, w32_id (by omega) (by omega)]
  refine ⟨?_, ?_, ?_, fun c s h => ?_⟩
  · rw [am_up_s _ _ (by decide), am_up_at]; omega
  · rw [am_up_at]; omega
  · rw [am_up_s _ _ (by decide), am_up_s _ _ (by decide), am_up_at]
  · by_cases hc : c = 5
    · rw [am_up_s _ _ (by omega), am_up_s _ _ (by omega), am_up_s _ _ (by omega)]
    · rw [am_up_c _ _ hc, am_up_c _ _ hc, am_up_c _ _ hc]
/-- where readField changes something -/
def Ff (o a : Nat) (μ μ' : am_M) : Prop := ∀ c s, ¬ (c = o ∧ s = 1) → c ≠ a → ¬ (c = 5 ∧ (s = 4 ∨ s = 7 ∨ s = 8 ∨ s = 10 ∨ s = 11)) → μ' c s = μ c s
def bI (b : Bool) : Int := if b = true then 1 else 0
theorem rf_T_ok {D : Nat → Int} {n o a : Nat} (hr : am_ref o 0 = a) (hc : am_len a = 12) (hoa : o ≠ a) (ho : 6 < o) (ha : 6 < a) {μ : am_M} {p cc k : Nat} {wf wi : Bool} (hS : Src μ D n) (hp : μ 5 8 = p) (hpn : p ≤ n) (h4 : μ 5 4 = cc) (h7 : μ 5 7 = k) (b1 : cc ≤ 10000) (b2 : k ≤ 10000) (h10 : μ 5 10 = bI wf) (h11 : μ 5 11 = bI wi) :
    ∃ μ', rf_T o μ = some (0, μ') ∧ μ' 5 8 = ((ps_fd D n p).2.1 : Nat) ∧ μ' 5 4 = ((cc + 1 : Nat) : Int) ∧ μ' 5 7 = ((k + 1 : Nat) : Int) ∧ μ' 5 10 = bI (wf && (ps_fd D n p).2.2) ∧ μ' 5 11 = bI (wi && decide ((ps_fd D n p).1.length ≤ 12)) ∧ Lt μ' o a 12 (ps_fd D n p).1 ∧ Ff o a μ μ' := by
  have hn := hS.2.1
  unfold rf_T fn14
  rw [am_op_some]
  dsimp only
  have e8 : (am_up μ o 1 0) 5 8 = p := by rw [am_up_c _ _ (by omega), hp]
  have hS0 : Src (am_up μ o 1 0) D n := hS.fr (am_up_c _ _ (by omega)) (fun i => am_up_c _ _ (by omega))
  have hL0 : Lt (am_up μ o 1 0) o a 12 [] := ⟨by rw [am_up_at]; rfl, fun i hi => by simp at hi⟩
  have g10 : (am_up μ o 1 0) 5 10 = bI wf := by rw [am_up_c _ _ (by omega), h10]
  have gf : ∀ c s, ¬ (c = o ∧ s = 1) → (am_up μ o 1 0) c s = μ c s := fun c s h => by
    by_cases hx : c = o
    · rw [am_up_s _ _ (fun hy => h ⟨hx, hy⟩)]
    · rw [am_up_c _ _ hx]
  rw [e8, fn15_at hS0 p rfl, am_op_some]
  dsimp only
  -- what stands behind the reading
  have key : ∀ (m : am_M) (l : List Int) (q : Nat) (ok : Bool), Lt m o a 12 l → m 5 8 = q → m 5 10 = bI (wf && ok) → (∀ c s, ¬ (c = o ∧ s = 1) → c ≠ a → ¬ (c = 5 ∧ (s = 8 ∨ s = 10)) → m c s = μ c s) →
      ∃ μ', rf_V o (0, m) = some (0, μ') ∧ μ' 5 8 = (q : Nat) ∧ μ' 5 4 = ((cc + 1 : Nat) : Int) ∧ μ' 5 7 = ((k + 1 : Nat) : Int) ∧ μ' 5 10 = bI (wf && ok) ∧ μ' 5 11 = bI (wi && decide (l.length ≤ 12)) ∧ Lt μ' o a 12 l ∧ Ff o a μ μ' := by
    intro m l q ok k1 k2 k3 k4
    have m4 : m 5 4 = cc := by rw [k4 5 4 (by omega) (by omega) (by omega), h4]
    have m7 : m 5 7 = k := by rw [k4 5 7 (by omega) (by omega) (by omega), h7]
    have m11 : m 5 11 = bI wi := by rw [k4 5 11 (by omega) (by omega) (by omega), h11]
    have fin : ∀ v : Int, v = bI (wi && decide (l.length ≤ 12)) → rf_U m v 5 8 = (q : Nat) ∧ rf_U m v 5 4 = ((cc + 1 : Nat) : Int) ∧ rf_U m v 5 7 = ((k + 1 : Nat) : Int) ∧ rf_U m v 5 10 = bI (wf && ok) ∧ rf_U m v 5 11 = bI (wi && decide (l.length ≤ 12)) ∧ Lt (rf_U m v) o a 12 l ∧ Ff o a μ (rf_U m v) := by
      intro v hv
      obtain ⟨u1, u2, u3, u4⟩ := rf_U_ok m v m4 m7 b1 b2
      refine ⟨by rw [u4 5 8 (by omega)]; exact k2, u1, u2, by rw [u4 5 10 (by omega)]; exact k3, by rw [u3]; exact hv, k1.fr (u4 o 1 (by omega)) (fun i => u4 a i (by omega)), fun c s e1 e2 e3 => ?_⟩
      rw [u4 c s (by omega), k4 c s e1 e2 (by omega)]
    unfold rf_V
    dsimp only
    cases wi with
    | false =>
      rw [if_pos (show m 5 11 = 0 from m11)]
      exact ⟨_, rfl, fin 0 rfl⟩
    | true =>
      rw [if_neg (show ¬ m 5 11 = 0 by rw [m11]; decide)]
      unfold fn21
      rw [am_op_some]
      dsimp only
      rw [k1.1]
      by_cases h12 : l.length ≤ 12
      · rw [if_neg (by omega)]
        exact ⟨_, rfl, fin 1 (by simp [bI, h12])⟩
      · rw [if_pos (by omega)]
        exact ⟨_, rfl, fin 0 (by simp [bI, h12])⟩
  unfold ps_fd
  by_cases hq : ps_at D n p = 34
  · rw [if_pos hq, if_pos hq]
    have hpl : p < n := by
      unfold ps_at at hq
      split at hq
      · assumption
      · omega
    unfold fn18
    rw [e8, w32_id (by omega) (by omega)]
    have hS1 : Src (am_up (am_up μ o 1 0) 5 8 ((p : Int) + 1)) D n := hS0.fr (am_up_c _ _ (by decide)) (fun i => am_up_c _ _ (by decide))
    obtain ⟨μ1, q1, q2, q3, q4⟩ := L18_ok hr hc hoa ho ha n am_fuel (am_up (am_up μ o 1 0) 5 8 ((p : Int) + 1)) (p + 1) [] (by unfold am_fuel; omega) hS1 (by rw [am_up_at]; omega) (by omega) (by omega) (hL0.fr (am_up_c _ _ (by omega)) (fun i => am_up_c _ _ (by omega))) (by simp)
    rw [q1, am_op_some, am_lp_r]
    dsimp only
    rw [List.nil_append] at q3
    have p10 : μ1 5 10 = bI wf := by rw [q4 5 10 (by omega) (by omega) (by omega), am_up_s _ _ (by decide), g10]
    have pf : ∀ c s, ¬ (c = o ∧ s = 1) → c ≠ a → ¬ (c = 5 ∧ s = 8) → μ1 c s = μ c s := fun c s e1 e2 e3 => by
      rw [q4 c s e1 e2 e3]
      by_cases hx : c = 5
      · rw [am_up_s _ _ (fun hy => e3 ⟨hx, hy⟩), gf c s e1]
      · rw [am_up_c _ _ hx, gf c s e1]
    have fin : ∀ v : Int, v = bI (wf && (ps_qu D n n (p + 1)).2.2) → ∃ μ', am_op (some ((0 : Int), am_up μ1 5 10 v)) (rf_V o) = some (0, μ') ∧ μ' 5 8 = ((ps_qu D n n (p + 1)).2.1 : Nat) ∧ μ' 5 4 = ((cc + 1 : Nat) : Int) ∧ μ' 5 7 = ((k + 1 : Nat) : Int) ∧ μ' 5 10 = bI (wf && (ps_qu D n n (p + 1)).2.2) ∧ μ' 5 11 = bI (wi && decide ((ps_qu D n n (p + 1)).1.length ≤ 12)) ∧ Lt μ' o a 12 (ps_qu D n n (p + 1)).1 ∧ Ff o a μ μ' := by
      intro v hv
      refine key (am_up μ1 5 10 v) _ _ _ (q3.fr (am_up_c _ _ (by omega)) (fun i => am_up_c _ _ (by omega))) (by rw [am_up_s _ _ (by decide)]; exact q2) (by rw [am_up_at]; exact hv) (fun c s e1 e2 e3 => ?_)
      by_cases hx : c = 5
      · rw [am_up_s _ _ (by omega), pf c s e1 e2 (by omega)]
      · rw [am_up_c _ _ hx, pf c s e1 e2 (by omega)]
    cases wf with
    | false =>
      rw [if_pos (show μ1 5 10 = 0 from p10)]
      exact fin 0 rfl
    | true =>
      rw [if_neg (show ¬ μ1 5 10 = 0 by rw [p10]; decide)]
      by_cases hcl : (ps_qu D n n (p + 1)).2.2 = true
      · rw [if_pos hcl, if_pos rfl]
        exact fin 1 (by rw [hcl]; rfl)
      · rw [if_neg hcl, if_neg (by decide)]
        have hcl : (ps_qu D n n (p + 1)).2.2 = false := by simpa using hcl
        exact fin 0 (by rw [hcl]; rfl)
  · rw [if_neg hq, if_neg hq]
    unfold fn20
    obtain ⟨μ1, q1, q2, q3, q4⟩ := L20_ok hr hc hoa ho ha n am_fuel (am_up μ o 1 0) p [] (by unfold am_fuel; omega) hS0 e8 hpn (by omega) hL0 (by simp)
    rw [q1, am_op_some, am_lp_r, am_op_some]
    rw [List.nil_append] at q3
    refine key μ1 _ _ true q3 q2 ?_ (fun c s e1 e2 e3 => ?_)
    · rw [q4 5 10 (by omega) (by omega) (by omega), g10, Bool.and_true]
    · rw [q4 c s e1 e2 (by omega), gf c s e1]
