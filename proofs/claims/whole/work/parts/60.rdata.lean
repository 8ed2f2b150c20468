/-! Reading the data: the reference. -/
def RSrc (μ : am_M) (D : Nat → Int) (n : Nat) : Prop := μ 240 1 = n ∧ n ≤ 400 ∧ ∀ i : Nat, i < n → μ 241 i = D i ∧ 0 ≤ D i ∧ D i ≤ 65535
theorem RSrc.fr {μ μ' : am_M} {D : Nat → Int} {n : Nat} (h : RSrc μ D n) (h1 : μ' 240 1 = μ 240 1) (h2 : ∀ i, μ' 241 i = μ 241 i) : RSrc μ' D n := ⟨by rw [h1]; exact h.1, h.2.1, fun i hi => by rw [h2]; exact h.2.2 i hi⟩
theorem rf_3 : am_ref 240 2 = 241 ∧ am_len 241 = 400 ∧ am_ref 240 10 = 243 ∧ am_len 243 = 420 ∧ am_ref 240 11 = 244 ∧ am_len 244 = 420 ∧ am_ref 240 13 = 245 ∧ am_len 245 = 400 ∧ am_ref 240 15 = 246 ∧ am_len 246 = 5 := by decide +kernel
theorem fn170_at {D : Nat → Int} {μ : am_M} {n : Nat} (h : RSrc μ D n) {a : Int} (p : Nat) (ha : a = p) : fn170 240 a μ = some (ps_at D n p, μ) := by
  subst ha
  have hn := h.2.1
  unfold fn170 ps_at
  rw [rf_3.1, rf_3.2.1, Int.toNat_natCast]
  by_cases hp : p < n
  · rw [if_pos (by rw [h.1]; omega), if_pos (by omega), if_pos hp, (h.2.2 p hp).1]
  · rw [if_neg (by rw [h.1]; omega), if_neg hp]
def Fk (K : Nat) (μ μ' : am_M) : Prop := ∀ c s, ¬ (c = 240 ∧ s = 12) → ¬ (c = 245 ∧ K ≤ s) → μ' c s = μ c s
theorem fn171_ok {μ : am_M} {K : Nat} (h : μ 240 12 = K) (hK : K < 400) {c : Int} (h0 : 0 ≤ c) (h1 : c ≤ 65535) : ∃ μ', fn171 240 c μ = some (0, μ') ∧ μ' 240 12 = ((K + 1 : Nat) : Int) ∧ μ' 245 K = c ∧ ∀ x y, ¬ (x = 240 ∧ y = 12) → ¬ (x = 245 ∧ y = K) → μ' x y = μ x y := by
  unfold fn171
  rw [rf_3.2.2.2.2.2.2.1, rf_3.2.2.2.2.2.2.2.1, if_pos (by rw [h]; omega), o_i2c_id h0 h1, o_nc_id h0 h1, am_up_c _ _ (by decide), h, Int.toNat_natCast, w32_id (by omega) (by omega)]
  refine ⟨_, rfl, ?_, ?_, fun x y e1 e2 => ?_⟩
  · rw [am_up_at]; omega
  · rw [am_up_c _ _ (by decide), am_up_at]
  · by_cases hx : x = 240
    · rw [am_up_s _ _ (fun hy => e1 ⟨hx, hy⟩), am_up_c _ _ (by omega)]
    · rw [am_up_c _ _ hx]
      by_cases hx2 : x = 245
      · rw [am_up_s _ _ (fun hy => e2 ⟨hx2, hy⟩)]
      · rw [am_up_c _ _ hx2]
theorem L172_104_ok {D : Nat → Int} {n : Nat} : ∀ (k N : Nat) (a : Int) (μ : am_M) (p K : Nat), k < N → RSrc μ D n → a = p → p ≤ n → n - p ≤ k → μ 240 12 = K → K ≤ p →
    ∃ μ', L172_104 240 N a μ = some (.inr ((((ps_pl D n k p).2 : Nat) : Int), μ')) ∧ μ' 240 12 = ((K + (ps_pl D n k p).1.length : Nat) : Int) ∧ (∀ i, i < (ps_pl D n k p).1.length → μ' 245 (K + i) = (ps_pl D n k p).1.getD i 0) ∧ Fk K μ μ'
  | k, 0, _, _, _, _, hN, _, _, _, _, _, _ => absurd hN (by omega)
  | k, N + 1, a, μ, p, K, hN, hS, hp, hpn, hk, hK, hKp => by
    have hn := hS.2.1
    subst hp
    rw [L172_104]
    by_cases h : p < n
    · obtain ⟨k, rfl⟩ : ∃ k', k = k' + 1 := ⟨k - 1, by omega⟩
      have e : ps_at D n p = D p := by unfold ps_at; rw [if_pos h]
      rw [if_pos (by rw [hS.1]; omega), fn170_at hS p rfl, am_op_some, e]
      dsimp only
      rw [fn170_at hS p rfl, am_op_some, e]
      dsimp only
      rw [fn170_at hS p rfl, am_op_some, e]
      dsimp only
      rw [fn170_at hS p rfl, am_op_some, e]
      dsimp only
      rw [fn170_at hS p rfl, am_op_some, e]
      dsimp only
      unfold ps_pl
      rw [if_pos h]
      by_cases he : ps_end (D p) = true
      · rw [if_pos he]
        have he := of_decide_eq_true he
        refine ⟨μ, ?_, by rw [hK]; simp, fun i hi => by simp at hi, fun _ _ _ _ => rfl⟩
        repeat' split
        all_goals first | rfl | omega
      · rw [if_neg he]
        have he : ¬ (D p = 44 ∨ D p = 34 ∨ D p = 13 ∨ D p = 10) := fun z => he (decide_eq_true z)
        obtain ⟨d1, d2, d3⟩ := hS.2.2 p h
        obtain ⟨μ1, m1, m2, m3, m4⟩ := fn171_ok hK (by omega) d2 d3
        rw [if_neg (by omega), if_neg (by omega), if_neg (by omega), if_neg (by omega), m1, am_op_some]
        dsimp only
        rw [w32_id (by omega) (by omega)]
        obtain ⟨μ2, q1, q2, q3, q4⟩ := L172_104_ok k N ((p : Int) + 1) μ1 (p + 1) (K + 1) (by omega) (hS.fr (m4 240 1 (by omega) (by omega)) (fun i => m4 241 i (by omega) (by omega))) (by omega) (by omega) (by omega) m2 (by omega)
        refine ⟨μ2, q1, ?_, fun i hi => ?_, fun x y e1 e2 => ?_⟩
        · rw [q2, List.length_cons]; omega
        · rw [List.length_cons] at hi
          cases i with
          | zero =>
            rw [Nat.add_zero, q4 245 K (by omega) (by omega), m3]
            rfl
          | succ i =>
            rw [show K + (i + 1) = K + 1 + i by omega, q3 i (by omega)]
            rfl
        · rw [q4 x y e1 (by omega), m4 x y e1 (by omega)]
    · have e : ps_pl D n k p = ([], p) := by
        cases k with
        | zero => rfl
        | succ k => unfold ps_pl; rw [if_neg h]
      rw [if_neg (by rw [hS.1]; omega), e]
      exact ⟨μ, rfl, by rw [hK]; simp, fun i hi => by simp at hi, fun _ _ _ _ => rfl⟩
theorem L172_30_ok {D : Nat → Int} {n : Nat} : ∀ (k N : Nat) (a : Int) (μ : am_M) (p K : Nat), k + 1 < N → RSrc μ D n → a = p → p ≤ n → n - p ≤ k → μ 240 12 = K → K ≤ p →
    ∃ μ', L172_30 240 N a 1 μ = some (if (ps_qu D n k p).2.2 = true then .inr ((((ps_qu D n k p).2.1 : Nat) : Int), 0, μ') else .inl (-1, μ')) ∧ μ' 240 12 = ((K + (ps_qu D n k p).1.length : Nat) : Int) ∧ (∀ i, i < (ps_qu D n k p).1.length → μ' 245 (K + i) = (ps_qu D n k p).1.getD i 0) ∧ Fk K μ μ'
  | k, 0, _, _, _, _, hN, _, _, _, _, _, _ => absurd hN (by omega)
  | k, N + 1, a, μ, p, K, hN, hS, hp, hpn, hk, hK, hKp => by
    have hn := hS.2.1
    subst hp
    rw [L172_30, if_neg (by decide)]
    by_cases h : p < n
    · obtain ⟨k, rfl⟩ : ∃ k', k = k' + 1 := ⟨k - 1, by omega⟩
      have e : ps_at D n p = D p := by unfold ps_at; rw [if_pos h]
      rw [if_pos (by rw [hS.1]; omega), fn170_at hS p rfl, am_op_some, e]
      dsimp only
      obtain ⟨d1, d2, d3⟩ := hS.2.2 p h
      unfold ps_qu
      rw [if_pos h]
      by_cases hq : D p = 34
      · rw [if_pos hq, if_pos hq, w32_id (x := (p : Int) + 1) (by omega) (by omega), fn170_at hS (p + 1) (by omega), am_op_some]
        dsimp only
        by_cases hq2 : ps_at D n (p + 1) = 34
        · have hp2 : p + 2 ≤ n := by
            unfold ps_at at hq2
            split at hq2
            · omega
            · omega
          rw [if_pos hq2, if_pos hq2]
          obtain ⟨μ1, m1, m2, m3, m4⟩ := fn171_ok hK (by omega) (c := 34) (by omega) (by omega)
          rw [m1, am_op_some]
          dsimp only
          rw [w32_id (by omega) (by omega)]
          obtain ⟨μ2, q1, q2, q3, q4⟩ := L172_30_ok k N ((p : Int) + 2) μ1 (p + 2) (K + 1) (by omega) (hS.fr (m4 240 1 (by omega) (by omega)) (fun i => m4 241 i (by omega) (by omega))) (by omega) (by omega) (by omega) m2 (by omega)
          refine ⟨μ2, q1, ?_, fun i hi => ?_, fun x y e1 e2 => ?_⟩
          · rw [q2, List.length_cons]; omega
          · rw [List.length_cons] at hi
            cases i with
            | zero =>
              rw [Nat.add_zero, q4 245 K (by omega) (by omega), m3]
              rfl
            | succ i =>
              rw [show K + (i + 1) = K + 1 + i by omega, q3 i (by omega)]
              rfl
          · rw [q4 x y e1 (by omega), m4 x y e1 (by omega)]
        · rw [if_neg hq2, if_neg hq2]
          obtain ⟨N, rfl⟩ : ∃ N', N = N' + 1 := ⟨N - 1, by omega⟩
          rw [L172_30, if_pos rfl]
          refine ⟨μ, ?_, by rw [hK]; simp, fun i hi => by simp at hi, fun _ _ _ _ => rfl⟩
          rw [if_pos rfl]
          rfl
      · rw [if_neg hq, if_neg hq, fn170_at hS p rfl, am_op_some, e]
        dsimp only
        obtain ⟨μ1, m1, m2, m3, m4⟩ := fn171_ok hK (by omega) d2 d3
        rw [m1, am_op_some]
        dsimp only
        rw [w32_id (by omega) (by omega)]
        obtain ⟨μ2, q1, q2, q3, q4⟩ := L172_30_ok k N ((p : Int) + 1) μ1 (p + 1) (K + 1) (by omega) (hS.fr (m4 240 1 (by omega) (by omega)) (fun i => m4 241 i (by omega) (by omega))) (by omega) (by omega) (by omega) m2 (by omega)
        refine ⟨μ2, q1, ?_, fun i hi => ?_, fun x y e1 e2 => ?_⟩
        · rw [q2, List.length_cons]; omega
        · rw [List.length_cons] at hi
          cases i with
          | zero =>
            rw [Nat.add_zero, q4 245 K (by omega) (by omega), m3]
            rfl
          | succ i =>
            rw [show K + (i + 1) = K + 1 + i by omega, q3 i (by omega)]
            rfl
        · rw [q4 x y e1 (by omega), m4 x y e1 (by omega)]
    · have e : ps_qu D n k p = ([], p, false) := by
        cases k with
        | zero => rfl
        | succ k => unfold ps_qu; rw [if_neg h]
      rw [if_neg (by rw [hS.1]; omega), e]
      refine ⟨μ, ?_, by rw [hK]; simp, fun i hi => by simp at hi, fun _ _ _ _ => rfl⟩
      rw [if_neg (fun z => Bool.false_ne_true z)]
/-- where field changes something -/
def Fg (F K : Nat) (μ μ' : am_M) : Prop := ∀ c s, ¬ (c = 240 ∧ (s = 9 ∨ s = 12)) → ¬ (c = 243 ∧ s = F) → ¬ (c = 244 ∧ s = F) → ¬ (c = 245 ∧ K ≤ s) → μ' c s = μ c s
theorem fn172_ok {D : Nat → Int} {n p F K : Nat} {a : Int} {μ : am_M} (hS : RSrc μ D n) (hp : a = p) (hpn : p ≤ n) (hF : μ 240 9 = F) (hF2 : F < 420) (hK : μ 240 12 = K) (hKp : K ≤ p) :
    ((ps_fd D n p).2.2 = false → ∃ μ', fn172 240 a μ = some (-1, μ') ∧ Fg F K μ μ') ∧
    ((ps_fd D n p).2.2 = true → ∃ μ', fn172 240 a μ = some ((((ps_fd D n p).2.1 : Nat) : Int), μ') ∧ μ' 240 9 = ((F + 1 : Nat) : Int) ∧ μ' 240 12 = ((K + (ps_fd D n p).1.length : Nat) : Int) ∧ μ' 243 F = K ∧ μ' 244 F = (((ps_fd D n p).1.length : Nat) : Int) ∧ (∀ i, i < (ps_fd D n p).1.length → μ' 245 (K + i) = (ps_fd D n p).1.getD i 0) ∧ Fg F K μ μ') := by
  have hn := hS.2.1
  subst hp
  have hfd := ps_fd_le D hpn
  -- the end of field
  have key : ∀ (m : am_M) (l : List Int) (q : Nat), m 240 12 = ((K + l.length : Nat) : Int) → K + l.length ≤ 400 → (∀ i, i < l.length → m 245 (K + i) = l.getD i 0) → Fk K (am_up μ 243 F (K : Int)) m →
      ∃ μ', (if (0 : Int) ≤ m 240 9 ∧ m 240 9 < ((420 : Nat) : Int) then (if (0 : Int) ≤ m 240 9 ∧ m 240 9 < ((420 : Nat) : Int) then some ((q : Int), am_up (am_up m 244 (m 240 9 : Int).toNat (w32 ((m 240 12) - (m 243 (m 240 9 : Int).toNat)))) 240 9 (w32 (((am_up m 244 (m 240 9 : Int).toNat (w32 ((m 240 12) - (m 243 (m 240 9 : Int).toNat)))) 240 9) + 1))) else none) else none) = some ((q : Int), μ') ∧ μ' 240 9 = ((F + 1 : Nat) : Int) ∧ μ' 240 12 = ((K + l.length : Nat) : Int) ∧ μ' 243 F = K ∧ μ' 244 F = ((l.length : Nat) : Int) ∧ (∀ i, i < l.length → μ' 245 (K + i) = l.getD i 0) ∧ Fg F K μ μ' := by
    intro m l q k1 k2 k3 k4
    have m9 : m 240 9 = F := by rw [k4 240 9 (by omega) (by omega), am_up_c _ _ (by decide), hF]
    have m43 : m 243 F = K := by rw [k4 243 F (by omega) (by omega), am_up_at]
    have e9 : (m 240 9 : Int).toNat = F := by rw [m9]; rfl
    rw [if_pos (by rw [m9]; omega), if_pos (by rw [m9]; omega), e9, m43, k1, am_up_c _ _ (by decide), m9, w32_id (x := ((K + l.length : Nat) : Int) - (K : Int)) (by omega) (by omega), w32_id (by omega) (by omega)]
    refine ⟨_, rfl, ?_, ?_, ?_, ?_, fun i hi => ?_, fun c s e1 e2 e3 e4 => ?_⟩
    · rw [am_up_at]; omega
    · rw [am_up_s _ _ (by decide), am_up_c _ _ (by decide), k1]
    · rw [am_up_c _ _ (by decide), am_up_c _ _ (by decide), m43]
    · rw [am_up_c _ _ (by decide), am_up_at]; omega
    · rw [am_up_c _ _ (by decide), am_up_c _ _ (by decide)]; exact k3 i hi
    · have z : (am_up m 244 F (((K + l.length : Nat) : Int) - (K : Int))) c s = m c s := by
        by_cases hx : c = 244
        · rw [am_up_s _ _ (by omega)]
        · rw [am_up_c _ _ hx]
      have z2 : m c s = μ c s := by
        rw [k4 c s (by omega) e4]
        by_cases hx : c = 243
        · rw [am_up_s _ _ (by omega)]
        · rw [am_up_c _ _ hx]
      by_cases hx : c = 240
      · rw [am_up_s _ _ (by omega), z, z2]
      · rw [am_up_c _ _ hx, z, z2]
  have hS1 : RSrc (am_up μ 243 F (K : Int)) D n := hS.fr (am_up_c _ _ (by decide)) (fun i => am_up_c _ _ (by decide))
  have hK1 : (am_up μ 243 F (K : Int)) 240 12 = K := by rw [am_up_c _ _ (by decide), hK]
  unfold fn172
  rw [rf_3.2.2.1, rf_3.2.2.2.1, rf_3.2.2.2.2.1, rf_3.2.2.2.2.2.1, if_pos (by rw [hF]; omega), hF, hK, Int.toNat_natCast, fn170_at hS1 p rfl, am_op_some]
  dsimp only
  unfold ps_fd at hfd ⊢
  by_cases hq : ps_at D n p = 34
  · rw [if_pos hq] at hfd ⊢
    have hpl : p < n := by
      unfold ps_at at hq
      split at hq
      · assumption
      · omega
    rw [if_pos hq, w32_id (by omega) (by omega)]
    obtain ⟨μ1, q1, q2, q3, q4⟩ := L172_30_ok n am_fuel ((p : Int) + 1) (am_up μ 243 F (K : Int)) (p + 1) K (by unfold am_fuel; omega) hS1 (by omega) (by omega) (by omega) hK1 (by omega)
    rw [q1, am_op_some]
    refine ⟨fun hcl => ?_, fun hcl => ?_⟩
    · rw [if_neg (by rw [hcl]; decide), am_lp_l]
      refine ⟨μ1, rfl, fun c s e1 e2 e3 e4 => ?_⟩
      rw [q4 c s (by omega) e4]
      by_cases hx : c = 243
      · rw [am_up_s _ _ (by omega)]
      · rw [am_up_c _ _ hx]
    · rw [if_pos hcl, am_lp_r]
      exact key μ1 _ _ q2 (by omega) q3 q4
  · rw [if_neg hq] at hfd ⊢
    rw [if_neg hq]
    obtain ⟨μ1, q1, q2, q3, q4⟩ := L172_104_ok n am_fuel (p : Int) (am_up μ 243 F (K : Int)) p K (by unfold am_fuel; omega) hS1 rfl hpn (by omega) hK1 hKp
    rw [q1, am_op_some, am_lp_r]
    refine ⟨(fun hcl => by cases hcl), fun _ => ?_⟩
    exact key μ1 (ps_pl D n n p).1 (ps_pl D n n p).2 q2 (by have h1 := ps_pl_le D n n p hpn; omega) q3 q4
