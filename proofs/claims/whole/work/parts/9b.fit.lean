/-! The ticks: class. -/
theorem st_fc {lo hi : Int} (h1 : -5000000000000000 ≤ lo) (h2 : lo < hi) (h3 : hi ≤ 5000000000000000) {i : Nat} (hi36 : i < 36) :
    st_a lo i * st_v i * 27720 ≤ lo ∧ lo < st_a lo i * st_v i * 27720 + st_v i * 27720 ∧ hi ≤ st_b hi i * st_v i * 27720 ∧ st_b hi i * st_v i * 27720 < hi + st_v i * 27720 ∧ st_b hi i * st_v i - st_a lo i * st_v i = (st_b hi i - st_a lo i) * st_v i ∧ 1 ≤ st_b hi i - st_a lo i ∧ st_b hi i - st_a lo i ≤ 400000000000 := by
  have hs := st_rng i hi36
  have a1 := fl_rng (a := lo) (b := st_v i * 27720) (by omega)
  have b1 := fl_rng (a := -hi) (b := st_v i * 27720) (by omega)
  have e1 : lo / (st_v i * 27720) * (st_v i * 27720) = st_a lo i * st_v i * 27720 := by unfold st_a; rw [Int.mul_assoc]
  have e2 : (-hi) / (st_v i * 27720) * (st_v i * 27720) = -(st_b hi i * st_v i * 27720) := by unfold st_b; rw [Int.neg_mul, Int.neg_mul, Int.neg_neg, Int.mul_assoc]
  rw [e1] at a1
  rw [e2] at b1
  have e3 : st_b hi i * st_v i - st_a lo i * st_v i = (st_b hi i - st_a lo i) * st_v i := by rw [Int.sub_mul]
  refine ⟨a1.1, a1.2, by omega, by omega, e3, ?_, ?_⟩
  · have : 0 < (st_b hi i - st_a lo i) * st_v i := by rw [← e3]; omega
    by_cases q : 1 ≤ st_b hi i - st_a lo i
    · exact q
    · exfalso
      have : (st_b hi i - st_a lo i) * st_v i ≤ 0 := Int.mul_nonpos_of_nonpos_of_nonneg (by omega) (by omega)
      omega
  · by_cases q : st_b hi i - st_a lo i ≤ 400000000000
    · exact q
    · exfalso
      have h5 : 400000000001 * st_v i ≤ (st_b hi i - st_a lo i) * st_v i := Int.mul_le_mul_of_nonneg_right (by omega) (by omega)
      rw [← e3] at h5
      omega
theorem st_pw : ∀ i, i < 36 → pw (i / 3) ≤ 100000000000 ∧ 1 ≤ pw (i / 3) ∧ am_cst 1 (i % 3) * pw (i / 3) = st_v i ∧ pw ((i + 1) / 3) = (if i % 3 = 2 then pw (i / 3) * 10 else pw (i / 3)) := by decide +kernel
theorem clen_1 : am_clen 1 = 3 := by decide +kernel
theorem st_f_ok {ok : Nat → Bool} (h35 : ok 35 = true) : ∀ k i, i + k = 36 → i ≤ 35 → ok (st_f ok k i) = true ∧ i ≤ st_f ok k i ∧ st_f ok k i ≤ 35
  | 0, i, h1, h2 => absurd h1 (by omega)
  | k + 1, i, h1, h2 => by
    unfold st_f
    cases ho : ok i with
    | true => rw [if_pos rfl]; exact ⟨ho, by omega, h2⟩
    | false =>
      rw [if_neg (by decide)]
      have : i ≠ 35 := fun e => by rw [e, h35] at ho; cases ho
      have z := st_f_ok h35 k (i + 1) (by omega) (by omega)
      exact ⟨z.1, by omega, z.2.2⟩
theorem L113_ok {lo hi tk : Int} (h1 : -5000000000000000 ≤ lo) (h2 : lo < hi) (h3 : hi ≤ 5000000000000000) (ht : 3 ≤ tk ∧ tk ≤ 9) : ∀ (k N i : Nat) (μ : am_M) (y : Int), k < N → y = i → i + k = 36 → i ≤ 35 → μ 230 0 = lo → μ 230 1 = hi → ∃ a b c μ', L113_8 230 tk N (pw (i / 3)) 0 y μ = some (.inr (a, b, c, μ')) ∧ μ' 230 2 = st_v (st_f (st_ok lo hi tk) k i) ∧ μ' 230 3 = st_a lo (st_f (st_ok lo hi tk) k i) * st_v (st_f (st_ok lo hi tk) k i) ∧ μ' 230 4 = st_b hi (st_f (st_ok lo hi tk) k i) * st_v (st_f (st_ok lo hi tk) k i) ∧ ∀ c t, ¬ (c = 230 ∧ 2 ≤ t) → μ' c t = μ c t
  | k, 0, _, _, _, hN, _, _, _, _, _ => absurd hN (by omega)
  | 0, N + 1, i, μ, y, hN, hy, hk, hi35, h0, h01 => absurd hk (by omega)
  | k + 1, N + 1, i, μ, y, hN, hy, hk, hi35, h0, h01 => by
    obtain ⟨p1, p2, p3, p4⟩ := st_pw i (by omega)
    have hs := st_rng i (by omega)
    obtain ⟨f1, f2, f3, f4, f5, f6, f7⟩ := st_fc h1 h2 h3 (i := i) (by omega)
    have e3 : o_rem y (((am_clen 1 : Nat)) : Int) = ((i % 3 : Nat) : Int) := by rw [clen_1, o_rem_nn (by omega) (by omega) (by omega) (by omega), hy]; rfl
    rw [L113_8, if_pos rfl, if_pos (by omega), if_neg (by rw [clen_1]; decide), if_pos (by rw [e3, clen_1]; omega), e3, Int.toNat_natCast, p3, w64_id (x := st_v i) (by omega) (by omega)]
    have g0 : ∀ c t, ¬ (c = 230 ∧ t = 2) → am_up μ 230 2 (st_v i) c t = μ c t := fun c t hc => up_ne hc
    have g2 : am_up μ 230 2 (st_v i) 230 2 = st_v i := am_up_at _ _ _ _
    generalize am_up μ 230 2 (st_v i) = μ1 at *
    have l0 : μ1 230 0 = lo := by rw [g0 _ _ (by omega)]; exact h0
    have l1 : μ1 230 1 = hi := by rw [g0 _ _ (by omega)]; exact h01
    have ea : lo / (st_v i * 27720) = st_a lo i := rfl
    rw [g2, l0, w64_id (x := st_v i * 27720) (by omega) (by omega), fn112_ok (a := lo) (b := st_v i * 27720) ⟨by omega, by omega⟩ ⟨by omega, by omega⟩ (by omega), am_op_some]
    dsimp only
    rw [g2, ea, w64_id (x := st_a lo i * st_v i) (by omega) (by omega)]
    have g3 : ∀ c t, ¬ (c = 230 ∧ t = 3) → am_up μ1 230 3 (st_a lo i * st_v i) c t = μ1 c t := fun c t hc => up_ne hc
    have g33 : am_up μ1 230 3 (st_a lo i * st_v i) 230 3 = st_a lo i * st_v i := am_up_at _ _ _ _
    generalize am_up μ1 230 3 (st_a lo i * st_v i) = μ2 at *
    have l1' : μ2 230 1 = hi := by rw [g3 _ _ (by omega)]; exact l1
    have eb : (-hi) / (st_v i * 27720) = -(st_b hi i) := by unfold st_b; rw [Int.neg_neg]
    have hq : -500000000000000000 ≤ st_b hi i ∧ st_b hi i ≤ 500000000000000000 := by
      have := fl_abs (a := -hi) (b := st_v i * 27720) (B := 5000000000000000) (by omega) (by omega) (by omega) (by omega)
      unfold st_b; omega
    rw [l1', w64_id (x := -hi) (by omega) (by omega), fn112_ok (a := -hi) (b := st_v i * 27720) ⟨by omega, by omega⟩ ⟨by omega, by omega⟩ (by omega), am_op_some]
    dsimp only
    have l2' : μ2 230 2 = st_v i := by rw [g3 _ _ (by omega)]; exact g2
    rw [eb, Int.neg_neg, w64_id (x := st_b hi i) (by omega) (by omega)]
    have g4 : ∀ c t, ¬ (c = 230 ∧ t = 4) → am_up μ2 230 4 (w64 (st_b hi i * μ2 230 2)) c t = μ2 c t := fun c t hc => up_ne hc
    have g44 : am_up μ2 230 4 (w64 (st_b hi i * μ2 230 2)) 230 4 = st_b hi i * st_v i := by rw [am_up_at, l2', w64_id (x := st_b hi i * st_v i) (by omega) (by omega)]
    generalize am_up μ2 230 4 (w64 (st_b hi i * μ2 230 2)) = μ3 at *
    have m2 : μ3 230 2 = st_v i := by rw [g4 _ _ (by omega)]; exact l2'
    have m3 : μ3 230 3 = st_a lo i * st_v i := by rw [g4 _ _ (by omega)]; exact g33
    have F : ∀ c t, ¬ (c = 230 ∧ 2 ≤ t) → μ3 c t = μ c t := fun c t hc => by rw [g4 c t (by omega), g3 c t (by omega), g0 c t (by omega)]
    have ed : o_divl (w64 (μ3 230 4 - μ3 230 3)) (μ3 230 2) = st_b hi i - st_a lo i := by
      have pos : 0 ≤ (st_b hi i - st_a lo i) * st_v i := Int.mul_nonneg (by omega) (by omega)
      have le : (st_b hi i - st_a lo i) * st_v i ≤ 9000000000000000000 := by rw [← f5]; omega
      rw [g44, m3, m2, f5, w64_id (by omega) (by omega), o_divl_nn pos (by omega) (by omega) (by omega), Int.mul_ediv_cancel _ (by omega)]
    rw [if_neg (by rw [m2]; omega), ed, w64_id (x := st_b hi i - st_a lo i + 1) (by omega) (by omega)]
    have ec : w32 ((((am_clen 1 : Nat)) : Int) - 1) = 2 := by rw [clen_1]; decide
    rw [ec, w32_id (x := y + 1) (by omega) (by omega)]
    have nz : ¬ ((((am_clen 1 : Nat)) : Int) = 0) := by rw [clen_1]; decide
    unfold st_f
    by_cases hok : st_b hi i - st_a lo i + 1 ≤ tk
    · have eo : st_ok lo hi tk i = true := decide_eq_true hok
      have stop : ∀ p y', ∃ a b c μ', L113_8 230 tk N p 1 y' μ3 = some (.inr (a, b, c, μ')) ∧ μ' 230 2 = st_v i ∧ μ' 230 3 = st_a lo i * st_v i ∧ μ' 230 4 = st_b hi i * st_v i ∧ ∀ c t, ¬ (c = 230 ∧ 2 ≤ t) → μ' c t = μ c t := fun p y' => by
        obtain ⟨N', rfl⟩ : ∃ N', N = N' + 1 := ⟨N - 1, by omega⟩
        rw [L113_8, if_neg (by decide)]
        exact ⟨_, _, _, _, rfl, m2, m3, g44, F⟩
      rw [if_neg (fun z => by have := o_cmp_gt.mp z; omega), if_neg nz, eo, if_pos (show true = true from rfl)]
      by_cases q : ((i % 3 : Nat) : Int) = 2
      · rw [if_pos q]; exact stop _ _
      · rw [if_neg q]; exact stop _ _
    · have eo : st_ok lo hi tk i = false := decide_eq_false hok
      have hi2 : i ≠ 35 := fun e => by
        have := st_ok_35 (lo := lo) (hi := hi) (tk := tk) (by omega) (by omega) (by omega) (by omega) ht.1
        rw [← e, eo] at this; cases this
      have go : ∃ a b c μ', L113_8 230 tk N (pw ((i + 1) / 3)) 0 (y + 1) μ3 = some (.inr (a, b, c, μ')) ∧ μ' 230 2 = st_v (st_f (st_ok lo hi tk) k (i + 1)) ∧ μ' 230 3 = st_a lo (st_f (st_ok lo hi tk) k (i + 1)) * st_v (st_f (st_ok lo hi tk) k (i + 1)) ∧ μ' 230 4 = st_b hi (st_f (st_ok lo hi tk) k (i + 1)) * st_v (st_f (st_ok lo hi tk) k (i + 1)) ∧ ∀ c t, ¬ (c = 230 ∧ 2 ≤ t) → μ' c t = μ c t := by
        obtain ⟨a, b, c, μ', r1, r2, r3, r4, r5⟩ := L113_ok h1 h2 h3 ht k N (i + 1) μ3 (y + 1) (by omega) (by omega) (by omega) (by omega) (by rw [F _ _ (by omega)]; exact h0) (by rw [F _ _ (by omega)]; exact h01)
        exact ⟨a, b, c, μ', r1, r2, r3, r4, fun c t hc => by rw [r5 c t hc, F c t hc]⟩
      rw [if_pos (o_cmp_gt.mpr (by omega)), if_neg nz, eo, if_neg (show ¬ (false = true) by decide)]
      by_cases q : ((i % 3 : Nat) : Int) = 2
      · rw [if_pos q, w64_id (by omega) (by omega)]
        rw [p4, if_pos (by omega)] at go
        exact go
      · rw [if_neg q]
        rw [p4, if_neg (by omega)] at go
        exact go
/-- the scale: step, first and last -/
def sc_i (lo hi tk : Int) : Nat := st_f (st_ok lo hi tk) 36 0
def SC (lo hi tk : Int) (μ : am_M) : Prop := μ 230 2 = st_v (sc_i lo hi tk) ∧ μ 230 3 = st_a lo (sc_i lo hi tk) * st_v (sc_i lo hi tk) ∧ μ 230 4 = st_b hi (sc_i lo hi tk) * st_v (sc_i lo hi tk)
theorem fn113_ok {lo hi tk : Int} (h1 : -5000000000000000 ≤ lo) (h2 : lo < hi) (h3 : hi ≤ 5000000000000000) (ht : 3 ≤ tk ∧ tk ≤ 9) {μ : am_M} (h0 : μ 230 0 = lo) (h01 : μ 230 1 = hi) : ∃ μ', fn113 230 tk μ = some (0, μ') ∧ SC lo hi tk μ' ∧ ∀ c t, ¬ (c = 230 ∧ 2 ≤ t) → μ' c t = μ c t := by
  obtain ⟨a, b, c, μ', r1, r2, r3, r4, r5⟩ := L113_ok h1 h2 h3 ht 36 am_fuel 0 μ 0 (by unfold am_fuel; omega) rfl (by omega) (by omega) h0 h01
  unfold fn113
  rw [show L113_8 230 tk am_fuel 1 0 0 μ = _ from r1, am_op_some, am_lp_r]
  exact ⟨μ', rfl, ⟨r2, r3, r4⟩, r5⟩
theorem fn114_ok {M S : Nat} {seg : Nat → Nat → Int} {lab : Nat → List Int} {O : List Nat} {μ : am_M} {mk tk0 : Int} (hmk : μ 141 5 = mk) (htk : μ 141 12 = tk0) (ht : tk0 = 0 ∨ (3 ≤ tk0 ∧ tk0 ≤ 9)) (hB : sB seg) (hM : M ≤ 12) (hS : S ≤ 12) (hO : O.length ≤ 12) (hO1 : 1 ≤ O.length) (hOm : ∀ g ∈ O, g < M) (hG : GC M S seg lab O μ) : ∃ μ', fn114 230 196 141 μ = some (0, μ') ∧ SC (e_1 (e_0 mk seg S O)).1 (e_1 (e_0 mk seg S O)).2 (if tk0 = 0 then 5 else tk0) μ' ∧ ∀ c t, c ≠ 230 → μ' c t = μ c t := by
  have er := e_1_rng (O := O) hB hS mk
  have er0 := e_0_rng (O := O) hB hS mk
  have tail : ∀ μ1 : am_M, μ1 230 0 = (e_0 mk seg S O).1 → μ1 230 1 = (e_0 mk seg S O).2 → (∀ c t, c ≠ 230 → μ1 c t = μ c t) → ∃ μ', (if o_cmp (μ1 230 0) (μ1 230 1) = 0 then (am_op (fn111 141 (am_up (am_up μ1 230 0 (w64 ((μ1 230 0) - 27720000))) 230 1 (w64 (((am_up μ1 230 0 (w64 ((μ1 230 0) - 27720000))) 230 1) + 27720000)))) (fun z10 => (am_op (fn113 230 z10.1 z10.2) (fun z11 => some (0, z11.2))))) else (am_op (fn111 141 μ1) (fun z8 => (am_op (fn113 230 z8.1 z8.2) (fun z9 => some (0, z9.2))))) : Option (Int × am_M)) = some (0, μ') ∧ SC (e_1 (e_0 mk seg S O)).1 (e_1 (e_0 mk seg S O)).2 (if tk0 = 0 then 5 else tk0) μ' ∧ ∀ c t, c ≠ 230 → μ' c t = μ c t := by
    intro μ1 b0 b1 bF
    have fin : ∀ μ2 : am_M, μ2 230 0 = (e_1 (e_0 mk seg S O)).1 → μ2 230 1 = (e_1 (e_0 mk seg S O)).2 → (∀ c t, c ≠ 230 → μ2 c t = μ c t) → ∃ μ', (am_op (fn111 141 μ2) (fun z8 => (am_op (fn113 230 z8.1 z8.2) (fun z9 => some (0, z9.2)))) : Option (Int × am_M)) = some (0, μ') ∧ SC (e_1 (e_0 mk seg S O)).1 (e_1 (e_0 mk seg S O)).2 (if tk0 = 0 then 5 else tk0) μ' ∧ ∀ c t, c ≠ 230 → μ' c t = μ c t := by
      intro μ2 c0 c1 cF
      have e12 : μ2 141 12 = tk0 := by rw [cF _ _ (by decide)]; exact htk
      have e111 : fn111 141 μ2 = some (if tk0 = 0 then 5 else tk0, μ2) := by
        unfold fn111
        by_cases z : tk0 = 0
        · rw [if_pos (by rw [e12]; exact z), if_pos z]
        · rw [if_neg (by rw [e12]; exact z), if_neg z, e12]
      obtain ⟨μ3, q1, q2, q3⟩ := fn113_ok (lo := (e_1 (e_0 mk seg S O)).1) (hi := (e_1 (e_0 mk seg S O)).2) (tk := if tk0 = 0 then 5 else tk0) er.1 er.2.1 er.2.2 (by split <;> omega) c0 c1
      rw [e111, am_op_some]
      dsimp only
      rw [q1, am_op_some]
      exact ⟨μ3, rfl, q2, fun c t hc => by rw [q3 c t (by omega), cF c t hc]⟩
    by_cases he : (e_0 mk seg S O).1 = (e_0 mk seg S O).2
    · have e1 : (e_1 (e_0 mk seg S O)) = ((e_0 mk seg S O).1 - 27720000, (e_0 mk seg S O).2 + 27720000) := by unfold e_1; rw [if_pos he]
      rw [if_pos (by rw [o_cmp_eq, b0, b1]; exact he)]
      refine fin _ ?_ ?_ (fun c t hc => by rw [am_up_c _ _ hc, am_up_c _ _ hc, bF c t hc])
      · rw [am_up_s _ _ (by decide), am_up_at, e1, b0, w64_id (by omega) (by omega)]
      · rw [am_up_at, am_up_s _ _ (by decide), e1, b1, w64_id (by omega) (by omega)]
    · have e1 : (e_1 (e_0 mk seg S O)) = (e_0 mk seg S O) := by unfold e_1; rw [if_neg he]
      rw [if_neg (by rw [o_cmp_eq, b0, b1]; exact he)]
      exact fin μ1 (by rw [e1]; exact b0) (by rw [e1]; exact b1) bF
  unfold fn114 fn102
  rw [am_op_some]
  dsimp only
  by_cases m0 : mk = 0
  · rw [if_pos (by rw [hmk]; exact m0)]
    have g0 : ∀ c t, ¬ (c = 230 ∧ t ≤ 1) → am_up (am_up μ 230 0 0) 230 1 0 c t = μ c t := fun c t hc => by rw [up_ne (by omega), up_ne (by omega)]
    obtain ⟨y', μ1, r1, r2, r3, r4⟩ := L108_12_ok hB hM hS hO hOm O.length am_fuel 0 (am_up (am_up μ 230 0 0) 230 1 0) 0 (by unfold am_fuel; omega) rfl (by omega) (hG.fr hM (fun c t c1 c2 => g0 c t (by omega))) (by rw [am_up_s _ _ (by decide), am_up_at]; rfl) (by rw [am_up_at]; rfl)
    unfold fn108
    rw [r1, am_op_some, am_lp_r, am_op_some]
    have e : e_0 mk seg S O = e_bar seg S O O.length := by unfold e_0; rw [if_pos m0]
    exact tail μ1 (by rw [e]; exact r2) (by rw [e]; exact r3) (fun c t hc => by rw [r4 c t (by omega), g0 c t (by omega)])
  · rw [if_neg (by rw [hmk]; exact m0)]
    unfold fn110
    rw [fn109_ok hG hM hO hOm (i := 0) (by omega) (x := 0) rfl, am_op_some]
    dsimp only
    have g0 : ∀ c t, ¬ (c = 230 ∧ t ≤ 1) → am_up (am_up μ 230 0 (dsum (seg (O.getD 0 0)) S)) 230 1 (am_up μ 230 0 (dsum (seg (O.getD 0 0)) S) 230 0) c t = μ c t := fun c t hc => by rw [up_ne (by omega), up_ne (by omega)]
    have ev : e_val seg S O 1 = (dsum (seg (O.getD 0 0)) S, dsum (seg (O.getD 0 0)) S) := by
      unfold e_val e_val
      dsimp only
      rw [show min (dsum (seg (O.getD 0 0)) S) (dsum (seg (O.getD 0 0)) S) = dsum (seg (O.getD 0 0)) S by omega, show max (dsum (seg (O.getD 0 0)) S) (dsum (seg (O.getD 0 0)) S) = dsum (seg (O.getD 0 0)) S by omega]
    obtain ⟨y', μ1, r1, r2, r3, r4⟩ := L110_ok hM hO hOm (O.length - 1) am_fuel 1 (am_up (am_up μ 230 0 (dsum (seg (O.getD 0 0)) S)) 230 1 (am_up μ 230 0 (dsum (seg (O.getD 0 0)) S) 230 0)) 1 (by unfold am_fuel; omega) rfl (by omega) (hG.fr hM (fun c t c1 c2 => g0 c t (by omega))) (by rw [am_up_s _ _ (by decide), am_up_at, ev]) (by rw [am_up_at, am_up_at, ev])
    rw [r1, am_op_some, am_lp_r, am_op_some]
    have e : e_0 mk seg S O = e_val seg S O O.length := by unfold e_0; rw [if_neg m0]
    exact tail μ1 (by rw [e]; exact r2) (by rw [e]; exact r3) (fun c t hc => by rw [r4 c t (by omega), g0 c t (by omega)])
