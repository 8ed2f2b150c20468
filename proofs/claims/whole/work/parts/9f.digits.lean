/-! A tick's label. -/
def n_ok (w : Int) (m : Nat) : Bool := decide (w / pw m ≤ 9)
def n_u (w : Int) : Nat := st_f (n_ok w) 12 0
def n_d (w : Int) : Nat → List Int
  | 0 => [48 + w / pw 0 % 10]
  | m + 1 => (48 + w / pw (m + 1) % 10) :: n_d w m
def n_f : Nat → Int → List Int
  | 0, r => if r = 0 then [] else [48 + r / pw 0]
  | k + 1, r => if r = 0 then [] else (48 + r / pw (k + 1)) :: n_f k (r % pw (k + 1))
def n_a (v : Int) : Int := if v < 0 then -v else v
def n_l (v : Int) : List Int := ((if v < 0 then [45] else []) ++ n_d (n_a v / 1000) (n_u (n_a v / 1000))) ++ (if n_a v % 1000 = 0 then [] else 46 :: n_f 2 (n_a v % 1000))
theorem st_f_le (ok : Nat → Bool) : ∀ k i, i ≤ st_f ok k i ∧ st_f ok k i ≤ i + k
  | 0, i => ⟨Nat.le_refl _, Nat.le_refl _⟩
  | k + 1, i => by
    unfold st_f
    split
    · omega
    · have := st_f_le ok k (i + 1); omega
theorem n_u_le (w : Int) : n_u w ≤ 12 := by have := st_f_le (n_ok w) 12 0; unfold n_u; omega
theorem n_d_len (w : Int) : ∀ m, (n_d w m).length = m + 1
  | 0 => rfl
  | m + 1 => by unfold n_d; rw [List.length_cons, n_d_len w m]
theorem n_f_len : ∀ k r, (n_f k r).length ≤ k + 1
  | 0, r => by unfold n_f; split <;> simp
  | k + 1, r => by
    unfold n_f
    split
    · simp
    · rw [List.length_cons]; have := n_f_len k (r % pw (k + 1)); omega
theorem n_l_len (v : Int) : 1 ≤ (n_l v).length ∧ (n_l v).length ≤ 18 := by
  have h1 := n_u_le (n_a v / 1000)
  have h2 := n_d_len (n_a v / 1000) (n_u (n_a v / 1000))
  have h3 := n_f_len 2 (n_a v % 1000)
  unfold n_l
  rw [List.length_append, List.length_append, h2]
  split <;> split <;> simp only [List.length_cons, List.length_nil] <;> omega
theorem pw_div : ∀ m, m < 12 → pw (m + 1) / 10 = pw m := fun m _ => by
  show 10 * pw m / 10 = pw m
  omega
section NC
variable {o a : Nat}
theorem Fo.trans {o a : Nat} {μ μ1 μ2 : am_M} (h : Fo o a μ μ1) (h2 : Fo o a μ1 μ2) : Fo o a μ μ2 := fun c s h3 h4 => by rw [h2 c s h3 h4, h c s h3 h4]
theorem Fo.refl (o a : Nat) (μ : am_M) : Fo o a μ μ := fun _ _ _ _ => rfl
theorem L118_5_ok {w : Int} (h0 : 0 ≤ w) (h1 : w ≤ 1000000000000) {μ : am_M} : ∀ (k N m : Nat) (y : Int), k < N → y = m → m + k = 12 → ∃ y', L118_5 o w N (pw m) y μ = some (.inr (pw (st_f (n_ok w) k m), y', μ))
  | k, 0, _, _, hN, _, _ => absurd hN (by omega)
  | 0, N + 1, m, y, hN, hy, hk => by
    have p := pw_12 m (by omega)
    have e : m = 12 := by omega
    have p12 : pw 12 = 1000000000000 := by decide
    rw [L118_5, if_pos (by omega), if_neg (by omega), o_divl_nn (by omega) (by omega) (by omega) (by omega), if_pos (o_cmp_lt.mpr (by rw [e, p12]; omega))]
    exact ⟨_, rfl⟩
  | k + 1, N + 1, m, y, hN, hy, hk => by
    have p := pw_12 m (by omega)
    have p2 := pw_12 (m + 1) (by omega)
    have ep : pw m * 10 = pw (m + 1) := Int.mul_comm _ _
    rw [L118_5, if_pos (by omega), if_neg (by omega), o_divl_nn (by omega) (by omega) (by omega) (by omega)]
    unfold st_f
    by_cases c : w / pw m ≤ 9
    · rw [if_pos (o_cmp_lt.mpr (by omega)), if_pos (show n_ok w m = true from decide_eq_true c)]
      exact ⟨_, rfl⟩
    · rw [if_neg (fun z => by have := o_cmp_lt.mp z; omega), if_neg (show ¬ (n_ok w m = true) from fun z => c (of_decide_eq_true z)), ep, w64_id (by omega) (by omega), w32_id (by omega) (by omega)]
      exact L118_5_ok h0 h1 k N (m + 1) (y + 1) (by omega) (by omega) (by omega)
theorem L118_37_s (hr : am_ref o 0 = a) (hc : am_len a = 24) (hoa : o ≠ a) {w : Int} (h0 : 0 ≤ w) (h1 : w ≤ 1000000000000) (m N : Nat) (μ : am_M) (l : List Int) (hm : m ≤ 12) (hl : l.length ≤ 100) (hL : Lt μ o a 24 l) : ∃ μ', L118_37 o w (N + 1) (pw m) μ = L118_37 o w N (pw m / 10) μ' ∧ Lt μ' o a 24 (l ++ [48 + w / pw m % 10]) ∧ Fo o a μ μ' := by
  have p := pw_12 m (by omega)
  have hq : 0 ≤ w / pw m := Int.ediv_nonneg h0 (by omega)
  have hq2 : w / pw m ≤ w := Int.ediv_le_self _ h0
  generalize hP : pw m = P at *
  have hv : o_i2c (o_l2i (w64 (48 + o_reml (o_divl w P) 10))) = 48 + w / P % 10 := by
    rw [o_divl_nn (by omega) (by omega) (by omega) (by omega), o_reml_nn hq (by omega) (by omega) (by omega), w64_id (by omega) (by omega), o_l2i_id (by omega) (by omega), o_i2c_id (by omega) (by omega)]
  obtain ⟨μ1, q1, q2, q3⟩ := fn17_ok hr hc hoa hL (by omega) (c := 48 + w / P % 10) (by omega) (by omega)
  rw [L118_37, if_pos (o_cmp_gt.mpr (by omega)), if_neg (by omega), hv, q1, am_op_some]
  dsimp only
  rw [o_divl_nn (by omega) (by omega) (by omega) (by omega)]
  exact ⟨μ1, rfl, q2, q3⟩
theorem L118_37_e (w : Int) (N : Nat) (μ : am_M) : L118_37 o w (N + 1) (pw 0 / 10) μ = some (.inr (0, μ)) := by
  rw [show pw 0 / 10 = 0 from by decide, L118_37, if_neg (by decide)]
theorem L118_37_ok (hr : am_ref o 0 = a) (hc : am_len a = 24) (hoa : o ≠ a) {w : Int} (h0 : 0 ≤ w) (h1 : w ≤ 1000000000000) : ∀ (m N : Nat) (μ : am_M) (l : List Int), m + 1 < N → m ≤ 12 → l.length + m ≤ 100 → Lt μ o a 24 l → ∃ y' μ', L118_37 o w N (pw m) μ = some (.inr (y', μ')) ∧ Lt μ' o a 24 (l ++ n_d w m) ∧ Fo o a μ μ' := by
  intro m
  induction m with
  | zero =>
    intro N μ l hN hm hl hL
    obtain ⟨N', rfl⟩ : ∃ N', N = N' + 1 + 1 := ⟨N - 2, by omega⟩
    obtain ⟨μ1, q1, q2, q3⟩ := L118_37_s hr hc hoa h0 h1 0 (N' + 1) μ l hm (by omega) hL
    rw [q1, L118_37_e]
    exact ⟨_, _, rfl, q2, q3⟩
  | succ m ih =>
    intro N μ l hN hm hl hL
    obtain ⟨N', rfl⟩ : ∃ N', N = N' + 1 := ⟨N - 1, by omega⟩
    obtain ⟨μ1, q1, q2, q3⟩ := L118_37_s hr hc hoa h0 h1 (m + 1) N' μ l hm (by omega) hL
    rw [q1, pw_div m (by omega)]
    obtain ⟨y', μ2, r1, r2, r3⟩ := ih N' μ1 _ (by omega) (by omega) (by simp; omega) q2
    refine ⟨y', μ2, r1, ?_, q3.trans r3⟩
    unfold n_d
    rw [List.append_assoc] at r2
    exact r2
theorem fn118_ok (hr : am_ref o 0 = a) (hc : am_len a = 24) (hoa : o ≠ a) {w : Int} (h0 : 0 ≤ w) (h1 : w ≤ 1000000000000) {μ : am_M} {l : List Int} (hl : l.length ≤ 10) (hL : Lt μ o a 24 l) : ∃ μ', fn118 o w μ = some (0, μ') ∧ Lt μ' o a 24 (l ++ n_d w (n_u w)) ∧ Fo o a μ μ' := by
  obtain ⟨y1, q1⟩ := L118_5_ok (o := o) h0 h1 (μ := μ) 12 am_fuel 0 0 (by unfold am_fuel; omega) rfl rfl
  have hu := n_u_le w
  obtain ⟨y2, μ2, r1, r2, r3⟩ := L118_37_ok hr hc hoa h0 h1 (n_u w) am_fuel μ l (by unfold am_fuel; omega) hu (by omega) hL
  unfold fn118
  rw [show L118_5 o w am_fuel 1 0 μ = _ from q1, am_op_some, am_lp_r]
  dsimp only
  rw [show L118_37 o w am_fuel (pw (st_f (n_ok w) 12 0)) μ = _ from r1, am_op_some, am_lp_r]
  exact ⟨_, rfl, r2, r3⟩
theorem L119_ok (hr : am_ref o 0 = a) (hc : am_len a = 24) (hoa : o ≠ a) : ∀ (k N : Nat) (μ : am_M) (l : List Int) (r u : Int), k + 1 < N → k ≤ 2 → u = pw k → 0 ≤ r → r < 10 * pw k → l.length + k ≤ 100 → Lt μ o a 24 l → ∃ y' y'' μ', L119_53 o N r u μ = some (.inr (y', y'', μ')) ∧ Lt μ' o a 24 (l ++ n_f k r) ∧ Fo o a μ μ'
  | k, 0, _, _, _, _, hN, _, _, _, _, _, _ => absurd hN (by omega)
  | k, N + 1, μ, l, r, u, hN, hk2, hu, h0, h1, hl, hL => by
    have p := pw_12 k (by omega)
    have p3 : pw k ≤ 100 := by
      have : k = 0 ∨ k = 1 ∨ k = 2 := by omega
      rcases this with e | e | e <;> rw [e] <;> decide
    rw [L119_53]
    by_cases c : r = 0
    · rw [if_pos c]
      have : n_f k r = [] := by cases k <;> (unfold n_f; rw [if_pos c])
      rw [this, List.append_nil]
      exact ⟨_, _, _, rfl, hL, Fo.refl _ _ _⟩
    · have hq : 0 ≤ r / pw k := Int.ediv_nonneg h0 (by omega)
      have hq2 : r / pw k < 10 := by
        have := (fl_rng (a := r) (b := pw k) (by omega)).1
        rcases Int.lt_or_le (r / pw k) 10 with z | z
        · exact z
        · have : 10 * pw k ≤ r / pw k * pw k := Int.mul_le_mul_of_nonneg_right z (by omega)
          omega
      have hv : o_i2c (w32 (48 + o_div r (pw k))) = 48 + r / pw k := by
        rw [o_div_nn (by omega) (by omega) (by omega) (by omega), w32_id (by omega) (by omega), o_i2c_id (by omega) (by omega)]
      obtain ⟨μ1, q1, q2, q3⟩ := fn17_ok hr hc hoa hL (by omega) (c := 48 + r / pw k) (by omega) (by omega)
      rw [if_neg c, if_pos (by omega), if_neg (by omega), hu, hv, q1, am_op_some]
      dsimp only
      rw [if_neg (by omega), o_rem_nn (by omega) (by omega) (by omega) (by omega), o_div_nn (by omega) (by omega) (by omega) (by omega)]
      have m0 := Int.emod_nonneg r (show pw k ≠ 0 by omega)
      have m1 := Int.emod_lt_of_pos r (show 0 < pw k by omega)
      match k, hN, hk2, hl, p, p3, q2, m0, m1 with
      | 0, hN, hk2, hl, p, p3, q2, m0, m1 =>
        obtain ⟨N', rfl⟩ : ∃ N', N = N' + 1 := ⟨N - 1, by omega⟩
        rw [L119_53, if_pos (show r % pw 0 = 0 by have : pw 0 = 1 := rfl; omega)]
        refine ⟨_, _, _, rfl, ?_, q3⟩
        unfold n_f; rw [if_neg c]; exact q2
      | k + 1, hN, hk2, hl, p, p3, q2, m0, m1 =>
        rw [pw_div k (by omega)]
        obtain ⟨y', y'', μ2, r1, r2, r3⟩ := L119_ok hr hc hoa k N μ1 _ (r % pw (k + 1)) (pw k) (by omega) (by omega) rfl m0 (by have : pw (k + 1) = 10 * pw k := rfl; omega) (by simp; omega) q2
        refine ⟨y', y'', μ2, r1, ?_, q3.trans r3⟩
        unfold n_f
        rw [if_neg c]
        rw [List.append_assoc] at r2
        exact r2
/-- from the sign on -/
def nT (o : Nat) (v : Int) (μ : am_M) : Option (Int × am_M) := (am_op (fn117 v μ) (fun z2 => (am_op (fn118 o (o_divl z2.1 1000) z2.2) (fun z3 => (if o_l2i (o_reml z2.1 1000) = 0 then (am_op (L119_53 o am_fuel (o_l2i (o_reml z2.1 1000)) 100 z3.2) (fun s => am_lp s (fun q1 => some q1) (fun t1 => some (0, t1.2.2)))) else (am_op (fn17 o 46 z3.2) (fun z5 => (am_op (L119_53 o am_fuel (o_l2i (o_reml z2.1 1000)) 100 z5.2) (fun s => am_lp s (fun q2 => some q2) (fun t2 => some (0, t2.2.2)))))))))))
theorem nT_ok (hr : am_ref o 0 = a) (hc : am_len a = 24) (hoa : o ≠ a) {v : Int} (h0 : -1000000000000 ≤ v) (h1 : v ≤ 1000000000000) {μ : am_M} {l : List Int} (hl : l.length ≤ 1) (hL : Lt μ o a 24 l) : ∃ μ', nT o v μ = some (0, μ') ∧ Lt μ' o a 24 ((l ++ n_d (n_a v / 1000) (n_u (n_a v / 1000))) ++ (if n_a v % 1000 = 0 then [] else 46 :: n_f 2 (n_a v % 1000))) ∧ Fo o a μ μ' := by
  have ha0 : 0 ≤ n_a v ∧ n_a v ≤ 1000000000000 := by unfold n_a; split <;> omega
  have e117 : fn117 v μ = some (n_a v, μ) := by
    unfold fn117 n_a
    by_cases c : v < 0
    · rw [if_pos (o_cmp_lt.mpr c), if_pos c, w64_id (by omega) (by omega)]
    · rw [if_neg (fun z => c (o_cmp_lt.mp z)), if_neg c]
  have hu := n_u_le (n_a v / 1000)
  have hd := n_d_len (n_a v / 1000) (n_u (n_a v / 1000))
  obtain ⟨μ1, q1, q2, q3⟩ := fn118_ok hr hc hoa (w := n_a v / 1000) (by omega) (by omega) (by omega) hL
  have er : o_l2i (o_reml (n_a v) 1000) = n_a v % 1000 := by rw [o_reml_nn (by omega) (by omega) (by omega) (by omega), o_l2i_id (by omega) (by omega)]
  unfold nT
  rw [e117, am_op_some]
  dsimp only
  rw [o_divl_nn (by omega) (by omega) (by omega) (by omega), q1, am_op_some]
  dsimp only
  by_cases c : n_a v % 1000 = 0
  · obtain ⟨y1, y2, μ2, r1, r2, r3⟩ := L119_ok hr hc hoa 2 am_fuel μ1 _ (n_a v % 1000) 100 (by unfold am_fuel; omega) (by omega) rfl (by omega) (by have : pw 2 = 100 := rfl; omega) (by simp; omega) q2
    rw [if_pos (by rw [er]; exact c), er, r1, am_op_some, am_lp_r, if_pos c]
    refine ⟨_, rfl, ?_, q3.trans r3⟩
    have : n_f 2 (n_a v % 1000) = [] := by unfold n_f; rw [if_pos c]
    rw [this] at r2
    exact r2
  · obtain ⟨μ2, s1, s2, s3⟩ := fn17_ok hr hc hoa q2 (by simp; omega) (c := 46) (by omega) (by omega)
    obtain ⟨y1, y2, μ3, r1, r2, r3⟩ := L119_ok hr hc hoa 2 am_fuel μ2 _ (n_a v % 1000) 100 (by unfold am_fuel; omega) (by omega) rfl (by omega) (by have : pw 2 = 100 := rfl; omega) (by simp; omega) s2
    rw [if_neg (by rw [er]; exact c), s1, am_op_some]
    dsimp only
    rw [er, r1, am_op_some, am_lp_r, if_neg c]
    refine ⟨_, rfl, ?_, q3.trans (s3.trans r3)⟩
    rw [List.append_assoc] at r2
    exact r2
theorem fn119_ok (hr : am_ref o 0 = a) (hc : am_len a = 24) (hoa : o ≠ a) {v : Int} (h0 : -1000000000000 ≤ v) (h1 : v ≤ 1000000000000) (μ : am_M) : ∃ μ', fn119 o v μ = some (0, μ') ∧ Lt μ' o a 24 (n_l v) ∧ Fo o a μ μ' := by
  have L0 : Lt (am_up μ o 1 0) o a 24 [] := ⟨am_up_at _ _ _ _, fun i hi => absurd hi (by simp)⟩
  have F0 : Fo o a μ (am_up μ o 1 0) := fun c s h _ => up_ne h
  unfold fn119 fn14
  rw [am_op_some]
  dsimp only
  unfold n_l
  by_cases c : v < 0
  · obtain ⟨μ1, s1, s2, s3⟩ := fn17_ok hr hc hoa L0 (by simp) (c := 45) (by omega) (by omega)
    obtain ⟨μ2, r1, r2, r3⟩ := nT_ok hr hc hoa h0 h1 (by simp) s2
    rw [if_pos (o_cmp_lt.mpr c), s1, am_op_some, if_pos c]
    exact ⟨μ2, r1, r2, F0.trans (s3.trans r3)⟩
  · obtain ⟨μ2, r1, r2, r3⟩ := nT_ok hr hc hoa h0 h1 (by simp) L0
    rw [if_neg (fun z => c (o_cmp_lt.mp z)), if_neg c]
    exact ⟨μ2, r1, r2, F0.trans r3⟩
end NC
