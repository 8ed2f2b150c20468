/-! A tick's label: reference. -/
theorem rf_13 : am_ref 240 48 = 258 ∧ am_len 258 = 24 := by decide +kernel
def Dg (μ : am_M) (l : List Int) : Prop := ∀ i, i < l.length → μ 258 i = l.getD i 0
theorem Dg.snoc {μ : am_M} {l : List Int} (h : Dg μ l) (v : Int) : Dg (am_up μ 258 l.length v) (l ++ [v]) := fun i hi => by
  rw [List.length_append, List.length_singleton] at hi
  rw [List.getD_eq_getElem?_getD]
  by_cases e : i = l.length
  · rw [e, am_up_at, List.getElem?_concat_length]; rfl
  · rw [up_ne (by omega), List.getElem?_append_left (by omega), h i (by omega), List.getD_eq_getElem?_getD]
def F8 (μ μ' : am_M) : Prop := ∀ c t, c ≠ 258 → μ' c t = μ c t
theorem F8.trans {μ μ1 μ2 : am_M} (h : F8 μ μ1) (h2 : F8 μ1 μ2) : F8 μ μ2 := fun c t h3 => by rw [h2 c t h3, h c t h3]
theorem F8.refl (μ : am_M) : F8 μ μ := fun _ _ _ => rfl
theorem F8.up (μ : am_M) (i : Nat) (v : Int) : F8 μ (am_up μ 258 i v) := fun c t h => up_ne (by omega)
theorem L208_59_ok {w A n0 : Int} (h0 : 0 ≤ w) (h1 : w ≤ 1000000000000) {μ : am_M} : ∀ (k N m : Nat), k < N → m + k = 12 → L208_59 240 A n0 w N (pw m) μ = some (.inr (pw (st_f (n_ok w) k m), μ))
  | k, 0, _, hN, _ => absurd hN (by omega)
  | 0, N + 1, m, hN, hk => by
    have p := pw_12 m (by omega)
    have e : m = 12 := by omega
    have p12 : pw 12 = 1000000000000 := by decide
    rw [L208_59, if_neg (by omega), o_divl_nn (by omega) (by omega) (by omega) (by omega), if_neg (fun z => by have := o_cmp_gt.mp z; rw [e, p12] at this; omega)]
    rfl
  | k + 1, N + 1, m, hN, hk => by
    have p := pw_12 m (by omega)
    have p2 := pw_12 (m + 1) (by omega)
    have ep : pw m * 10 = pw (m + 1) := Int.mul_comm _ _
    rw [L208_59, if_neg (by omega), o_divl_nn (by omega) (by omega) (by omega) (by omega)]
    unfold st_f
    by_cases c : w / pw m ≤ 9
    · rw [if_neg (fun z => by have := o_cmp_gt.mp z; omega), if_pos (show n_ok w m = true from decide_eq_true c)]
    · rw [if_pos (o_cmp_gt.mpr (by omega)), if_neg (show ¬ (n_ok w m = true) from fun z => c (of_decide_eq_true z)), ep, w64_id (by omega) (by omega)]
      exact L208_59_ok h0 h1 k N (m + 1) (by omega) (by omega)
theorem L208_86_s {w A : Int} (h0 : 0 ≤ w) (h1 : w ≤ 1000000000000) (m N : Nat) (μ : am_M) (l : List Int) (hm : m ≤ 12) (hl : l.length < 24) (hL : Dg μ l) {n : Int} (hn : n = l.length) : ∃ μ', L208_86 240 A w (N + 1) n (pw m) μ = L208_86 240 A w N (n + 1) (pw m / 10) μ' ∧ Dg μ' (l ++ [48 + w / pw m % 10]) ∧ F8 μ μ' := by
  have p := pw_12 m (by omega)
  have hq : 0 ≤ w / pw m := Int.ediv_nonneg h0 (by omega)
  have hq2 : w / pw m ≤ w := Int.ediv_le_self _ h0
  generalize hP : pw m = P at *
  have hv : w32 (48 + o_l2i (o_reml (o_divl w P) 10)) = 48 + w / P % 10 := by
    rw [o_divl_nn (by omega) (by omega) (by omega) (by omega), o_reml_nn hq (by omega) (by omega) (by omega), o_l2i_id (by omega) (by omega), w32_id (by omega) (by omega)]
  rw [L208_86, rf_13.1, rf_13.2, if_pos (o_cmp_gt.mpr (by omega)), if_neg (by omega), if_pos (by omega), hv, show n.toNat = l.length by omega, w32_id (by omega) (by omega), o_divl_nn (by omega) (by omega) (by omega) (by omega)]
  exact ⟨_, rfl, hL.snoc _, F8.up _ _ _⟩
theorem L208_86_e (w A : Int) (N : Nat) (n : Int) (μ : am_M) : L208_86 240 A w (N + 1) n (pw 0 / 10) μ = some (.inr (n, 0, μ)) := by
  rw [show pw 0 / 10 = 0 from by decide, L208_86, if_neg (by decide)]
theorem L208_86_ok {w A : Int} (h0 : 0 ≤ w) (h1 : w ≤ 1000000000000) : ∀ (m N : Nat) (μ : am_M) (l : List Int) (n : Int), m + 1 < N → m ≤ 12 → l.length + m < 24 → Dg μ l → n = l.length → ∃ y' μ', L208_86 240 A w N n (pw m) μ = some (.inr ((((l ++ n_d w m).length : Nat) : Int), y', μ')) ∧ Dg μ' (l ++ n_d w m) ∧ F8 μ μ' := by
  intro m
  induction m with
  | zero =>
    intro N μ l n hN hm hl hL hn
    obtain ⟨N', rfl⟩ : ∃ N', N = N' + 1 + 1 := ⟨N - 2, by omega⟩
    obtain ⟨μ1, q1, q2, q3⟩ := L208_86_s (A := A) h0 h1 0 (N' + 1) μ l hm (by omega) hL hn
    rw [q1, L208_86_e, show n + 1 = (((l ++ n_d w 0).length : Nat) : Int) by rw [List.length_append, n_d_len]; omega]
    exact ⟨_, _, rfl, q2, q3⟩
  | succ m ih =>
    intro N μ l n hN hm hl hL hn
    obtain ⟨N', rfl⟩ : ∃ N', N = N' + 1 := ⟨N - 1, by omega⟩
    obtain ⟨μ1, q1, q2, q3⟩ := L208_86_s (A := A) h0 h1 (m + 1) N' μ l hm (by omega) hL hn
    rw [q1, pw_div m (by omega)]
    obtain ⟨y', μ2, r1, r2, r3⟩ := ih N' μ1 _ (n + 1) (by omega) (by omega) (by simp; omega) q2 (by simp; omega)
    rw [List.append_assoc] at r1 r2
    exact ⟨y', μ2, r1, r2, q3.trans r3⟩
theorem L208_157_ok : ∀ (k N : Nat) (μ : am_M) (l : List Int) (r u n : Int), k + 1 < N → k ≤ 2 → u = pw k → 0 ≤ r → r < 10 * pw k → l.length + k < 24 → Dg μ l → n = l.length → ∃ y' y'' μ', L208_157 240 N n r u μ = some (.inr ((((l ++ n_f k r).length : Nat) : Int), y', y'', μ')) ∧ Dg μ' (l ++ n_f k r) ∧ F8 μ μ'
  | k, 0, _, _, _, _, _, hN, _, _, _, _, _, _, _ => absurd hN (by omega)
  | k, N + 1, μ, l, r, u, n, hN, hk2, hu, h0, h1, hl, hL, hn => by
    have p := pw_12 k (by omega)
    have p3 : pw k ≤ 100 := by
      have : k = 0 ∨ k = 1 ∨ k = 2 := by omega
      rcases this with e | e | e <;> rw [e] <;> decide
    rw [L208_157, rf_13.1, rf_13.2]
    by_cases c : r = 0
    · rw [if_neg (by omega)]
      have : n_f k r = [] := by cases k <;> (unfold n_f; rw [if_pos c])
      rw [this, List.append_nil, hn]
      exact ⟨_, _, _, rfl, hL, F8.refl _⟩
    · have hq : 0 ≤ r / pw k := Int.ediv_nonneg h0 (by omega)
      have hq2 : r / pw k < 10 := by
        have := (fl_rng (a := r) (b := pw k) (by omega)).1
        rcases Int.lt_or_le (r / pw k) 10 with z | z
        · exact z
        · have : 10 * pw k ≤ r / pw k * pw k := Int.mul_le_mul_of_nonneg_right z (by omega)
          omega
      rw [if_pos (by omega), if_neg (by omega), if_pos (by omega), if_neg (by omega), hu, o_rem_nn (by omega) (by omega) (by omega) (by omega), o_div_nn (a := pw k) (by omega) (by omega) (by omega) (by omega), o_div_nn (by omega) (by omega) (by omega) (by omega), w32_id (x := 48 + r / pw k) (by omega) (by omega), w32_id (by omega) (by omega), show n.toNat = l.length by omega]
      have q2 := hL.snoc (48 + r / pw k)
      have q3 := F8.up μ l.length (48 + r / pw k)
      generalize am_up μ 258 l.length (48 + r / pw k) = μ1 at *
      have m0 := Int.emod_nonneg r (show pw k ≠ 0 by omega)
      have m1 := Int.emod_lt_of_pos r (show 0 < pw k by omega)
      match k, hN, hk2, hl, p, p3, q2, m0, m1 with
      | 0, hN, hk2, hl, p, p3, q2, m0, m1 =>
        obtain ⟨N', rfl⟩ : ∃ N', N = N' + 1 := ⟨N - 1, by omega⟩
        rw [L208_157, if_neg (show ¬ (0 < r % pw 0) by have : pw 0 = 1 := rfl; omega)]
        have e : n_f 0 r = [48 + r / pw 0] := by unfold n_f; rw [if_neg c]
        rw [e, show n + 1 = (((l ++ [48 + r / pw 0]).length : Nat) : Int) by simp; omega]
        exact ⟨_, _, _, rfl, q2, q3⟩
      | k + 1, hN, hk2, hl, p, p3, q2, m0, m1 =>
        rw [pw_div k (by omega)]
        obtain ⟨y', y'', μ2, r1, r2, r3⟩ := L208_157_ok k N μ1 _ (r % pw (k + 1)) (pw k) (n + 1) (by omega) (by omega) rfl m0 (by have : pw (k + 1) = 10 * pw k := rfl; omega) (by simp; omega) q2 (by simp; omega)
        have e : n_f (k + 1) r = (48 + r / pw (k + 1)) :: n_f k (r % pw (k + 1)) := by show (if r = 0 then _ else _) = _; rw [if_neg c]
        rw [List.append_assoc] at r1 r2
        rw [e]
        exact ⟨y', y'', μ2, r1, r2, q3.trans r3⟩
def dT (A n0 : Int) (μ : am_M) : Option (Int × am_M) := (am_op (L208_59 240 A n0 (o_divl A 1000) am_fuel 1 μ) (fun s => am_lp s (fun q13 => some q13) (fun t13 => (am_op (L208_86 240 A (o_divl A 1000) am_fuel n0 t13.1 t13.2) (fun s => am_lp s (fun q14 => some q14) (fun t14 => (if 0 < o_l2i (o_reml A 1000) then (if (0 : Int) ≤ t14.1 ∧ t14.1 < ((24 : Nat) : Int) then (am_op (L208_157 240 am_fuel (w32 (t14.1 + 1)) (o_l2i (o_reml A 1000)) 100 (am_up t14.2.2 258 (t14.1 : Int).toNat 46)) (fun s => am_lp s (fun q16 => some q16) (fun t16 => some (t16.1, t16.2.2.2)))) else none) else (am_op (L208_157 240 am_fuel t14.1 (o_l2i (o_reml A 1000)) 100 t14.2.2) (fun s => am_lp s (fun q15 => some q15) (fun t15 => some (t15.1, t15.2.2.2)))))))))))
theorem dT_ok {A : Int} (h0 : 0 ≤ A) (h1 : A ≤ 1000000000000) {μ : am_M} {l : List Int} (hl : l.length ≤ 1) (hL : Dg μ l) {n0 : Int} (hn : n0 = l.length) : ∃ μ', dT A n0 μ = some (((((l ++ n_d (A / 1000) (n_u (A / 1000))) ++ (if A % 1000 = 0 then [] else 46 :: n_f 2 (A % 1000))).length : Nat) : Int), μ') ∧ Dg μ' ((l ++ n_d (A / 1000) (n_u (A / 1000))) ++ (if A % 1000 = 0 then [] else 46 :: n_f 2 (A % 1000))) ∧ F8 μ μ' := by
  have hu := n_u_le (A / 1000)
  have hd := n_d_len (A / 1000) (n_u (A / 1000))
  have er : o_l2i (o_reml A 1000) = A % 1000 := by rw [o_reml_nn (by omega) (by omega) (by omega) (by omega), o_l2i_id (by omega) (by omega)]
  obtain ⟨y1, μ1, q1, q2, q3⟩ := L208_86_ok (A := A) (w := A / 1000) (by omega) (by omega) (n_u (A / 1000)) am_fuel μ l n0 (by unfold am_fuel; omega) hu (by omega) hL hn
  unfold dT
  rw [o_divl_nn (by omega) (by omega) (by omega) (by omega), show L208_59 240 A n0 (A / 1000) am_fuel 1 μ = _ from L208_59_ok (by omega) (by omega) 12 am_fuel 0 (by unfold am_fuel; omega) rfl, am_op_some, am_lp_r]
  dsimp only
  rw [show L208_86 240 A (A / 1000) am_fuel n0 (pw (st_f (n_ok (A / 1000)) 12 0)) μ = _ from q1, am_op_some, am_lp_r]
  dsimp only
  by_cases c : A % 1000 = 0
  · obtain ⟨y1, y2, μ2, r1, r2, r3⟩ := L208_157_ok 2 am_fuel μ1 _ (A % 1000) 100 _ (by unfold am_fuel; omega) (by omega) rfl (by omega) (by have : pw 2 = 100 := rfl; omega) (by simp; omega) q2 rfl
    have e : n_f 2 (A % 1000) = [] := by unfold n_f; rw [if_pos c]
    rw [e, List.append_nil] at r1 r2
    rw [if_neg (by rw [er]; omega), er, r1, am_op_some, am_lp_r, if_pos c, List.append_nil]
    exact ⟨_, rfl, r2, q3.trans r3⟩
  · obtain ⟨y1, y2, μ2, r1, r2, r3⟩ := L208_157_ok 2 am_fuel _ _ (A % 1000) 100 ((((l ++ n_d (A / 1000) (n_u (A / 1000))).length : Nat) : Int) + 1) (by unfold am_fuel; omega) (by omega) rfl (by omega) (by have : pw 2 = 100 := rfl; omega) (by simp; omega) (q2.snoc 46) (by simp; omega)
    rw [if_pos (by rw [er]; omega), if_pos (by rw [List.length_append]; omega), Int.toNat_natCast, w32_id (by rw [List.length_append]; omega) (by rw [List.length_append]; omega), er, r1, am_op_some, am_lp_r, if_neg c, List.append_assoc]
    rw [List.append_assoc] at r2
    exact ⟨_, rfl, r2, q3.trans ((F8.up _ _ _).trans r3)⟩
theorem fn208_ok {v : Int} (h0 : -1000000000000 ≤ v) (h1 : v ≤ 1000000000000) {μ : am_M} {k : Int} (hv : w64 (μ 240 42 + w64 (k * μ 240 41)) = v) : ∃ μ', fn208 240 k μ = some ((((n_l v).length : Nat) : Int), μ') ∧ Dg μ' (n_l v) ∧ F8 μ μ' := by
  unfold fn208
  rw [rf_13.1, rf_13.2, hv]
  unfold n_l n_a
  by_cases c : v < 0
  · rw [if_pos (o_cmp_lt.mpr c), if_pos (o_cmp_lt.mpr c), if_pos (by omega), if_pos c, if_pos c, w64_id (x := -v) (by omega) (by omega), show w32 (0 + 1) = 1 from by decide]
    obtain ⟨μ2, r1, r2, r3⟩ := dT_ok (A := -v) (by omega) (by omega) (l := [45]) (n0 := 1) (by simp) (show Dg (am_up μ 258 (0 : Int).toNat 45) [45] from fun i hi => by rw [show i = 0 by simp at hi; omega]; exact am_up_at _ _ _ _) rfl
    exact ⟨μ2, r1, r2, (F8.up _ _ _).trans r3⟩
  · rw [if_neg (fun z => c (o_cmp_lt.mp z)), if_neg (fun z => c (o_cmp_lt.mp z)), if_neg c, if_neg c]
    obtain ⟨μ2, r1, r2, r3⟩ := dT_ok (A := v) (by omega) (by omega) (μ := μ) (l := []) (n0 := 0) (by simp) (fun i hi => absurd hi (by simp)) rfl
    exact ⟨μ2, r1, r2, r3⟩
