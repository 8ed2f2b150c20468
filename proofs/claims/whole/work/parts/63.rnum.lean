/-! Numbers: what both sides make of a value's characters g 0 .. g (n - 1). -/
def sd_n (g : Nat → Int) (n : Nat) : Nat → Nat → Nat
  | 0, _ => 0
  | k + 1, i => if i < n ∧ 48 ≤ g i ∧ g i ≤ 57 then sd_n g n k (i + 1) + 1 else 0
def sd_v (g : Nat → Int) : Nat → Nat → Int → Int
  | 0, _, v => v
  | k + 1, i, v => sd_v g k (i + 1) (v * 10 + (g i - 48))
def pw : Nat → Int
  | 0 => 1
  | k + 1 => 10 * pw k
theorem pw_12 : ∀ k, k < 13 → 1 ≤ pw k ∧ pw k ≤ 1000000000000 := by decide
theorem sd_n_st (g : Nat → Int) (n : Nat) : ∀ k i, n - i ≤ k → sd_n g n k i = sd_n g n (n - i) i
  | 0, i, h => by rw [show n - i = 0 by omega]
  | k + 1, i, h => by
    by_cases hi : i < n
    · obtain ⟨j, hj⟩ : ∃ j, n - i = j + 1 := ⟨n - i - 1, by omega⟩
      rw [hj]
      unfold sd_n
      rw [sd_n_st g n k (i + 1) (by omega), show n - (i + 1) = j by omega]
    · rw [show n - i = 0 by omega]
      unfold sd_n
      rw [if_neg (by omega)]
def sd (g : Nat → Int) (n i : Nat) : Nat := sd_n g n (n - i) i
theorem sd_eq {g : Nat → Int} {n k i : Nat} (h : n - i ≤ k) : sd_n g n k i = sd g n i := sd_n_st g n k i h
theorem sd_yes {g : Nat → Int} {n i : Nat} (h : i < n) (h1 : 48 ≤ g i) (h2 : g i ≤ 57) : sd g n i = sd g n (i + 1) + 1 := by
  unfold sd
  obtain ⟨j, hj⟩ : ∃ j, n - i = j + 1 := ⟨n - i - 1, by omega⟩
  rw [hj]
  rw [sd_n, if_pos ⟨h, h1, h2⟩, show n - (i + 1) = j by omega]
theorem sd_no {g : Nat → Int} {n i : Nat} (h : ¬ (i < n ∧ 48 ≤ g i ∧ g i ≤ 57)) : sd g n i = 0 := by
  unfold sd
  cases hj : n - i with
  | zero => rfl
  | succ j => rw [sd_n, if_neg h]
theorem sd_le (g : Nat → Int) (n : Nat) : ∀ k i, n - i ≤ k → i ≤ n → i + sd g n i ≤ n
  | 0, i, h, h2 => by rw [sd_no (by omega)]; exact h2
  | k + 1, i, h, h2 => by
    by_cases hd : i < n ∧ 48 ≤ g i ∧ g i ≤ 57
    · rw [sd_yes hd.1 hd.2.1 hd.2.2]
      have z := sd_le g n k (i + 1) (by omega) (by omega)
      omega
    · rw [sd_no hd]; exact h2
theorem sd_dig (g : Nat → Int) (n : Nat) : ∀ k i, n - i ≤ k → ∀ j, j < sd g n i → 48 ≤ g (i + j) ∧ g (i + j) ≤ 57
  | 0, i, h, j, hj => by rw [sd_no (by omega)] at hj; omega
  | k + 1, i, h, j, hj => by
    by_cases hd : i < n ∧ 48 ≤ g i ∧ g i ≤ 57
    · rw [sd_yes hd.1 hd.2.1 hd.2.2] at hj
      cases j with
      | zero => exact hd.2
      | succ j =>
        have z := sd_dig g n k (i + 1) (by omega) j (by omega)
        rw [show i + 1 + j = i + (j + 1) by omega] at z
        exact z
    · rw [sd_no hd] at hj; omega
def sp_m (g : Nat → Int) (n : Nat) : Nat := if 0 < n ∧ g 0 = 45 then 1 else 0
def sp_sg (m : Nat) (v : Int) : Int := if m = 1 then -v else v
/-- a number in thousandths -/
def sp_num (g : Nat → Int) (n : Nat) : Option Int :=
  if sd g n (sp_m g n) < 1 ∨ 6 < sd g n (sp_m g n) then none
  else if sp_m g n + sd g n (sp_m g n) = n then some (sp_sg (sp_m g n) (sd_v g (sd g n (sp_m g n)) (sp_m g n) 0 * 1000))
  else if g (sp_m g n + sd g n (sp_m g n)) = 46 then
    (if 1 ≤ sd g n (sp_m g n + sd g n (sp_m g n) + 1) ∧ sd g n (sp_m g n + sd g n (sp_m g n) + 1) ≤ 3 ∧ sp_m g n + sd g n (sp_m g n) + 1 + sd g n (sp_m g n + sd g n (sp_m g n) + 1) = n then
      some (sp_sg (sp_m g n) (sd_v g (sd g n (sp_m g n + sd g n (sp_m g n) + 1)) (sp_m g n + sd g n (sp_m g n) + 1) (sd_v g (sd g n (sp_m g n)) (sp_m g n) 0) * pw (3 - sd g n (sp_m g n + sd g n (sp_m g n) + 1)))) else none)
  else none
theorem sd_v_rng (g : Nat → Int) : ∀ (k i c : Nat) (v : Int), (∀ j, j < k → 48 ≤ g (i + j) ∧ g (i + j) ≤ 57) → 0 ≤ v → v < pw c → 0 ≤ sd_v g k i v ∧ sd_v g k i v < pw (c + k)
  | 0, i, c, v, _, h1, h2 => ⟨h1, h2⟩
  | k + 1, i, c, v, h, h1, h2 => by
    unfold sd_v
    have d := h 0 (by omega)
    rw [Nat.add_zero] at d
    have z := sd_v_rng g k (i + 1) (c + 1) (v * 10 + (g i - 48)) (fun j hj => by rw [show i + 1 + j = i + (j + 1) by omega]; exact h (j + 1) (by omega)) (by omega) (by unfold pw; omega)
    rw [show c + 1 + k = c + (k + 1) by omega] at z
    exact z
/-! Numbers: the reference. -/
/-- the span of n characters from p in the cell a (values or text) is g -/
def Sp (μ : am_M) (ind : Int) (p n : Nat) (g : Nat → Int) : Prop := (ind = 1 ∧ p + n ≤ 400 ∧ ∀ i, i < n → μ 245 (p + i) = g i) ∨ (ind = 0 ∧ p + n ≤ 160 ∧ ∀ i, i < n → μ 242 (p + i) = g i)
theorem rf_4 : am_ref 240 4 = 242 ∧ am_len 242 = 160 := by decide +kernel
theorem Sp.le {μ : am_M} {ind : Int} {p n : Nat} {g : Nat → Int} (h : Sp μ ind p n g) : p + n ≤ 400 := by
  rcases h with h | h <;> omega
theorem fn174_at {μ : am_M} {ind : Int} {p n : Nat} {g : Nat → Int} (h : Sp μ ind p n g) {i : Nat} (hi : i < n) {a : Int} (ha : a = ((p + i : Nat) : Int)) : fn174 240 a ind μ = some (g i, μ) := by
  subst ha
  unfold fn174
  rw [rf_4.1, rf_4.2, rf_3.2.2.2.2.2.2.1, rf_3.2.2.2.2.2.2.2.1, Int.toNat_natCast]
  rcases h with ⟨rfl, h1, h2⟩ | ⟨rfl, h1, h2⟩
  · rw [if_neg (by decide), if_pos (by omega), h2 i hi]
  · rw [if_pos rfl, if_pos (by omega), h2 i hi]
theorem fn175_e (c : Int) (μ : am_M) : fn175 c μ = some (if 48 ≤ c ∧ c ≤ 57 then 1 else 0, μ) := by
  unfold fn175
  repeat' split
  all_goals first | rfl | omega
theorem L176_52_ok {μ : am_M} {ind : Int} {p n : Nat} {g : Nat → Int} (h : Sp μ ind p n g) (l6 : Int) {E : Int} (hE : E = ((p + n : Nat) : Int)) : ∀ (k N : Nat) (a v c : Int) (i cc : Nat), k < N → a = ((p + i : Nat) : Int) → c = cc → i ≤ n → n - i ≤ k → cc + (n - i) ≤ 1000 →
    ∃ V, L176_52 240 ind E l6 N a v c μ = some (.inr (((p + i + sd g n i : Nat) : Int), V, ((cc + sd g n i : Nat) : Int), μ)) ∧ (cc + sd g n i ≤ 7 → 0 ≤ v → v < pw cc → V = sd_v g (sd g n i) i v)
  | k, 0, _, _, _, _, _, hN, _, _, _, _, _ => absurd hN (by omega)
  | k, N + 1, a, v, c, i, cc, hN, ha, hc, hi, hk, hcc => by
    have hle := h.le
    subst ha hc hE
    rw [L176_52]
    by_cases hin : i < n
    · rw [if_pos (by omega), fn174_at h hin rfl, am_op_some, fn175_e, am_op_some]
      dsimp only
      by_cases hd : 48 ≤ g i ∧ g i ≤ 57
      · rw [if_pos hd, if_neg (by decide), sd_yes hin hd.1 hd.2, w32_id (by omega) (by omega), w32_id (by omega) (by omega)]
        by_cases h7 : cc < 7
        · rw [if_pos (by omega), fn174_at h hin rfl, am_op_some]
          dsimp only
          obtain ⟨V, q1, q2⟩ := L176_52_ok h l6 rfl (k - 1) N (((p + i : Nat) : Int) + 1) (w64 ((w64 ((w64 (10 * v)) + g i)) - 48)) ((cc : Int) + 1) (i + 1) (cc + 1) (by omega) (by omega) (by omega) (by omega) (by omega) (by omega)
          refine ⟨V, ?_, fun e1 e2 e3 => ?_⟩
          · rw [q1, show p + (i + 1) + sd g n (i + 1) = p + i + (sd g n (i + 1) + 1) by omega, show cc + 1 + sd g n (i + 1) = cc + (sd g n (i + 1) + 1) by omega]
          · have pz := pw_12 cc (by omega)
            have ew : w64 ((w64 ((w64 (10 * v)) + g i)) - 48) = v * 10 + (g i - 48) := by
              rw [w64_id (x := 10 * v) (by omega) (by omega), w64_id (x := 10 * v + g i) (by omega) (by omega), w64_id (by omega) (by omega)]
              omega
            rw [q2 (by omega) (by rw [ew]; omega) (by rw [ew]; unfold pw; omega), ew]
            rfl
        · rw [if_neg (by omega)]
          obtain ⟨V, q1, q2⟩ := L176_52_ok h l6 rfl (k - 1) N (((p + i : Nat) : Int) + 1) v ((cc : Int) + 1) (i + 1) (cc + 1) (by omega) (by omega) (by omega) (by omega) (by omega) (by omega)
          refine ⟨V, ?_, fun e1 => by omega⟩
          rw [q1, show p + (i + 1) + sd g n (i + 1) = p + i + (sd g n (i + 1) + 1) by omega, show cc + 1 + sd g n (i + 1) = cc + (sd g n (i + 1) + 1) by omega]
      · rw [if_neg hd, if_pos rfl, sd_no (by omega)]
        exact ⟨v, rfl, fun _ _ _ => rfl⟩
    · rw [if_neg (by omega), sd_no (by omega)]
      exact ⟨v, rfl, fun _ _ _ => rfl⟩
theorem L176_159_ok {μ : am_M} {ind : Int} {p n : Nat} {g : Nat → Int} (h : Sp μ ind p n g) (l6 l9 : Int) {E : Int} (hE : E = ((p + n : Nat) : Int)) (c0 : Nat) (hc0 : c0 ≤ 6) : ∀ (k N : Nat) (a v c : Int) (i cc : Nat), k < N → a = ((p + i : Nat) : Int) → c = cc → i ≤ n → n - i ≤ k → cc + (n - i) ≤ 1000 →
    ∃ V, L176_159 240 ind E l6 l9 1 N a v c μ = some (.inr (((p + i + sd g n i : Nat) : Int), V, ((cc + sd g n i : Nat) : Int), μ)) ∧ (cc + sd g n i ≤ 3 → 0 ≤ v → v < pw (c0 + cc) → V = sd_v g (sd g n i) i v)
  | k, 0, _, _, _, _, _, hN, _, _, _, _, _ => absurd hN (by omega)
  | k, N + 1, a, v, c, i, cc, hN, ha, hc, hi, hk, hcc => by
    have hle := h.le
    subst ha hc hE
    rw [L176_159, if_neg (by decide)]
    by_cases hin : i < n
    · rw [if_pos (by omega), fn174_at h hin rfl, am_op_some, fn175_e, am_op_some]
      dsimp only
      by_cases hd : 48 ≤ g i ∧ g i ≤ 57
      · rw [if_pos hd, if_neg (by decide), sd_yes hin hd.1 hd.2, w32_id (by omega) (by omega), w32_id (by omega) (by omega)]
        by_cases h7 : cc < 3
        · rw [if_pos (by omega), fn174_at h hin rfl, am_op_some]
          dsimp only
          obtain ⟨V, q1, q2⟩ := L176_159_ok h l6 l9 rfl c0 hc0 (k - 1) N (((p + i : Nat) : Int) + 1) (w64 ((w64 ((w64 (10 * v)) + g i)) - 48)) ((cc : Int) + 1) (i + 1) (cc + 1) (by omega) (by omega) (by omega) (by omega) (by omega) (by omega)
          refine ⟨V, ?_, fun e1 e2 e3 => ?_⟩
          · rw [q1, show p + (i + 1) + sd g n (i + 1) = p + i + (sd g n (i + 1) + 1) by omega, show cc + 1 + sd g n (i + 1) = cc + (sd g n (i + 1) + 1) by omega]
          · have pz := pw_12 (c0 + cc) (by omega)
            have ew : w64 ((w64 ((w64 (10 * v)) + g i)) - 48) = v * 10 + (g i - 48) := by
              rw [w64_id (x := 10 * v) (by omega) (by omega), w64_id (x := 10 * v + g i) (by omega) (by omega), w64_id (by omega) (by omega)]
              omega
            rw [q2 (by omega) (by rw [ew]; omega) (by rw [ew, show c0 + (cc + 1) = (c0 + cc) + 1 by omega]; unfold pw; omega), ew]
            rfl
        · rw [if_neg (by omega)]
          obtain ⟨V, q1, q2⟩ := L176_159_ok h l6 l9 rfl c0 hc0 (k - 1) N (((p + i : Nat) : Int) + 1) v ((cc : Int) + 1) (i + 1) (cc + 1) (by omega) (by omega) (by omega) (by omega) (by omega) (by omega)
          refine ⟨V, ?_, fun e1 => by omega⟩
          rw [q1, show p + (i + 1) + sd g n (i + 1) = p + i + (sd g n (i + 1) + 1) by omega, show cc + 1 + sd g n (i + 1) = cc + (sd g n (i + 1) + 1) by omega]
      · rw [if_neg hd, if_pos rfl, sd_no (by omega)]
        exact ⟨v, rfl, fun _ _ _ => rfl⟩
    · rw [if_neg (by omega), sd_no (by omega)]
      exact ⟨v, rfl, fun _ _ _ => rfl⟩
theorem L176_269_ok (l6 : Int) (μ : am_M) : ∀ (k N : Nat) (v : Int) (c : Int) (cc : Nat), k < N → c = cc → cc + k = 3 → 0 ≤ v → v ≤ 1000000000000 * pw cc → ∃ c', L176_269 l6 N v c μ = some (.inr (v * pw k, c', μ))
  | k, 0, _, _, _, hN, _, _, _, _ => absurd hN (by omega)
  | 0, N + 1, v, c, cc, hN, hc, h3, h0, h1 => by
    rw [L176_269, if_neg (by omega)]
    exact ⟨c, by rw [show pw 0 = 1 from rfl, Int.mul_one]⟩
  | k + 1, N + 1, v, c, cc, hN, hc, h3, h0, h1 => by
    have p3 : ∀ x, x < 4 → 1 ≤ pw x ∧ pw x ≤ 1000 := by decide
    have pz := p3 cc (by omega)
    rw [L176_269, if_pos (by omega), w32_id (by omega) (by omega), w64_id (by omega) (by omega)]
    obtain ⟨c', q⟩ := L176_269_ok l6 μ k N (v * 10) (c + 1) (cc + 1) (by omega) (by omega) (by omega) (by omega) (by rw [show pw (cc + 1) = 10 * pw cc from rfl]; omega)
    refine ⟨c', ?_⟩
    rw [q, show pw (k + 1) = 10 * pw k from rfl, Int.mul_assoc]
/-- what stands behind the whole digits: t is (place, value, whole digits, memory) -/
def nr_T (ind E l6 : Int) (F : Int → Int) (t15 : Int × Int × Int × am_M) : Option (Int × am_M) := (if t15.1 < E then (am_op (fn174 240 t15.1 ind t15.2.2.2) (fun z10 => (if z10.1 = 46 then (am_op (L176_159 240 ind E l6 t15.2.2.1 1 am_fuel (w32 (t15.1 + 1)) t15.2.1 0 z10.2) (fun s => am_lp s (fun q20 => some q20) (fun t20 => (if t20.1 < E then some ((-9223372036854775808), t20.2.2.2) else (if t15.2.2.1 < 1 then some ((-9223372036854775808), t20.2.2.2) else (if 6 < t15.2.2.1 then some ((-9223372036854775808), t20.2.2.2) else (if 3 < t20.2.2.1 then some ((-9223372036854775808), t20.2.2.2) else (if t20.2.2.1 = 0 then some ((-9223372036854775808), t20.2.2.2) else (am_op (L176_269 l6 am_fuel t20.2.1 t20.2.2.1 t20.2.2.2) (fun s => am_lp s (fun q21 => some q21) (fun t21 => some (F t21.1, t21.2.2)))))))))))) else (am_op (L176_159 240 ind E l6 t15.2.2.1 0 am_fuel t15.1 t15.2.1 0 z10.2) (fun s => am_lp s (fun q18 => some q18) (fun t18 => (if t18.1 < E then some ((-9223372036854775808), t18.2.2.2) else (if t15.2.2.1 < 1 then some ((-9223372036854775808), t18.2.2.2) else (if 6 < t15.2.2.1 then some ((-9223372036854775808), t18.2.2.2) else (if 3 < t18.2.2.1 then some ((-9223372036854775808), t18.2.2.2) else (am_op (L176_269 l6 am_fuel t18.2.1 t18.2.2.1 t18.2.2.2) (fun s => am_lp s (fun q19 => some q19) (fun t19 => some (F t19.1, t19.2.2)))))))))))))) else (am_op (L176_159 240 ind E l6 t15.2.2.1 0 am_fuel t15.1 t15.2.1 0 t15.2.2.2) (fun s => am_lp s (fun q16 => some q16) (fun t16 => (if t16.1 < E then some ((-9223372036854775808), t16.2.2.2) else (if t15.2.2.1 < 1 then some ((-9223372036854775808), t16.2.2.2) else (if 6 < t15.2.2.1 then some ((-9223372036854775808), t16.2.2.2) else (if 3 < t16.2.2.1 then some ((-9223372036854775808), t16.2.2.2) else (am_op (L176_269 l6 am_fuel t16.2.1 t16.2.2.1 t16.2.2.2) (fun s => am_lp s (fun q17 => some q17) (fun t17 => some (F t17.1, t17.2.2))))))))))))
theorem fn176_T (a b ind : Int) (μ : am_M) (hb : 0 < b) : fn176 240 a b ind μ = am_op (fn174 240 a ind μ) (fun z8 => (if z8.1 = 45 then (am_op (L176_52 240 ind (w32 (a + b)) 1 am_fuel (w32 (a + 1)) 0 0 z8.2) (fun s => am_lp s (fun q15 => some q15) (nr_T ind (w32 (a + b)) 1 (fun v => w64 (-v))))) else (am_op (L176_52 240 ind (w32 (a + b)) 0 am_fuel a 0 0 z8.2) (fun s => am_lp s (fun q8 => some q8) (nr_T ind (w32 (a + b)) 0 (fun v => v)))))) := by
  unfold fn176
  rw [if_pos hb]
  rfl
def sp_v (o : Option Int) : Int := o.getD (-9223372036854775808)
theorem L176_159_0 {ind E l6 l9 a v c : Int} {N : Nat} {μ : am_M} : L176_159 240 ind E l6 l9 0 (N + 1) a v c μ = some (.inr (a, v, c, μ)) := by
  rw [L176_159, if_pos rfl]
theorem nr_T_ok {μ : am_M} {ind : Int} {p n : Nat} {g : Nat → Int} (h : Sp μ ind p n g) (l6 : Int) (F : Int → Int) (m : Nat) (hm : sp_m g n = m) (hF : ∀ v, 0 ≤ v → v ≤ 10000000000000000 → F v = sp_sg m v) {V : Int} (hV : sd g n m ≤ 6 → V = sd_v g (sd g n m) m 0) (hmn : m ≤ n) : nr_T ind ((p + n : Nat) : Int) l6 F (((p + m + sd g n m : Nat) : Int), V, ((sd g n m : Nat) : Int), μ) = some (sp_v (sp_num g n), μ) := by
  have hle := h.le
  have hsl := sd_le g n n m (by omega) hmn
  have hfu : am_fuel = 9999 + 1 := rfl
  have hdig := sd_dig g n n m (by omega)
  have hrg : sd g n m ≤ 6 → 0 ≤ V ∧ V < pw (0 + sd g n m) := fun h6 => by
    rw [hV h6]
    exact sd_v_rng g (sd g n m) m 0 0 hdig (by omega) (by decide)
  unfold nr_T sp_num
  rw [hm]
  dsimp only
  generalize hw : sd g n m = w at *
  by_cases hend : m + w = n
  · rw [if_neg (by omega), hfu, L176_159_0, am_op_some, am_lp_r]
    dsimp only
    rw [if_neg (by omega)]
    by_cases hb : w < 1 ∨ 6 < w
    · rw [if_pos hb]
      by_cases hb1 : w < 1
      · rw [if_pos (by omega)]; rfl
      · rw [if_neg (by omega), if_pos (by omega)]; rfl
    · rw [if_neg hb, if_neg (by omega), if_neg (by omega), if_neg (by omega), if_pos hend]
      have r := hrg (by omega)
      have pz := pw_12 (0 + w) (by omega)
      obtain ⟨c', q⟩ := L176_269_ok l6 μ 3 (9999 + 1) V 0 0 (by omega) rfl rfl (by omega) (by rw [show pw 0 = 1 from rfl]; omega)
      rw [q, am_op_some, am_lp_r]
      dsimp only
      have p6 : ∀ x, x < 7 → pw (0 + x) ≤ 1000000 := by decide
      have pz6 := p6 w (by omega)
      rw [hF _ (by rw [show pw 3 = 1000 from rfl]; omega) (by rw [show pw 3 = 1000 from rfl]; omega), ← hV (by omega)]
      rfl
  · have hlt : m + w < n := by omega
    rw [if_pos (by omega), fn174_at h (i := m + w) hlt (by omega), am_op_some]
    dsimp only
    by_cases hpt : g (m + w) = 46
    · rw [if_pos hpt, w32_id (by omega) (by omega)]
      have hsl2 := sd_le g n n (m + w + 1) (by omega) (by omega)
      by_cases hb : w < 1 ∨ 6 < w
      · rw [if_pos hb]
        obtain ⟨V2, q1, q2⟩ := L176_159_ok h l6 (w : Int) rfl 6 (by omega) n am_fuel (((p + m + w : Nat) : Int) + 1) V 0 (m + w + 1) 0 (by unfold am_fuel; omega) (by omega) rfl (by omega) (by omega) (by omega)
        rw [q1, am_op_some, am_lp_r]
        dsimp only
        by_cases hx : m + w + 1 + sd g n (m + w + 1) < n
        · rw [if_pos (by omega)]; rfl
        · rw [if_neg (by omega)]
          by_cases hb1 : w < 1
          · rw [if_pos (by omega)]; rfl
          · rw [if_neg (by omega), if_pos (by omega)]; rfl
      · rw [if_neg hb, if_neg hend, if_pos hpt]
        obtain ⟨V2, q1, q2⟩ := L176_159_ok h l6 (w : Int) rfl w (by omega) n am_fuel (((p + m + w : Nat) : Int) + 1) V 0 (m + w + 1) 0 (by unfold am_fuel; omega) (by omega) rfl (by omega) (by omega) (by omega)
        rw [q1, am_op_some, am_lp_r]
        dsimp only
        have hdig2 := sd_dig g n n (m + w + 1) (by omega)
        have r := hrg (by omega)
        generalize hbb : sd g n (m + w + 1) = b at *
        by_cases hx : 1 ≤ b ∧ b ≤ 3 ∧ m + w + 1 + b = n
        · rw [if_pos hx, if_neg (by omega), if_neg (by omega), if_neg (by omega), if_neg (by omega), if_neg (by omega)]
          have r2 := sd_v_rng g b (m + w + 1) (0 + w) V hdig2 r.1 r.2
          have e2 := q2 (by omega) r.1 (by rw [show w + 0 = 0 + w by omega]; exact r.2)
          have pz := pw_12 (0 + w + b) (by omega)
          have p6 : ∀ x, x < 10 → pw (0 + x) ≤ 1000000000 := by decide
          have pz9 := p6 (w + b) (by omega)
          rw [show 0 + (w + b) = 0 + w + b by omega] at pz9
          have p3 : ∀ x, x < 4 → 1 ≤ pw x ∧ pw x ≤ 1000 := by decide
          have pb := p3 b (by omega)
          have pc := p3 (3 - b) (by omega)
          obtain ⟨c', q⟩ := L176_269_ok l6 μ (3 - b) am_fuel V2 ((0 + b : Nat) : Int) b (by unfold am_fuel; omega) (by omega) (by omega) (by rw [e2]; omega) (by rw [e2]; omega)
          rw [q, am_op_some, am_lp_r]
          dsimp only
          have hb3 : V2 * pw (3 - b) ≤ 10000000000000000 ∧ 0 ≤ V2 * pw (3 - b) := by
            have v1 : 0 ≤ V2 := by rw [e2]; exact r2.1
            have v2 : V2 ≤ 1000000000 := by rw [e2]; omega
            constructor
            · calc V2 * pw (3 - b) ≤ V2 * 1000 := Int.mul_le_mul_of_nonneg_left pc.2 v1
                _ ≤ 10000000000000000 := by omega
            · exact Int.mul_nonneg v1 (by omega)
          rw [hF _ hb3.2 hb3.1, e2, ← hV (by omega)]
          rfl
        · rw [if_neg hx]
          by_cases hy : m + w + 1 + b < n
          · rw [if_pos (by omega)]; rfl
          · rw [if_neg (by omega), if_neg (by omega), if_neg (by omega)]
            by_cases h3 : 3 < b
            · rw [if_pos (by omega)]; rfl
            · rw [if_neg (by omega), if_pos (by omega)]; rfl
    · rw [if_neg hpt, hfu, L176_159_0, am_op_some, am_lp_r]
      dsimp only
      rw [if_pos (by omega)]
      by_cases hb : w < 1 ∨ 6 < w
      · rw [if_pos hb]; rfl
      · rw [if_neg hb, if_neg hend, if_neg hpt]; rfl
/-- numberAt -/
theorem fn176_ok {μ : am_M} {ind : Int} {p n : Nat} {g : Nat → Int} (h : Sp μ ind p n g) (hn : 0 < n) {a b : Int} (ha : a = p) (hb : b = n) : fn176 240 a b ind μ = some (sp_v (sp_num g n), μ) := by
  have hle := h.le
  subst ha hb
  rw [fn176_T _ _ _ _ (by omega), fn174_at h (i := 0) hn (by omega), am_op_some]
  dsimp only
  have eE : w32 ((p : Int) + (n : Int)) = ((p + n : Nat) : Int) := by rw [w32_id (by omega) (by omega)]; omega
  rw [eE]
  by_cases hm : g 0 = 45
  · have em : sp_m g n = 1 := by unfold sp_m; rw [if_pos ⟨hn, hm⟩]
    rw [if_pos hm, w32_id (by omega) (by omega)]
    obtain ⟨V, q1, q2⟩ := L176_52_ok h 1 rfl n am_fuel ((p : Int) + 1) 0 0 1 0 (by unfold am_fuel; omega) (by omega) rfl (by omega) (by omega) (by omega)
    rw [q1, am_op_some, am_lp_r]
    rw [Nat.zero_add] at q2 ⊢
    exact nr_T_ok h 1 _ 1 em (fun v h1 h2 => by rw [w64_id (by omega) (by omega)]; rfl) (fun h6 => q2 (by omega) (by omega) (by decide)) (by omega)
  · have em : sp_m g n = 0 := by unfold sp_m; rw [if_neg (fun z => hm z.2)]
    rw [if_neg hm]
    obtain ⟨V, q1, q2⟩ := L176_52_ok h 0 rfl n am_fuel (p : Int) 0 0 0 0 (by unfold am_fuel; omega) (by omega) rfl (by omega) (by omega) (by omega)
    rw [q1, am_op_some, am_lp_r]
    rw [Nat.zero_add] at q2 ⊢
    exact nr_T_ok h 0 _ 0 em (fun v h1 h2 => rfl) (fun h6 => q2 (by omega) (by omega) (by decide)) (by omega)
