/-! Numbers: the class. -/
def gc (l : List Int) (cap i : Nat) : Int := if i < l.length ∧ i < cap then l.getD i 0 else 0
def Cr (l : List Int) : Prop := ∀ i, 0 ≤ l.getD i 0 ∧ l.getD i 0 ≤ 65535
theorem fn30_at {o a cap : Nat} (hr : am_ref o 0 = a) (hc : am_len a = cap) {μ : am_M} {l : List Int} (h : Lt μ o a cap l) (hR : Cr l) (i : Nat) {x : Int} (hx : x = i) : fn30 o x μ = some (gc l cap i, μ) := by
  subst hx
  unfold fn30 gc
  rw [hr, hc, Int.toNat_natCast, if_neg (by omega)]
  by_cases h1 : i < l.length
  · rw [if_pos (by rw [h.1]; omega)]
    by_cases h2 : i < cap
    · have z := hR i
      rw [if_pos (by omega), if_pos (by omega), h.2 i h1 h2, if_pos z, if_pos ⟨h1, h2⟩]
    · rw [if_neg (by omega), if_neg (by omega)]
  · rw [if_neg (by rw [h.1]; omega), if_neg (by omega)]
theorem fn31_e (c : Int) (μ : am_M) : fn31 c μ = some (if 48 ≤ c ∧ c ≤ 57 then 1 else 0, μ) := by
  unfold fn31
  repeat' split
  all_goals first | rfl | omega
section CN
variable {o a cap : Nat} {μ : am_M} {l : List Int}
theorem L32_ok (hr : am_ref o 0 = a) (hc : am_len a = cap) (h : Lt μ o a cap l) (hR : Cr l) (hl : l.length ≤ 1000) (l1 : Int) : ∀ (k N i : Nat) (x : Int), k < N → x = i → l.length - i ≤ k → i ≤ 2000 → L32_2 o l1 N x μ = some (.inr (((i + sd (gc l cap) l.length i : Nat) : Int), μ))
  | k, 0, _, _, hN, _, _, _ => absurd hN (by omega)
  | k, N + 1, i, x, hN, hx, hk, hi => by
    subst hx
    rw [L32_2]
    by_cases h1 : i < l.length
    · rw [if_pos (by rw [h.1]; omega), fn30_at hr hc h hR i rfl, am_op_some, fn31_e, am_op_some]
      dsimp only
      by_cases hd : 48 ≤ gc l cap i ∧ gc l cap i ≤ 57
      · rw [if_pos hd, if_neg (by decide), w32_id (by omega) (by omega), L32_ok hr hc h hR hl l1 (k - 1) N (i + 1) _ (by omega) (by omega) (by omega) (by omega), sd_yes h1 hd.1 hd.2, show i + 1 + sd (gc l cap) l.length (i + 1) = i + (sd (gc l cap) l.length (i + 1) + 1) by omega]
      · rw [if_neg hd, if_pos rfl, sd_no (by omega), Nat.add_zero]
    · rw [if_neg (by rw [h.1]; omega), sd_no (by omega), Nat.add_zero]
theorem fn32_ok (hr : am_ref o 0 = a) (hc : am_len a = cap) (h : Lt μ o a cap l) (hR : Cr l) (hl : l.length ≤ 1000) (i : Nat) {x : Int} (hx : x = i) (hi : i ≤ 2000) : fn32 o x μ = some (((sd (gc l cap) l.length i : Nat) : Int), μ) := by
  unfold fn32
  have hb : sd (gc l cap) l.length i ≤ 1000 := by
    by_cases h1 : i ≤ l.length
    · have z := sd_le (gc l cap) l.length l.length i (by omega) h1
      omega
    · rw [sd_no (by omega)]; omega
  rw [L32_ok hr hc h hR hl x l.length am_fuel i x (by unfold am_fuel; omega) hx (by omega) hi, am_op_some, am_lp_r, hx, w32_id (by omega) (by omega)]
  congr 2
  omega
theorem gc_m (l : List Int) (cap : Nat) : (gc l cap 0 = 45) ↔ (0 < l.length ∧ gc l cap 0 = 45) := by
  constructor
  · intro h
    refine ⟨?_, h⟩
    unfold gc at h
    split at h
    · omega
    · omega
  · exact fun h => h.2
/-- isNumber -/
theorem fn33_ok (hr : am_ref o 0 = a) (hc : am_len a = cap) (h : Lt μ o a cap l) (hR : Cr l) (hl : l.length ≤ 1000) : fn33 o μ = some (bI (sp_num (gc l cap) l.length).isSome, μ) := by
  -- the tree behind the sign
  have key : ∀ m : Nat, m ≤ 1 → sp_m (gc l cap) l.length = m → (am_op (fn32 o (m : Int) μ) (fun z2 => (if z2.1 < 1 then some ((0 : Int), z2.2) else (if 6 < z2.1 then some (0, z2.2) else (if w32 ((m : Int) + z2.1) = z2.2 o 1 then some (1, z2.2) else (am_op (fn32 o (w32 ((w32 ((m : Int) + z2.1)) + 1)) z2.2) (fun z3 => (am_op (fn30 o (w32 ((m : Int) + z2.1)) z3.2) (fun z4 => (if z4.1 = 46 then (if z3.1 < 1 then some (0, z4.2) else (if 3 < z3.1 then some (0, z4.2) else (if w32 ((w32 ((w32 ((m : Int) + z2.1)) + 1)) + z3.1) = z4.2 o 1 then some (1, z4.2) else some (0, z4.2)))) else some (0, z4.2))))))))))) = some (bI (sp_num (gc l cap) l.length).isSome, μ) := by
    intro m hm1 hm
    rw [fn32_ok hr hc h hR hl m rfl (by omega), am_op_some]
    dsimp only
    have hmn : m ≤ l.length := by
      rw [← hm]
      unfold sp_m
      split
      · omega
      · omega
    have hsl := sd_le (gc l cap) l.length l.length m (by omega) hmn
    unfold sp_num
    rw [hm]
    generalize hw : sd (gc l cap) l.length m = w at *
    by_cases hb : w < 1 ∨ 6 < w
    · rw [if_pos hb]
      by_cases hb1 : w < 1
      · rw [if_pos (by omega)]; rfl
      · rw [if_neg (by omega), if_pos (by omega)]; rfl
    · rw [if_neg hb, if_neg (by omega), if_neg (by omega), w32_id (x := (m : Int) + (w : Int)) (by omega) (by omega)]
      by_cases he : m + w = l.length
      · rw [if_pos (by rw [h.1]; omega), if_pos he]; rfl
      · rw [if_neg (by rw [h.1]; omega), if_neg he, w32_id (x := (m : Int) + (w : Int) + 1) (by omega) (by omega), fn32_ok hr hc h hR hl (m + w + 1) (by omega) (by omega), am_op_some]
        dsimp only
        rw [fn30_at hr hc h hR (m + w) (by omega), am_op_some]
        dsimp only
        have hsl2 := sd_le (gc l cap) l.length l.length (m + w + 1) (by omega) (by omega)
        generalize hbb : sd (gc l cap) l.length (m + w + 1) = b at *
        by_cases hpt : gc l cap (m + w) = 46
        · rw [if_pos hpt, if_pos hpt]
          by_cases hx : 1 ≤ b ∧ b ≤ 3 ∧ m + w + 1 + b = l.length
          · rw [if_pos hx, if_neg (by omega), if_neg (by omega), if_pos (by rw [w32_id (by omega) (by omega), h.1]; omega)]; rfl
          · rw [if_neg hx]
            by_cases hx1 : b < 1
            · rw [if_pos (by omega)]; rfl
            · rw [if_neg (by omega)]
              by_cases hx2 : 3 < b
              · rw [if_pos (by omega)]; rfl
              · rw [if_neg (by omega), if_neg (by rw [w32_id (by omega) (by omega), h.1]; omega)]; rfl
        · rw [if_neg hpt, if_neg hpt]; rfl
  unfold fn33
  rw [fn30_at hr hc h hR 0 (x := 0) rfl, am_op_some]
  dsimp only
  by_cases hm : gc l cap 0 = 45
  · rw [if_pos hm]
    exact key 1 (by omega) (by unfold sp_m; rw [if_pos ((gc_m l cap).mp hm)])
  · rw [if_neg hm]
    exact key 0 (by omega) (by unfold sp_m; rw [if_neg (fun z => hm z.2)])
theorem L38_seg (hr : am_ref o 0 = a) (hc : am_len a = cap) (h : Lt μ o a cap l) (hR : Cr l) (hl : l.length ≤ 1000) : ∀ (k N i c : Nat) (v ms bh x : Int), x = i → i + k ≤ l.length → (∀ j, j < k → 48 ≤ gc l cap (i + j) ∧ gc l cap (i + j) ≤ 57) → 0 ≤ v → v < pw c → c + k ≤ 12 → (bh = 0 ∨ bh = 1) → -1000 ≤ ms - bh * k → ms ≤ 1000 → L38_10 o (N + k) v ms bh x μ = L38_10 o N (sd_v (gc l cap) k i v) (ms - bh * k) bh ((i + k : Nat) : Int) μ
  | 0, N, i, c, v, ms, bh, x, hx, _, _, _, _, _, _, _, _ => by
    rw [hx, Nat.add_zero, Nat.add_zero, show ms - bh * ((0 : Nat) : Int) = ms by simp]
    rfl
  | k + 1, N, i, c, v, ms, bh, x, hx, hk, hd, h0, h1, h2, hb, hms, hms2 => by
    subst hx
    have d := hd 0 (by omega)
    rw [Nat.add_zero] at d
    have pz := pw_12 c (by omega)
    rw [show N + (k + 1) = (N + k) + 1 by omega, L38_10, if_pos (by rw [h.1]; omega), fn30_at hr hc h hR i rfl, am_op_some, fn31_e, am_op_some]
    dsimp only
    rw [if_pos d, if_neg (by decide)]
    have ew : w64 ((w64 (v * 10)) + (w32 (gc l cap i - 48))) = v * 10 + (gc l cap i - 48) := by
      rw [w64_id (x := v * 10) (by omega) (by omega), w32_id (by omega) (by omega), w64_id (by omega) (by omega)]
    have ei : w32 ((i : Int) + 1) = ((i + 1 : Nat) : Int) := by rw [w32_id (by omega) (by omega)]; omega
    have rc := fun (ms' : Int) (q1 : -1000 ≤ ms' - bh * k) (q2 : ms' ≤ 1000) => L38_seg hr hc h hR hl k N (i + 1) (c + 1) (v * 10 + (gc l cap i - 48)) ms' bh ((i + 1 : Nat) : Int) rfl (by omega) (fun j hj => by rw [show i + 1 + j = i + (j + 1) by omega]; exact hd (j + 1) (by omega)) (by omega) (by rw [show pw (c + 1) = 10 * pw c from rfl]; omega) (by omega) hb q1 q2
    rw [ew, ei]
    rcases hb with rfl | rfl
    · rw [if_pos rfl, w32_id (x := ms - 0) (by omega) (by omega), rc (ms - 0) (by omega) (by omega)]
      rw [show i + 1 + k = i + (k + 1) by omega, show ms - 0 - 0 * (k : Int) = ms - 0 * ((k + 1 : Nat) : Int) by omega]
      rfl
    · rw [if_neg (by decide), w32_id (x := ms - 1) (by omega) (by omega), rc (ms - 1) (by omega) (by omega)]
      rw [show i + 1 + k = i + (k + 1) by omega, show ms - 1 - 1 * (k : Int) = ms - 1 * ((k + 1 : Nat) : Int) by omega]
      rfl
theorem L38_83_ok (o : Nat) (μ : am_M) : ∀ (k N : Nat) (v : Int) (l3 x : Int) (i : Nat), k < N → x = i → l3 = ((i + k : Nat) : Int) → i + k ≤ 3 → 0 ≤ v → v ≤ 1000000000000 * pw i → ∃ x', L38_83 o l3 N v x μ = some (.inr (v * pw k, x', μ))
  | k, 0, _, _, _, _, hN, _, _, _, _, _ => absurd hN (by omega)
  | 0, N + 1, v, l3, x, i, hN, hx, h3, hik, h0, h1 => by
    rw [L38_83, if_neg (by omega)]
    exact ⟨x, by rw [show pw 0 = 1 from rfl, Int.mul_one]⟩
  | k + 1, N + 1, v, l3, x, i, hN, hx, h3, hik, h0, h1 => by
    have p3 : ∀ x, x < 4 → 1 ≤ pw x ∧ pw x ≤ 1000 := by decide
    have pz := p3 i (by omega)
    rw [L38_83, if_pos (by omega), w32_id (by omega) (by omega), w64_id (by omega) (by omega)]
    obtain ⟨x', q⟩ := L38_83_ok o μ k N (v * 10) l3 (x + 1) (i + 1) (by omega) (by omega) (by omega) (by omega) (by omega) (by rw [show pw (i + 1) = 10 * pw i from rfl]; omega)
    refine ⟨x', ?_⟩
    rw [q, show pw (k + 1) = 10 * pw k from rfl, Int.mul_assoc]
/-- thousandths, of a number -/
theorem fn38_ok (hr : am_ref o 0 = a) (hc : am_len a = cap) (h : Lt μ o a cap l) (hR : Cr l) (hl : l.length ≤ 1000) {v : Int} (hv : sp_num (gc l cap) l.length = some v) : fn38 o μ = some (v, μ) := by
  have hmn : sp_m (gc l cap) l.length ≤ l.length ∧ sp_m (gc l cap) l.length ≤ 1 := by
    unfold sp_m
    split <;> omega
  have hmm : ∀ i, i < sp_m (gc l cap) l.length → gc l cap i = 45 := by
    intro i hi
    unfold sp_m at hi
    split at hi
    · rename_i hz
      rw [show i = 0 by omega]; exact hz.2
    · omega
  have hm0 : (gc l cap 0 = 45) ↔ sp_m (gc l cap) l.length = 1 := by
    rw [gc_m]
    unfold sp_m
    constructor
    · intro z; rw [if_pos z]
    · intro z
      split at z
      · assumption
      · omega
  have hdig := sd_dig (gc l cap) l.length l.length (sp_m (gc l cap) l.length) (by omega)
  have hsl := sd_le (gc l cap) l.length l.length (sp_m (gc l cap) l.length) (by omega) hmn.1
  unfold sp_num at hv
  generalize hm : sp_m (gc l cap) l.length = m at *
  generalize hw : sd (gc l cap) l.length m = w at *
  split at hv
  · cases hv
  rename_i hb
  -- the beginning: the sign and the whole digits
  have p12 := pw_12
  have r1 := sd_v_rng (gc l cap) w m 0 0 hdig (by omega) (by decide)
  have beg : ∃ N, N + 20 ≥ 9000 ∧ L38_10 o am_fuel 0 3 0 0 μ = L38_10 o N (sd_v (gc l cap) w m 0) 3 0 ((m + w : Nat) : Int) μ := by
    have h0 : ∃ N, N ≥ 9998 ∧ L38_10 o am_fuel 0 3 0 0 μ = L38_10 o N 0 3 0 ((m : Nat) : Int) μ := by
      by_cases h1 : m = 0
      · exact ⟨am_fuel, by decide, by rw [h1]; rfl⟩
      · have h1 : m = 1 := by omega
        have g0 := hmm 0 (by omega)
        refine ⟨9999, by decide, ?_⟩
        rw [show am_fuel = 9999 + 1 from rfl, L38_10, if_pos (by rw [h.1]; omega), fn30_at hr hc h hR 0 (x := 0) rfl, am_op_some, fn31_e, am_op_some, g0]
        dsimp only
        rw [if_neg (show ¬ ((48 : Int) ≤ 45 ∧ (45 : Int) ≤ 57) by decide), if_pos rfl, if_neg (show ¬ (45 : Int) = 46 by decide), h1]
        rfl
    obtain ⟨N0, hN0, e0⟩ := h0
    refine ⟨N0 - w, by omega, ?_⟩
    rw [e0, show N0 = (N0 - w) + w by omega, L38_seg hr hc h hR hl w (N0 - w) m 0 0 3 0 (m : Int) rfl (by omega) hdig (by omega) (by decide) (by omega) (Or.inl rfl) (by omega) (by omega)]
    rw [show (N0 - w) + w - w = N0 - w by omega, show (3 : Int) - 0 * (w : Int) = 3 by omega]
  obtain ⟨N, hN, eb⟩ := beg
  unfold fn38
  rw [eb]
  -- the end, with the value V of b decimals
  have fin : ∀ (N b : Nat) (V bh : Int), 1 ≤ N → b ≤ 3 → 0 ≤ V → V ≤ 1000000000000 → (am_op (L38_10 o N V (3 - (b : Int)) bh ((l.length : Nat) : Int) μ) (fun s => am_lp s (fun q1 => some q1) (fun t1 => (am_op (L38_83 o t1.2.1 am_fuel t1.1 0 t1.2.2.2.2) (fun s => am_lp s (fun q2 => some q2) (fun t2 => (am_op (fn30 o 0 t2.2.2) (fun z3 => (if z3.1 = 45 then some (w64 (-t2.1), z3.2) else some (t2.1, z3.2)))))))))) = some (sp_sg m (V * pw (3 - b)), μ) := by
    intro N b V bh hN hb3 hV0 hV1
    obtain ⟨N, rfl⟩ : ∃ N', N = N' + 1 := ⟨N - 1, by omega⟩
    rw [L38_10, if_neg (by rw [h.1]; omega), am_op_some, am_lp_r]
    dsimp only
    obtain ⟨x', q⟩ := L38_83_ok o μ (3 - b) am_fuel V (3 - (b : Int)) 0 0 (by unfold am_fuel; omega) rfl (by omega) (by omega) hV0 (by rw [show pw 0 = 1 from rfl]; omega)
    rw [q, am_op_some, am_lp_r]
    dsimp only
    rw [fn30_at hr hc h hR 0 (x := 0) rfl, am_op_some]
    dsimp only
    have p3 : ∀ x, x < 4 → 1 ≤ pw x ∧ pw x ≤ 1000 := by decide
    have pc := p3 (3 - b) (by omega)
    have hb3 : V * pw (3 - b) ≤ 1000000000000000 ∧ 0 ≤ V * pw (3 - b) := by
      constructor
      · calc V * pw (3 - b) ≤ V * 1000 := Int.mul_le_mul_of_nonneg_left pc.2 hV0
          _ ≤ 1000000000000000 := by omega
      · exact Int.mul_nonneg hV0 (by omega)
    by_cases hg : gc l cap 0 = 45
    · rw [if_pos hg, w64_id (by omega) (by omega)]
      unfold sp_sg
      rw [if_pos (hm0.mp hg)]
    · rw [if_neg hg]
      unfold sp_sg
      rw [if_neg (fun z => hg (hm0.mpr z))]
  have pz := pw_12 (0 + w) (by omega)
  split at hv
  · rename_i he
    cases hv
    rw [he]
    exact fin N 0 _ 0 (by omega) (by omega) r1.1 (by omega)
  · rename_i he
    split at hv
    · rename_i hpt
      have hdig2 := sd_dig (gc l cap) l.length l.length (m + w + 1) (by omega)
      generalize hbb : sd (gc l cap) l.length (m + w + 1) = b at *
      split at hv
      · rename_i hx
        cases hv
        have r2 := sd_v_rng (gc l cap) b (m + w + 1) (0 + w) _ hdig2 r1.1 r1.2
        have pz2 := pw_12 (0 + w + b) (by omega)
        obtain ⟨N, rfl⟩ : ∃ N', N = N' + 1 := ⟨N - 1, by omega⟩
        rw [L38_10, if_pos (by rw [h.1]; omega), fn30_at hr hc h hR (m + w) rfl, am_op_some, fn31_e, am_op_some, hpt]
        dsimp only
        rw [if_neg (show ¬ ((48 : Int) ≤ 46 ∧ (46 : Int) ≤ 57) by decide), if_pos rfl, if_pos rfl, w32_id (by omega) (by omega), show N = (N - b) + b by omega, L38_seg hr hc h hR hl b (N - b) (m + w + 1) (0 + w) _ 3 1 _ (by omega) (by omega) hdig2 r1.1 r1.2 (by omega) (Or.inr rfl) (by omega) (by omega), hx.2.2, show (3 : Int) - 1 * (b : Int) = 3 - (b : Int) by omega]
        exact fin _ b _ 1 (by omega) hx.2.1 r2.1 (by omega)
      · cases hv
    · cases hv
end CN
theorem sp_num_long (g : Nat → Int) {n : Nat} (h : 11 < n) : sp_num g n = none := by
  unfold sp_num
  have hm : sp_m g n ≤ 1 := by unfold sp_m; split <;> omega
  split
  · rfl
  · rw [if_neg (by omega)]
    split
    · rw [if_neg (by omega)]
    · rfl
theorem sd_congr {g g' : Nat → Int} {n : Nat} (h : ∀ i, i < n → g i = g' i) : ∀ k i, sd_n g n k i = sd_n g' n k i
  | 0, _ => rfl
  | k + 1, i => by
    unfold sd_n
    by_cases hi : i < n
    · rw [h i hi, sd_congr h k (i + 1)]
    · rw [if_neg (by omega), if_neg (by omega)]
theorem sd_v_congr {g g' : Nat → Int} : ∀ (k i : Nat) (v : Int), (∀ j, j < k → g (i + j) = g' (i + j)) → sd_v g k i v = sd_v g' k i v
  | 0, _, _, _ => rfl
  | k + 1, i, v, h => by
    unfold sd_v
    have h0 := h 0 (by omega)
    rw [Nat.add_zero] at h0
    rw [h0]
    exact sd_v_congr k (i + 1) _ (fun j hj => by rw [show i + 1 + j = i + (j + 1) by omega]; exact h (j + 1) (by omega))
theorem sp_num_congr {g g' : Nat → Int} {n : Nat} (h : ∀ i, i < n → g i = g' i) : sp_num g n = sp_num g' n := by
  have hm : sp_m g n = sp_m g' n := by
    unfold sp_m
    by_cases h0 : 0 < n
    · rw [h 0 h0]
    · rw [if_neg (by omega), if_neg (by omega)]
  have hs : ∀ i, sd g n i = sd g' n i := fun i => sd_congr h _ i
  have hmn : sp_m g' n ≤ n := by unfold sp_m; split <;> omega
  unfold sp_num
  rw [hm, hs (sp_m g' n), hs (sp_m g' n + sd g' n (sp_m g' n) + 1)]
  have l1 := sd_le g' n n (sp_m g' n) (by omega) hmn
  have e1 : sd_v g (sd g' n (sp_m g' n)) (sp_m g' n) 0 = sd_v g' (sd g' n (sp_m g' n)) (sp_m g' n) 0 := sd_v_congr _ _ _ (fun j hj => h _ (by omega))
  rw [e1]
  by_cases he : sp_m g' n + sd g' n (sp_m g' n) = n
  · rw [if_pos he, if_pos he]
  · rw [if_neg he, if_neg he, h _ (by omega)]
    have l2 := sd_le g' n n (sp_m g' n + sd g' n (sp_m g' n) + 1) (by omega) (by omega)
    rw [sd_v_congr _ (sp_m g' n + sd g' n (sp_m g' n) + 1) _ (fun j hj => h _ (by omega))]
/-- the class's view of a value of up to twelve characters, or of a longer one -/
theorem sp_num_gc (l : List Int) : sp_num (gc l 12) l.length = sp_num (fun i => l.getD i 0) l.length := by
  by_cases h : l.length ≤ 12
  · exact sp_num_congr (fun i hi => by unfold gc; rw [if_pos (by omega)])
  · rw [sp_num_long _ (by omega), sp_num_long _ (by omega)]
