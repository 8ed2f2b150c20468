/-! The ends of the scale: class. -/
theorem fn106_ok (a b : Int) (μ : am_M) : fn106 a b μ = some (min a b, μ) := by
  unfold fn106
  by_cases h : b < a
  · rw [if_pos (o_cmp_gt.mpr h), show min a b = b by omega]
  · rw [if_neg (fun z => h (o_cmp_gt.mp z)), show min a b = a by omega]
theorem fn107_ok (a b : Int) (μ : am_M) : fn107 a b μ = some (max a b, μ) := by
  unfold fn107
  by_cases h : a < b
  · rw [if_pos (o_cmp_lt.mpr h), show max a b = b by omega]
  · rw [if_neg (fun z => h (o_cmp_lt.mp z)), show max a b = a by omega]
section EC
variable {M S : Nat} {seg : Nat → Nat → Int} {lab : Nat → List Int} {O : List Nat}
def e_bl (seg : Nat → Nat → Int) (S g : Nat) : Int := dsum (fun s => min (seg g s) 0) S
def e_ab (seg : Nat → Nat → Int) (S g : Nat) : Int := dsum (fun s => max (seg g s) 0) S
def e_bar (seg : Nat → Nat → Int) (S : Nat) (O : List Nat) : Nat → Int × Int
  | 0 => (0, 0)
  | k + 1 => (min (e_bar seg S O k).1 (e_bl seg S (O.getD k 0)), max (e_bar seg S O k).2 (e_ab seg S (O.getD k 0)))
def e_val (seg : Nat → Nat → Int) (S : Nat) (O : List Nat) : Nat → Int × Int
  | 0 => (dsum (seg (O.getD 0 0)) S, dsum (seg (O.getD 0 0)) S)
  | k + 1 => (min (e_val seg S O k).1 (dsum (seg (O.getD k 0)) S), max (e_val seg S O k).2 (dsum (seg (O.getD k 0)) S))
def sB (seg : Nat → Nat → Int) : Prop := ∀ g s, -332640000000000 ≤ seg g s ∧ seg g s ≤ 332640000000000
theorem sB.sum (h : sB seg) (hS : S ≤ 12) (g k : Nat) (hk : k ≤ S) : -4000000000000000 ≤ dsum (seg g) k ∧ dsum (seg g) k ≤ 4000000000000000 := by
  have := dsum_rng (f := seg g) (B := 332640000000000) (h g) k
  have hB : ((k : Nat) : Int) * 332640000000000 ≤ 12 * 332640000000000 := by omega
  omega
theorem sB.bl (h : sB seg) (hS : S ≤ 12) (g k : Nat) (hk : k ≤ S) : -4000000000000000 ≤ e_bl seg k g ∧ e_bl seg k g ≤ 0 := by
  have h1 := dsum_rng (f := fun s => min (seg g s) 0) (B := 332640000000000) (fun s => by have := h g s; omega) k
  have hB : ((k : Nat) : Int) * 332640000000000 ≤ 12 * 332640000000000 := by omega
  have h2 : ∀ k, dsum (fun s => min (seg g s) 0) k ≤ 0 := fun k => by
    induction k with
    | zero => exact Int.le_refl _
    | succ k ih => unfold dsum; omega
  unfold e_bl
  have := h2 k
  omega
theorem sB.ab (h : sB seg) (hS : S ≤ 12) (g k : Nat) (hk : k ≤ S) : 0 ≤ e_ab seg k g ∧ e_ab seg k g ≤ 4000000000000000 := by
  have h1 := dsum_rng (f := fun s => max (seg g s) 0) (B := 332640000000000) (fun s => by have := h g s; omega) k
  have hB : ((k : Nat) : Int) * 332640000000000 ≤ 12 * 332640000000000 := by omega
  have h2 : ∀ k, 0 ≤ dsum (fun s => max (seg g s) 0) k := fun k => by
    induction k with
    | zero => exact Int.le_refl _
    | succ k ih => unfold dsum; omega
  unfold e_ab
  have := h2 k
  omega
theorem GC.fr {μ μ' : am_M} (h : GC M S seg lab O μ) (hM : M ≤ 12) (g : ∀ c t, 196 ≤ c → c ≤ 229 → μ' c t = μ c t) : GC M S seg lab O μ' := by
  obtain ⟨h1, h2, h3, h4⟩ := h
  refine ⟨by rw [g _ _ (by omega) (by omega)]; exact h1, by rw [g _ _ (by omega) (by omega)]; exact h2, fun j hj => by rw [g _ _ (by omega) (by omega)]; exact h3 j hj, fun q hq => ⟨by rw [g _ _ (by omega) (by omega)]; exact (h4 q hq).1, fun j hj => by rw [g _ _ (by omega) (by omega)]; exact (h4 q hq).2.1 j hj, (h4 q hq).2.2.fr (g _ _ (by omega) (by omega)) (fun i => g _ _ (by omega) (by omega))⟩⟩
theorem fn104_ok {μ : am_M} (hG : GC M S seg lab O μ) (hO : O.length ≤ 12) {i : Nat} (hi : i < O.length) {x : Int} (hx : x = i) : fn104 196 x μ = some (((O.getD i 0 : Nat) : Int), μ) := by
  unfold fn104
  rw [rf_10.2.2.2.2.2.2.2.2.2.2.2.2.2.2.1, rf_10.2.2.2.2.2.2.2.2.2.2.2.2.2.2.2.1, if_neg (by omega), if_pos (by rw [hG.2.1]; omega), if_pos (by omega), if_pos (by omega), show x.toNat = i by omega, hG.2.2.1 i hi]
theorem Om {hO : ∀ g ∈ O, g < M} {i : Nat} (hi : i < O.length) : O.getD i 0 < M := by
  refine hO _ ?_
  rw [List.getD_eq_getElem?_getD, List.getElem?_eq_getElem hi]; exact List.getElem_mem hi
theorem fn105_ok {μ : am_M} (hG : GC M S seg lab O μ) (hM : M ≤ 12) (hS : S ≤ 12) (hO : O.length ≤ 12) (hOm : ∀ g ∈ O, g < M) {i j : Nat} (hi : i < O.length) (hj : j < S) {x y : Int} (hx : x = i) (hy : y = j) : fn105 196 x y μ = some (seg (O.getD i 0) j, μ) := by
  have hg := Om (hO := hOm) hi
  unfold fn105
  rw [if_neg (by omega), if_pos (by omega), fn104_ok hG hO hi hx, am_op_some, rf_10.2.2.2.2.2.2.2.2.1, rf_10.2.2.2.2.2.2.2.2.2.1]
  dsimp only
  have e : w32 (w32 (((O.getD i 0 : Nat) : Int) * 12) + y) = ((O.getD i 0 * 12 + j : Nat) : Int) := by rw [w32_id (x := ((O.getD i 0 : Nat) : Int) * 12) (by omega) (by omega), w32_id (by omega) (by omega)]; omega
  rw [if_pos (by rw [e]; omega), e, Int.toNat_natCast, (hG.2.2.2 _ hg).2.1 j hj]
theorem fn109_ok {μ : am_M} (hG : GC M S seg lab O μ) (hM : M ≤ 12) (hO : O.length ≤ 12) (hOm : ∀ g ∈ O, g < M) {i : Nat} (hi : i < O.length) {x : Int} (hx : x = i) : fn109 196 x μ = some (dsum (seg (O.getD i 0)) S, μ) := by
  have hg := Om (hO := hOm) hi
  unfold fn109
  rw [fn104_ok hG hO hi hx, am_op_some, rf_10.2.2.2.2.2.2.2.2.2.2.1, rf_10.2.2.2.2.2.2.2.2.2.2.2.1]
  dsimp only
  rw [if_pos (by omega), Int.toNat_natCast, (hG.2.2.2 _ hg).1]
theorem L108_28_ok {μ : am_M} (hG : GC M S seg lab O μ) (hB : sB seg) (hM : M ≤ 12) (hS : S ≤ 12) (hO : O.length ≤ 12) (hOm : ∀ g ∈ O, g < M) {i : Nat} (hi : i < O.length) {ii : Int} (hii : ii = i) : ∀ (k N j : Nat) (y : Int), k < N → y = j → j + k = S → ∃ y', L108_28 230 196 ii N (e_bl seg j (O.getD i 0)) (e_ab seg j (O.getD i 0)) y μ = some (.inr (e_bl seg S (O.getD i 0), e_ab seg S (O.getD i 0), y', μ))
  | k, 0, _, _, hN, _, _ => absurd hN (by omega)
  | 0, N + 1, j, y, hN, hy, hk => by
    rw [L108_28]
    unfold fn103
    rw [am_op_some]
    dsimp only
    rw [if_neg (by rw [hG.1]; omega), show j = S by omega]
    exact ⟨_, rfl⟩
  | k + 1, N + 1, j, y, hN, hy, hk => by
    have b1 := hB.bl hS (O.getD i 0) (j + 1) (by omega)
    have a1 := hB.ab hS (O.getD i 0) (j + 1) (by omega)
    have e1 : e_bl seg (j + 1) (O.getD i 0) = e_bl seg j (O.getD i 0) + min (seg (O.getD i 0) j) 0 := rfl
    have e2 : e_ab seg (j + 1) (O.getD i 0) = e_ab seg j (O.getD i 0) + max (seg (O.getD i 0) j) 0 := rfl
    rw [L108_28]
    unfold fn103
    rw [am_op_some]
    dsimp only
    rw [if_pos (by rw [hG.1]; omega), fn105_ok hG hM hS hO hOm hi (j := j) (by omega) hii hy, am_op_some]
    dsimp only
    rw [fn106_ok, am_op_some]
    dsimp only
    rw [fn107_ok, am_op_some]
    dsimp only
    rw [w64_id (by omega) (by omega), w64_id (by omega) (by omega), w32_id (by omega) (by omega), ← e1, ← e2]
    exact L108_28_ok hG hB hM hS hO hOm hi hii k N (j + 1) (y + 1) (by omega) (by omega) (by omega)
theorem L108_12_ok (hB : sB seg) (hM : M ≤ 12) (hS : S ≤ 12) (hO : O.length ≤ 12) (hOm : ∀ g ∈ O, g < M) : ∀ (k N i : Nat) (μ : am_M) (y : Int), k < N → y = i → i + k = O.length → GC M S seg lab O μ → μ 230 0 = (e_bar seg S O i).1 → μ 230 1 = (e_bar seg S O i).2 → ∃ y' μ', L108_12 230 196 N y μ = some (.inr (y', μ')) ∧ μ' 230 0 = (e_bar seg S O O.length).1 ∧ μ' 230 1 = (e_bar seg S O O.length).2 ∧ ∀ c t, ¬ (c = 230 ∧ t ≤ 1) → μ' c t = μ c t
  | k, 0, _, _, _, hN, _, _, _, _, _ => absurd hN (by omega)
  | 0, N + 1, i, μ, y, hN, hy, hk, hG, h0, h1 => by
    rw [L108_12]
    unfold fn101
    rw [am_op_some]
    dsimp only
    rw [if_neg (by rw [hG.2.1]; omega)]
    rw [show i = O.length by omega] at h0 h1
    exact ⟨_, _, rfl, h0, h1, fun _ _ _ => rfl⟩
  | k + 1, N + 1, i, μ, y, hN, hy, hk, hG, h0, h1 => by
    obtain ⟨y', q⟩ := L108_28_ok hG hB hM hS hO hOm (i := i) (by omega) hy S am_fuel 0 0 (by unfold am_fuel; omega) rfl (by omega)
    rw [L108_12]
    unfold fn101
    rw [am_op_some]
    dsimp only
    rw [if_pos (by rw [hG.2.1]; omega), show L108_28 230 196 y am_fuel 0 0 0 μ = _ from q, am_op_some, am_lp_r]
    dsimp only
    rw [fn106_ok, am_op_some]
    dsimp only
    rw [fn107_ok, am_op_some]
    dsimp only
    have f : ∀ c t, ¬ (c = 230 ∧ t ≤ 1) → am_up (am_up μ 230 0 (min (μ 230 0) (e_bl seg S (O.getD i 0)))) 230 1 (max (am_up μ 230 0 (min (μ 230 0) (e_bl seg S (O.getD i 0))) 230 1) (e_ab seg S (O.getD i 0))) c t = μ c t := fun c t hc => by rw [up_ne (by omega), up_ne (by omega)]
    rw [w32_id (by omega) (by omega)]
    obtain ⟨y2, μ', r1, r2, r3, r4⟩ := L108_12_ok hB hM hS hO hOm k N (i + 1) (am_up (am_up μ 230 0 (min (μ 230 0) (e_bl seg S (O.getD i 0)))) 230 1 (max (am_up μ 230 0 (min (μ 230 0) (e_bl seg S (O.getD i 0))) 230 1) (e_ab seg S (O.getD i 0)))) (y + 1) (by omega) (by omega) (by omega) (hG.fr hM (fun c t c1 c2 => f c t (by omega))) (by rw [am_up_s _ _ (by decide), am_up_at, h0]; rfl) (by rw [am_up_at, am_up_s _ _ (by decide), h1]; rfl)
    exact ⟨y2, μ', r1, r2, r3, fun c t hc => by rw [r4 c t hc, f c t hc]⟩
theorem L110_ok (hM : M ≤ 12) (hO : O.length ≤ 12) (hOm : ∀ g ∈ O, g < M) : ∀ (k N i : Nat) (μ : am_M) (y : Int), k < N → y = i → i + k = O.length → GC M S seg lab O μ → μ 230 0 = (e_val seg S O i).1 → μ 230 1 = (e_val seg S O i).2 → ∃ y' μ', L110_19 230 196 N y μ = some (.inr (y', μ')) ∧ μ' 230 0 = (e_val seg S O O.length).1 ∧ μ' 230 1 = (e_val seg S O O.length).2 ∧ ∀ c t, ¬ (c = 230 ∧ t ≤ 1) → μ' c t = μ c t
  | k, 0, _, _, _, hN, _, _, _, _, _ => absurd hN (by omega)
  | 0, N + 1, i, μ, y, hN, hy, hk, hG, h0, h1 => by
    rw [L110_19]
    unfold fn101
    rw [am_op_some]
    dsimp only
    rw [if_neg (by rw [hG.2.1]; omega)]
    rw [show i = O.length by omega] at h0 h1
    exact ⟨_, _, rfl, h0, h1, fun _ _ _ => rfl⟩
  | k + 1, N + 1, i, μ, y, hN, hy, hk, hG, h0, h1 => by
    rw [L110_19]
    unfold fn101
    rw [am_op_some]
    dsimp only
    have f0 : ∀ c t, ¬ (c = 230 ∧ t = 0) → am_up μ 230 0 (min (μ 230 0) (dsum (seg (O.getD i 0)) S)) c t = μ c t := fun c t hc => up_ne hc
    rw [if_pos (by rw [hG.2.1]; omega), fn109_ok hG hM hO hOm (i := i) (by omega) hy, am_op_some]
    dsimp only
    rw [fn106_ok, am_op_some]
    dsimp only
    rw [fn109_ok (hG.fr hM (fun c t c1 c2 => f0 c t (by omega))) hM hO hOm (i := i) (by omega) hy, am_op_some]
    dsimp only
    rw [fn107_ok, am_op_some]
    dsimp only
    have f : ∀ c t, ¬ (c = 230 ∧ t ≤ 1) → am_up (am_up μ 230 0 (min (μ 230 0) (dsum (seg (O.getD i 0)) S))) 230 1 (max (am_up μ 230 0 (min (μ 230 0) (dsum (seg (O.getD i 0)) S)) 230 1) (dsum (seg (O.getD i 0)) S)) c t = μ c t := fun c t hc => by rw [up_ne (by omega), up_ne (by omega)]
    rw [w32_id (by omega) (by omega)]
    obtain ⟨y2, μ', r1, r2, r3, r4⟩ := L110_ok hM hO hOm k N (i + 1) (am_up (am_up μ 230 0 (min (μ 230 0) (dsum (seg (O.getD i 0)) S))) 230 1 (max (am_up μ 230 0 (min (μ 230 0) (dsum (seg (O.getD i 0)) S)) 230 1) (dsum (seg (O.getD i 0)) S))) (y + 1) (by omega) (by omega) (by omega) (hG.fr hM (fun c t c1 c2 => f c t (by omega))) (by rw [am_up_s _ _ (by decide), am_up_at, h0]; rfl) (by rw [am_up_at, am_up_s _ _ (by decide), h1]; rfl)
    exact ⟨y2, μ', r1, r2, r3, fun c t hc => by rw [r4 c t hc, f c t hc]⟩
/-- the ends before equal ones are moved apart -/
def e_0 (mk : Int) (seg : Nat → Nat → Int) (S : Nat) (O : List Nat) : Int × Int := if mk = 0 then e_bar seg S O O.length else e_val seg S O O.length
def e_1 (p : Int × Int) : Int × Int := if p.1 = p.2 then (p.1 - 27720000, p.2 + 27720000) else p
theorem e_0_rng (hB : sB seg) (hS : S ≤ 12) (mk : Int) : -4000000000000000 ≤ (e_0 mk seg S O).1 ∧ (e_0 mk seg S O).1 ≤ (e_0 mk seg S O).2 ∧ (e_0 mk seg S O).2 ≤ 4000000000000000 := by
  have b : ∀ k, -4000000000000000 ≤ (e_bar seg S O k).1 ∧ (e_bar seg S O k).1 ≤ 0 ∧ 0 ≤ (e_bar seg S O k).2 ∧ (e_bar seg S O k).2 ≤ 4000000000000000 := fun k => by
    induction k with
    | zero => unfold e_bar; simp
    | succ k ih =>
      have h1 := hB.bl hS (O.getD k 0) S (by omega)
      have h2 := hB.ab hS (O.getD k 0) S (by omega)
      unfold e_bar
      dsimp only
      omega
  have v : ∀ k, -4000000000000000 ≤ (e_val seg S O k).1 ∧ (e_val seg S O k).1 ≤ (e_val seg S O k).2 ∧ (e_val seg S O k).2 ≤ 4000000000000000 := fun k => by
    induction k with
    | zero =>
      have h1 := hB.sum hS (O.getD 0 0) S (by omega)
      unfold e_val
      dsimp only
      omega
    | succ k ih =>
      have h1 := hB.sum hS (O.getD k 0) S (by omega)
      unfold e_val
      dsimp only
      omega
  unfold e_0
  split
  · have := b O.length; omega
  · exact v _
theorem e_1_rng (hB : sB seg) (hS : S ≤ 12) (mk : Int) : -5000000000000000 ≤ (e_1 (e_0 mk seg S O)).1 ∧ (e_1 (e_0 mk seg S O)).1 < (e_1 (e_0 mk seg S O)).2 ∧ (e_1 (e_0 mk seg S O)).2 ≤ 5000000000000000 := by
  have := e_0_rng (O := O) hB hS mk
  unfold e_1
  split
  · dsimp only; omega
  · omega
end EC
