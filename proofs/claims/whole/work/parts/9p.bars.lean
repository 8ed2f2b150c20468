/-! Bars. -/
section BL
/-- the near end's row, moved where the segment before filled it -/
def nr (near a b : Int) : Int := if near = 0 ∨ a = b then a else if b < a then a - 1 else a + 1
def sgl (H fi la Lf A : Int) (c i : Nat) (near far v : Int) : List Dot := blk (b_s Lf A c i) v (b_e Lf A c i - b_s Lf A c i).toNat (max (nr near (rw_ H fi la near) (rw_ H fi la far)) (rw_ H fi la far) + 1 - min (nr near (rw_ H fi la near) (rw_ H fi la far)) (rw_ H fi la far)).toNat (min (nr near (rw_ H fi la near) (rw_ H fi la far)) (rw_ H fi la far))
def col (j : Nat) : Int := 3 + ((j % 4 : Nat) : Int)
def brs (H fi la Lf A : Int) (c : Nat) (seg : Nat → Nat → Int) (i g : Nat) : Nat → Nat → List Dot
  | 0, _ => []
  | m + 1, j => (if 0 < seg g j then sgl H fi la Lf A c i (e_ab seg j g) (e_ab seg j g + seg g j) (col j) else if seg g j < 0 then sgl H fi la Lf A c i (e_bl seg j g) (e_bl seg j g + seg g j) (col j) else []) ++ brs H fi la Lf A c seg i g m (j + 1)
def brg (H fi la Lf A : Int) (c S : Nat) (seg : Nat → Nat → Int) (O : List Nat) : Nat → Nat → List Dot
  | 0, _ => []
  | m + 1, i => brs H fi la Lf A c seg i (O.getD i 0) S 0 ++ brg H fi la Lf A c S seg O m (i + 1)
/-- ref: rows from top to foot, one left out -/
def bkr (a x v : Int) (nx : Nat) (sk : Bool) : Nat → Int → List Dot
  | 0, _ => []
  | m + 1, y => (if sk = true ∧ y = a then [] else hln y v nx x) ++ bkr a x v nx sk m (y + 1)
theorem bkr_ne {a x v : Int} {nx : Nat} {sk : Bool} : ∀ (m : Nat) (y : Int), (sk = true → a < y ∨ y + m ≤ a) → bkr a x v nx sk m y = blk x v nx m y
  | 0, _, _ => rfl
  | m + 1, y, h => by
    unfold bkr blk
    rw [if_neg (fun z => by have := h z.1; omega), bkr_ne m (y + 1) (fun z => by have := h z; omega)]
theorem bkr_last {a x v : Int} {nx : Nat} : ∀ (m : Nat) (y : Int), a = y + m → bkr a x v nx true (m + 1) y = blk x v nx m y
  | 0, y, h => by
    unfold bkr bkr blk
    rw [if_pos ⟨rfl, by omega⟩]; rfl
  | m + 1, y, h => by
    show (if true = true ∧ y = a then [] else hln y v nx x) ++ bkr a x v nx true (m + 1) (y + 1) = hln y v nx x ++ blk x v nx m (y + 1)
    rw [if_neg (fun z => by have := z.2; omega), bkr_last m (y + 1) (by omega)]
theorem bkr_nr (near a b x v : Int) (nx : Nat) : bkr a x v nx (decide (near ≠ 0 ∧ a ≠ b)) (max a b + 1 - min a b).toNat (min a b) = blk x v nx (max (nr near a b) b + 1 - min (nr near a b) b).toNat (min (nr near a b) b) := by
  unfold nr
  by_cases c : near = 0 ∨ a = b
  · rw [if_pos c, decide_eq_false (by omega)]
    exact bkr_ne _ _ (fun z => by cases z)
  · rw [if_neg c, decide_eq_true (by omega)]
    by_cases q : b < a
    · rw [if_pos q, show (max a b + 1 - min a b).toNat = (a - b).toNat + 1 by omega, bkr_last _ _ (by omega), show (max (a - 1) b + 1 - min (a - 1) b).toNat = (a - b).toNat by omega, show min a b = min (a - 1) b by omega]
    · rw [if_neg q, show (max a b + 1 - min a b).toNat = (b - a).toNat + 1 by omega, show min a b = a by omega, show (max (a + 1) b + 1 - min (a + 1) b).toNat = (b - a).toNat by omega, show min (a + 1) b = a + 1 by omega]
      unfold bkr
      rw [if_pos ⟨rfl, rfl⟩, List.nil_append]
      exact bkr_ne _ _ (fun _ => by omega)
end BL
def sgT (a R B d : Int) (μ : am_M) : Option (Int × am_M) := (am_op (fn126 231 a μ) (fun z5 => (am_op (fn127 231 a z5.2) (fun z6 => (if z5.1 < z6.1 then (am_op (fn78 R B z6.2) (fun z10 => (am_op (fn121 R B z10.2) (fun z11 => (am_op (fn138 234 z5.1 (w32 (z6.1 - 1)) z10.1 z11.1 d z11.2) (fun z12 => some (0, z12.2))))))) else (am_op (fn78 R B z6.2) (fun z7 => (am_op (fn121 R B z7.2) (fun z8 => (am_op (fn138 234 z5.1 z6.1 z7.1 z8.1 d z8.2) (fun z9 => some (0, z9.2))))))))))))
theorem fn78_ok (a b : Int) (μ : am_M) : fn78 a b μ = some (min a b, μ) := by
  unfold fn78
  by_cases q : b < a
  · rw [if_pos q, show min a b = b by omega]
  · rw [if_neg q, show min a b = a by omega]
theorem fn121_ok (a b : Int) (μ : am_M) : fn121 a b μ = some (max a b, μ) := by
  unfold fn121
  by_cases q : a < b
  · rw [if_pos q, show max a b = b by omega]
  · rw [if_neg q, show max a b = a by omega]
section BC2
variable {W H st fi la lo hi Lf A : Int} {n c : Nat}
theorem sgT_ok (hW : W ≤ 96) (hH : 18 ≤ H ∧ H ≤ 64) (hD : BD Lf A c) {i : Nat} (hi : i < c) {x R B v : Int} (hx : x = i) (hR : 0 ≤ R ∧ R ≤ 64) (hB : 0 ≤ B ∧ B ≤ 64) (hv : 0 ≤ v ∧ v ≤ 100) {P : Cv} {μ : am_M} (hC : BC Lf A c μ) (hP : PC W H P μ) : ∃ μ', sgT x R B v μ = some (0, μ') ∧ PC W H (dts P (blk (b_s Lf A c i) v (b_e Lf A c i - b_s Lf A c i).toNat (max R B + 1 - min R B).toNat (min R B))) μ' ∧ Fc μ μ' := by
  have br := b_m_rng hD hi
  have d1 := hD.1; have d2 := hD.2.1
  obtain ⟨μ1, q1, q2, q3⟩ := fn138_ok hW hH.2 (a := b_s Lf A c i) (b := b_e Lf A c i - 1) (c := min R B) (d := max R B) (e := v) hv (by omega) (by omega) (by omega) (by omega) hP
  unfold sgT
  rw [fn126_ok hD hC (by omega) hx, am_op_some]
  dsimp only
  rw [fn127_ok hD hC hi hx, am_op_some]
  dsimp only
  rw [if_pos (by omega), fn78_ok, am_op_some]
  dsimp only
  rw [fn121_ok, am_op_some]
  dsimp only
  rw [w32_id (by omega) (by omega), q1, am_op_some]
  refine ⟨_, rfl, ?_, q3⟩
  rw [show (b_e Lf A c i - 1 + 1 - b_s Lf A c i).toNat = (b_e Lf A c i - b_s Lf A c i).toNat by omega] at q2
  exact q2
theorem fn150_ok (hW : W ≤ 96) (hH : 18 ≤ H ∧ H ≤ 64) (hS : SN st fi la n lo hi) (hD : BD Lf A c) {i : Nat} (hi : i < c) {x near far v : Int} (hx : x = i) (hn1 : fi * 27720 ≤ near) (hn2 : near ≤ la * 27720) (hf1 : fi * 27720 ≤ far) (hf2 : far ≤ la * 27720) (hv : 0 ≤ v ∧ v ≤ 100) {P : Cv} {μ : am_M} (hC3 : C3 st fi la μ) (hC : BC Lf A c μ) (hP : PC W H P μ) : ∃ μ', fn150 0 x near far v μ = some (0, μ') ∧ PC W H (dts P (sgl H fi la Lf A c i near far v)) μ' ∧ Fc μ μ' := by
  have r1 := rw_rng hS hH hn1 hn2
  have r2 := rw_rng hS hH hf1 hf2
  unfold fn150 fn139
  rw [rf_14.2.2.2.1, rf_14.2.2.2.2.1, rf_14.2.2.2.2.2.1, am_op_some]
  dsimp only
  rw [hP.2.1, fn140_ok hS hH hC3 hn1 hn2, am_op_some]
  dsimp only
  rw [am_op_some]
  dsimp only
  rw [hP.2.1, fn140_ok hS hH hC3 hf1 hf2, am_op_some]
  dsimp only
  unfold sgl nr
  by_cases c1 : near = 0
  · rw [if_pos (o_cmp_eq.mpr c1), if_pos (Or.inl c1)]
    exact sgT_ok hW hH hD hi hx (by omega) (by omega) hv hC hP
  · rw [if_neg (fun z => c1 (o_cmp_eq.mp z))]
    by_cases c2 : rw_ H fi la near = rw_ H fi la far
    · rw [if_pos c2, if_pos (Or.inr c2)]
      exact sgT_ok hW hH hD hi hx (by omega) (by omega) hv hC hP
    · rw [if_neg c2, if_neg (show ¬ (near = 0 ∨ rw_ H fi la near = rw_ H fi la far) by omega)]
      by_cases c3 : rw_ H fi la far < rw_ H fi la near
      · rw [if_pos c3, if_pos c3, w32_id (x := rw_ H fi la near + -1) (by omega) (by omega), show rw_ H fi la near + -1 = rw_ H fi la near - 1 by omega]
        exact sgT_ok hW hH hD hi hx (by omega) (by omega) hv hC hP
      · rw [if_neg c3, if_neg c3, w32_id (x := rw_ H fi la near + 1) (by omega) (by omega)]
        exact sgT_ok hW hH hD hi hx (by omega) (by omega) hv hC hP
variable {M S : Nat} {seg : Nat → Nat → Int} {lab : Nat → List Int} {O : List Nat}
/-- every end lies on the scale -/
def hV (fi la : Int) (seg : Nat → Nat → Int) (S : Nat) (O : List Nat) : Prop := ∀ i, i < O.length → ∀ j, j ≤ S → fi * 27720 ≤ e_bl seg j (O.getD i 0) ∧ e_ab seg j (O.getD i 0) ≤ la * 27720
theorem L151_21_ok (hW : W ≤ 96) (hH : 18 ≤ H ∧ H ≤ 64) (hS : SN st fi la n lo hi) (hD : BD Lf A O.length) (hB : sB seg) (hM : M ≤ 12) (hSS : S ≤ 12) (hOm : ∀ g ∈ O, g < M) (hv : hV fi la seg S O) {i : Nat} (hi : i < O.length) {ii : Int} (hii : ii = i) : ∀ (m N j : Nat) (P : Cv) (μ : am_M) (y a b : Int), m < N → y = j → j + m = S → a = e_ab seg j (O.getD i 0) → b = e_bl seg j (O.getD i 0) → GC M S seg lab O μ → C3 st fi la μ → BC Lf A O.length μ → PC W H P μ → ∃ y1 y2 y3 μ', L151_21 0 ii N a b y μ = some (.inr (y1, y2, y3, μ')) ∧ PC W H (dts P (brs H fi la Lf A O.length seg i (O.getD i 0) m j)) μ' ∧ Fc μ μ'
  | m, 0, _, _, _, _, _, _, hN, _, _, _, _, _, _, _, _ => absurd hN (by omega)
  | 0, N + 1, j, P, μ, y, a, b, hN, hy, hm, ha, hb, hG, hC3, hC, hP => by
    rw [L151_21, rf_14.2.2.1]
    unfold fn103
    rw [am_op_some]
    dsimp only
    rw [if_neg (by rw [hG.1]; omega)]
    exact ⟨_, _, _, _, rfl, hP, Fc.refl _⟩
  | m + 1, N + 1, j, P, μ, y, a, b, hN, hy, hm, ha, hb, hG, hC3, hC, hP => by
    have hO8 := hD.2.2.2
    have v0 := hv i hi j (by omega)
    have v1 := hv i hi (j + 1) (by omega)
    have b0 := hB.bl hSS (O.getD i 0) j (by omega)
    have a0 := hB.ab hSS (O.getD i 0) j (by omega)
    have b1 := hB.bl hSS (O.getD i 0) (j + 1) (by omega)
    have a1 := hB.ab hSS (O.getD i 0) (j + 1) (by omega)
    have e1 : e_bl seg (j + 1) (O.getD i 0) = e_bl seg j (O.getD i 0) + min (seg (O.getD i 0) j) 0 := rfl
    have e2 : e_ab seg (j + 1) (O.getD i 0) = e_ab seg j (O.getD i 0) + max (seg (O.getD i 0) j) 0 := rfl
    have ec : w32 (3 + o_rem y 4) = col j := by rw [o_rem_nn (by omega) (by omega) (by omega) (by omega), w32_id (by omega) (by omega)]; unfold col; omega
    have cr : 0 ≤ col j ∧ col j ≤ 100 := by unfold col; omega
    have go : ∀ (a' b' : Int) (P' : Cv) (μ1 : am_M), a' = e_ab seg (j + 1) (O.getD i 0) → b' = e_bl seg (j + 1) (O.getD i 0) → Fc μ μ1 → PC W H P' μ1 → ∃ y1 y2 y3 μ', L151_21 0 ii N a' b' (y + 1) μ1 = some (.inr (y1, y2, y3, μ')) ∧ PC W H (dts P' (brs H fi la Lf A O.length seg i (O.getD i 0) m (j + 1))) μ' ∧ Fc μ μ' := fun a' b' P' μ1 ha' hb' q3 q2 => by
      obtain ⟨y1, y2, y3, μ2, r1, r2, r3⟩ := L151_21_ok hW hH hS hD hB hM hSS hOm hv hi hii m N (j + 1) P' μ1 (y + 1) a' b' (by omega) (by omega) (by omega) ha' hb' (hG.fr hM (fun c t _ _ => q3 c t (by omega))) (hC3.fr (fun t => q3 _ _ (by omega))) (hC.fr (fun t _ _ => q3 _ _ (by omega))) q2
      exact ⟨y1, y2, y3, μ2, r1, r2, q3.trans r3⟩
    rw [L151_21, rf_14.2.2.1]
    unfold fn103
    rw [am_op_some]
    dsimp only
    rw [if_pos (by rw [hG.1]; omega), fn105_ok hG hM hSS (by omega) hOm hi (j := j) (by omega) hii hy, am_op_some]
    dsimp only
    rw [ec, w32_id (x := y + 1) (by omega) (by omega)]
    unfold brs
    rw [dts_app]
    by_cases c1 : 0 < seg (O.getD i 0) j
    · rw [if_pos (o_cmp_gt.mpr c1), if_pos c1, ha, w64_id (by omega) (by omega)]
      obtain ⟨μ1, q1, q2, q3⟩ := fn150_ok hW hH hS hD hi hii (near := e_ab seg j (O.getD i 0)) (far := e_ab seg j (O.getD i 0) + seg (O.getD i 0) j) (v := col j) (by omega) (by omega) (by omega) (by omega) cr hC3 hC hP
      rw [q1, am_op_some]
      exact go _ _ _ μ1 (by omega) (by omega) q3 q2
    · rw [if_neg (fun z => c1 (o_cmp_gt.mp z)), if_neg c1]
      by_cases c2 : seg (O.getD i 0) j < 0
      · rw [if_pos (o_cmp_lt.mpr c2), if_pos c2, hb, w64_id (by omega) (by omega)]
        obtain ⟨μ1, q1, q2, q3⟩ := fn150_ok hW hH hS hD hi hii (near := e_bl seg j (O.getD i 0)) (far := e_bl seg j (O.getD i 0) + seg (O.getD i 0) j) (v := col j) (by omega) (by omega) (by omega) (by omega) cr hC3 hC hP
        rw [q1, am_op_some]
        exact go _ _ _ μ1 (by omega) (by omega) q3 q2
      · rw [if_neg (fun z => c2 (o_cmp_lt.mp z)), if_neg c2]
        exact go _ _ P μ (by omega) (by omega) (Fc.refl _) hP
theorem L151_2_ok (hW : W ≤ 96) (hH : 18 ≤ H ∧ H ≤ 64) (hS : SN st fi la n lo hi) (hD : BD Lf A O.length) (hB : sB seg) (hM : M ≤ 12) (hSS : S ≤ 12) (hOm : ∀ g ∈ O, g < M) (hv : hV fi la seg S O) : ∀ (m N i : Nat) (P : Cv) (μ : am_M) (y : Int), m < N → y = i → i + m = O.length → GC M S seg lab O μ → C3 st fi la μ → BC Lf A O.length μ → PC W H P μ → ∃ y' μ', L151_2 0 N y μ = some (.inr (y', μ')) ∧ PC W H (dts P (brg H fi la Lf A O.length S seg O m i)) μ' ∧ Fc μ μ'
  | m, 0, _, _, _, _, hN, _, _, _, _, _, _ => absurd hN (by omega)
  | 0, N + 1, i, P, μ, y, hN, hy, hm, hG, hC3, hC, hP => by
    rw [L151_2, rf_14.2.2.1]
    unfold fn101
    rw [am_op_some]
    dsimp only
    rw [if_neg (by rw [hG.2.1]; omega)]
    exact ⟨_, _, rfl, hP, Fc.refl _⟩
  | m + 1, N + 1, i, P, μ, y, hN, hy, hm, hG, hC3, hC, hP => by
    have hO8 := hD.2.2.2
    obtain ⟨y1, y2, y3, μ1, q1, q2, q3⟩ := L151_21_ok (lab := lab) hW hH hS hD hB hM hSS hOm hv (i := i) (by omega) hy S am_fuel 0 P μ 0 0 0 (by unfold am_fuel; omega) rfl (by omega) rfl rfl hG hC3 hC hP
    rw [L151_2, rf_14.2.2.1]
    unfold fn101
    rw [am_op_some]
    dsimp only
    rw [if_pos (by rw [hG.2.1]; omega), q1, am_op_some, am_lp_r]
    dsimp only
    rw [w32_id (by omega) (by omega)]
    obtain ⟨y', μ2, r1, r2, r3⟩ := L151_2_ok hW hH hS hD hB hM hSS hOm hv m N (i + 1) _ μ1 (y + 1) (by omega) (by omega) (by omega) (hG.fr hM (fun c t _ _ => q3 c t (by omega))) (hC3.fr (fun t => q3 _ _ (by omega))) (hC.fr (fun t _ _ => q3 _ _ (by omega))) q2
    refine ⟨y', μ2, r1, ?_, q3.trans r3⟩
    unfold brg
    rw [dts_app]
    exact r2
end BC2
