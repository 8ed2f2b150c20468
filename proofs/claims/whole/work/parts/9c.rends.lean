/-! The ends of the scale: reference. -/
theorem tly_none {sel : Nat → Bool} {val : Nat → Option Int} : ∀ r, (∀ q, q < r → sel q = false) → tly sel val r = (0, 0, 0, 0, 0)
  | 0, _ => rfl
  | r + 1, h => by
    unfold tly
    rw [h r (by omega), if_neg (by decide)]
    exact tly_none r (fun q hq => h q (by omega))
theorem dany_f {f : Nat → Bool} : ∀ r, dany f r = false → ∀ q, q < r → f q = false
  | 0, _, q, hq => absurd hq (by omega)
  | r + 1, h, q, hq => by
    unfold dany at h
    rw [Bool.or_eq_false_iff] at h
    by_cases e : q = r
    · rw [e]; exact h.2
    · exact dany_f r h.1 q (by omega)
section RE
variable {fs : List (List Int)} {cols recs x : Nat} {ws : List (List Int)} {h : Int × Int × Int × Int} {s : QC}
/-- what the reference's groups are -/
def RG (fs : List (List Int)) (cols recs x : Nat) (ws : List (List Int)) (h : Int × Int × Int × Int) (s : QC) (μ : am_M) : Prop :=
  RX fs cols recs μ ws h s ∧ Rn (d_cnt fs cols recs x s.1) (k_gi fs cols recs x s) (k_si fs cols recs x s) (recs - 1) μ ∧ μ 240 38 = ((k_S fs cols recs x s : Nat) : Int) ∧ μ 240 47 = (((k_O fs cols recs x h s).length : Nat) : Int) ∧ Ar μ 256 (k_O fs cols recs x h s) ∧ (∀ e ∈ k_O fs cols recs x h s, μ 255 e = k_tot fs cols recs x h s e) ∧ ∀ j, j < (k_F fs cols recs x s).length → μ 254 j = (((k_F fs cols recs x s).getD j 0 : Nat) : Int)
theorem Rn.fr {cnt : Nat → Bool} {gi si : Nat → Nat} {n : Nat} {μ μ' : am_M} (h : Rn cnt gi si n μ) (g : ∀ c t, c = 257 ∨ c = 252 ∨ c = 253 → μ' c t = μ c t) : Rn cnt gi si n μ' := fun q hq => by
  rw [g _ _ (by omega), g _ _ (by omega), g _ _ (by omega)]; exact h q hq
theorem RG.fr {μ μ' : am_M} (q : RG fs cols recs x ws h s μ) (g : ∀ c t, (c = 240 ∧ (t ≤ 30 ∨ t = 38 ∨ t = 47)) ∨ (241 ≤ c ∧ c ≤ 257) → μ' c t = μ c t) : RG fs cols recs x ws h s μ' := by
  obtain ⟨a, b, c, d, e, f, i⟩ := q
  refine ⟨a.fr (fun c t hc => g c t (by omega)), b.fr (fun c t hc => g c t (by omega)), by rw [g _ _ (by omega)]; exact c, by rw [g _ _ (by omega)]; exact d, fun j hj => by rw [g _ _ (by omega)]; exact e j hj, fun j hj => by rw [g _ _ (by omega)]; exact f j hj, fun j hj => by rw [g _ _ (by omega)]; exact i j hj⟩
theorem kO_m {g : Nat} (hg : g ∈ k_O fs cols recs x h s) : g < (k_F fs cols recs x s).length ∧ k_keep fs cols recs x h s g = true := by
  have := (d_ord_perm _ _ _ _ _).mem_iff.mp (show g ∈ d_ord _ _ _ _ _ from hg)
  unfold Ol at this
  rw [List.mem_filter, List.mem_range] at this
  exact this
theorem kF_len (h13 : recs ≤ 13) : (k_F fs cols recs x s).length ≤ 12 := by
  have := fF_len (key := d_gk fs cols recs x) (cnt := d_cnt fs cols recs x s.1) (recs - 1)
  unfold k_F; omega
theorem kS_len (h13 : recs ≤ 13) : k_S fs cols recs x s ≤ 12 := by
  have := fF_len (key := d_sk fs cols s.2.2.1) (cnt := d_cnt fs cols recs x s.1) (recs - 1)
  unfold k_S; omega
theorem kO_len (h13 : recs ≤ 13) : (k_O fs cols recs x h s).length ≤ 12 := by
  have h1 := (d_ord_perm (sp_ty fs cols recs x) s.2.1 (k_k2 fs cols recs x s) (k_tot fs cols recs x h s) (Ol (k_keep fs cols recs x h s) (k_F fs cols recs x s).length)).length_eq
  have h2 := Ol_len (k_keep fs cols recs x h s) (k_F fs cols recs x s).length
  have h3 := kF_len (fs := fs) (cols := cols) (x := x) (s := s) h13
  unfold k_O
  omega
theorem d_sg_sel {cnt : Nat → Bool} {gi si : Nat → Nat} {g j : Nat} : d_sg cnt gi si g (j : Int) = d_sel cnt gi si g j := by
  funext r
  unfold d_sg d_sel
  rw [decide_eq_false (show ¬ ((j : Int) < 0) by omega), Bool.false_or]
  congr 1
  by_cases e : si r = j
  · rw [decide_eq_true e, decide_eq_true (by omega)]
  · rw [decide_eq_false e, decide_eq_false (by omega)]
theorem L203_ok {cnt : Nat → Bool} {gi si : Nat → Nat} {μ : am_M} (hX : RX fs cols recs μ ws h s) (hN : Rn cnt gi si (recs - 1) μ) {g j : Nat} {gg jj : Int} (hg : gg = g) (hj : jj = j) : ∀ (k N r : Nat) (b : Bool) (y : Int), k < N → y = r → r + k + 1 = recs → b = dany (d_sel cnt gi si g j) r → ∃ y', L203_5 240 gg jj N (bI b) y μ = some (.inr (bI (dany (d_sel cnt gi si g j) (recs - 1)), y', μ))
  | k, 0, _, _, _, hN', _, _, _ => absurd hN' (by omega)
  | 0, N + 1, r, b, y, hN', hy, hk, hb => by
    have h8 := hX.1.2.1
    have h13 := hX.1.2.2.2.2.2.1
    rw [L203_5, w32_id (by omega) (by omega), if_neg (by rw [h8]; omega), hb, show r = recs - 1 by omega]
    exact ⟨_, rfl⟩
  | k + 1, N + 1, r, b, y, hN', hy, hk, hb => by
    have h8 := hX.1.2.1
    have h13 := hX.1.2.2.2.2.2.1
    obtain ⟨q57, q52⟩ := hN r (by omega)
    obtain ⟨r31, l31, r32, l32, r34, l34, r35, l35, r36, l36, r37, l37⟩ := rf_12
    have b1 : (0 : Int) ≤ y ∧ y < ((12 : Nat) : Int) := by omega
    have ey : y.toNat = r := by omega
    rw [L203_5, r37, l37, r31, l31, r32, l32, w32_id (x := y + 1) (by omega) (by omega), if_pos (by rw [h8]; omega), ey]
    have go : ∀ b', b' = dany (d_sel cnt gi si g j) (r + 1) → ∃ y', L203_5 240 gg jj N (bI b') (y + 1) μ = some (.inr (bI (dany (d_sel cnt gi si g j) (recs - 1)), y', μ)) := fun b' hb' =>
      L203_ok hX hN hg hj k N (r + 1) b' (y + 1) (by omega) (by omega) (by omega) hb'
    cases hbb : b with
    | true =>
      rw [if_neg (by decide)]
      exact go true (by unfold dany; rw [← hb, hbb]; rfl)
    | false =>
      rw [if_pos (show bI false = 0 from rfl), if_pos b1]
      have hf : dany (d_sel cnt gi si g j) (r + 1) = d_sel cnt gi si g j r := by show (dany _ r || _) = _; rw [← hb, hbb]; rfl
      cases hc : cnt r with
      | false =>
        rw [hc] at q57
        rw [if_pos (show μ 257 r = 0 from q57)]
        exact go false (by rw [hf]; unfold d_sel; rw [hc]; rfl)
      | true =>
        rw [hc] at q57
        obtain ⟨q2, q3⟩ := q52 hc
        rw [if_neg (by rw [q57]; decide), if_pos b1]
        by_cases c1 : μ 252 r = gg
        · rw [if_pos c1, if_pos b1]
          by_cases c2 : μ 253 r = jj
          · rw [if_pos c2]
            exact go true (by rw [hf]; unfold d_sel; rw [hc, decide_eq_true (by omega), decide_eq_true (by omega)]; rfl)
          · rw [if_neg c2]
            exact go false (by rw [hf]; unfold d_sel; rw [hc, decide_eq_true (by omega), decide_eq_false (by omega)]; rfl)
        · rw [if_neg c1]
          exact go false (by rw [hf]; unfold d_sel; rw [hc, decide_eq_false (by omega)]; rfl)
theorem fn203_ok (hH : HS fs cols recs h s x) {μ : am_M} (hG : RG fs cols recs x ws h s μ) {g j : Nat} (hg : g ∈ k_O fs cols recs x h s) (hj : j < k_S fs cols recs x s) {gg jj : Int} (hgg : gg = g) (hjj : jj = j) : fn203 240 gg jj μ = some (k_seg fs cols recs x h s g j, μ) := by
  have h13 := hG.1.1.2.2.2.2.2.1
  have hr1 := hG.1.1.2.2.2.2.1
  obtain ⟨hx1, hx2, hmk, hme, hyy, hdir, hst, hst2, htk⟩ := hH
  obtain ⟨y', q⟩ := L203_ok hG.1 hG.2.1 hgg hjj (recs - 1) am_fuel 0 false 0 (by unfold am_fuel; omega) rfl (by omega) rfl
  unfold fn203
  rw [show L203_5 240 gg jj am_fuel 0 0 μ = _ from q, am_op_some, am_lp_r]
  dsimp only
  have es : k_seg fs cols recs x h s g j = t_amt h.2.2.1 (r_t fs cols recs h (d_cnt fs cols recs x s.1) (k_gi fs cols recs x s) (k_si fs cols recs x s) g jj) := by
    unfold r_t; rw [hjj, d_sg_sel]; rfl
  cases hd : dany (d_sel (d_cnt fs cols recs x s.1) (k_gi fs cols recs x s) (k_si fs cols recs x s) g j) (recs - 1) with
  | false =>
    rw [if_pos (show bI false = 0 from rfl)]
    have e0 : k_seg fs cols recs x h s g j = 0 := by
      show t_amt _ (tly _ _ _) = 0
      rw [tly_none _ (dany_f _ hd)]
      unfold t_amt
      dsimp only
      split
      · rfl
      · split
        · rfl
        · rfl
    rw [e0]
  | true =>
    rw [if_neg (by decide), fn199_ok hG.1 hG.2.1 hyy hme hgg, am_op_some]
    dsimp only
    have hk : r_kp h.2.2.1 (r_t fs cols recs h (d_cnt fs cols recs x s.1) (k_gi fs cols recs x s) (k_si fs cols recs x s) g jj) = true := by
      by_cases hm : h.2.2.1 = 0 ∨ h.2.2.1 = 1
      · unfold r_kp; exact decide_eq_true (by omega)
      · have hst' : s.2.2.1 < 0 := by omega
        obtain ⟨m1, m2⟩ := kO_m hg
        rw [(k_eq ⟨hx1, hx2, hmk, hme, hyy, hdir, hst, hst2, htk⟩ m1).2] at m2
        have hj0 : j = 0 := by have := k_S_1 (fs := fs) (cols := cols) (recs := recs) (x := x) hst'; omega
        have : r_t fs cols recs h (d_cnt fs cols recs x s.1) (k_gi fs cols recs x s) (k_si fs cols recs x s) g jj = r_t fs cols recs h (d_cnt fs cols recs x s.1) (k_gi fs cols recs x s) (k_si fs cols recs x s) g (-1) := by
          unfold r_t
          apply tly_congr
          intro q hq
          rw [hjj, d_sg_sel]
          unfold d_sg d_sel
          rw [decide_eq_true (show k_si fs cols recs x s q = j by rw [hj0]; exact sk_0 hst' q)]
          rfl
        rw [this]
        exact m2
    rw [if_pos hk, ← es]
theorem k_sB (hH : HS fs cols recs h s x) (h13 : recs ≤ 13) : sB (k_seg fs cols recs x h s) := fun g j => d_seg_rng (by obtain ⟨_, _, _, _, hyy, _⟩ := hH; omega) h13 g j
theorem L204_ok (hH : HS fs cols recs h s x) {μ : am_M} (hG : RG fs cols recs x ws h s μ) {g : Nat} (hg : g ∈ k_O fs cols recs x h s) {gg ss sg : Int} (hgg : gg = g) (hss : ss = ((k_S fs cols recs x s : Nat) : Int)) (hsg : sg = 1 ∨ sg = -1) : ∀ (k N j : Nat) (y a : Int), k < N → y = j → j + k = k_S fs cols recs x s → a = (if 0 < sg then e_ab (k_seg fs cols recs x h s) j g else e_bl (k_seg fs cols recs x h s) j g) → ∃ y' a', L204_6 240 gg ss sg N a y μ = some (.inr (a', y', μ)) ∧ a' = (if 0 < sg then e_ab (k_seg fs cols recs x h s) (k_S fs cols recs x s) g else e_bl (k_seg fs cols recs x h s) (k_S fs cols recs x s) g)
  | k, 0, _, _, _, hN', _, _, _ => absurd hN' (by omega)
  | 0, N + 1, j, y, a, hN', hy, hk, ha => by
    rw [L204_6, if_neg (by omega)]
    exact ⟨_, _, rfl, by rw [ha, show j = k_S fs cols recs x s by omega]⟩
  | k + 1, N + 1, j, y, a, hN', hy, hk, ha => by
    have h13 := hG.1.1.2.2.2.2.2.1
    have hB := k_sB hH h13
    have hS := kS_len (fs := fs) (cols := cols) (x := x) (s := s) h13
    have b1 := hB.bl hS g (j + 1) (by omega)
    have a1 := hB.ab hS g (j + 1) (by omega)
    have e1 : e_bl (k_seg fs cols recs x h s) (j + 1) g = e_bl (k_seg fs cols recs x h s) j g + min (k_seg fs cols recs x h s g j) 0 := rfl
    have e2 : e_ab (k_seg fs cols recs x h s) (j + 1) g = e_ab (k_seg fs cols recs x h s) j g + max (k_seg fs cols recs x h s g j) 0 := rfl
    have go := fun a' ha' => L204_ok hH hG hg hgg hss hsg k N (j + 1) (y + 1) a' (by omega) (by omega) (by omega) ha'
    rw [L204_6, if_pos (by omega), fn203_ok hH hG hg (j := j) (by omega) hgg hy, am_op_some]
    dsimp only
    rw [w32_id (x := y + 1) (by omega) (by omega)]
    by_cases hs : 0 < sg
    · rw [if_pos hs] at ha
      rw [if_pos hs, if_pos hs]
      by_cases c : 0 < k_seg fs cols recs x h s g j
      · rw [if_pos (o_cmp_gt.mpr c)]
        exact go _ (by rw [if_pos hs, w64_id (by omega) (by omega)]; omega)
      · rw [if_neg (fun z => c (o_cmp_gt.mp z))]
        exact go _ (by rw [if_pos hs, w64_id (by omega) (by omega)]; omega)
    · rw [if_neg hs] at ha
      rw [if_neg hs, if_neg hs]
      by_cases c : 0 < k_seg fs cols recs x h s g j
      · rw [if_pos (o_cmp_gt.mpr c)]
        exact go _ (by rw [if_neg hs, w64_id (by omega) (by omega)]; omega)
      · rw [if_neg (fun z => c (o_cmp_gt.mp z))]
        exact go _ (by rw [if_neg hs, w64_id (by omega) (by omega)]; omega)
theorem fn204_ok (hH : HS fs cols recs h s x) {μ : am_M} (hG : RG fs cols recs x ws h s μ) {g : Nat} (hg : g ∈ k_O fs cols recs x h s) {gg ss sg : Int} (hgg : gg = g) (hss : ss = ((k_S fs cols recs x s : Nat) : Int)) (hsg : sg = 1 ∨ sg = -1) : fn204 240 gg ss sg μ = some (if 0 < sg then e_ab (k_seg fs cols recs x h s) (k_S fs cols recs x s) g else e_bl (k_seg fs cols recs x h s) (k_S fs cols recs x s) g, μ) := by
  have h13 := hG.1.1.2.2.2.2.2.1
  have hS := kS_len (fs := fs) (cols := cols) (x := x) (s := s) h13
  obtain ⟨y', a', q, qa⟩ := L204_ok hH hG hg hgg hss hsg (k_S fs cols recs x s) am_fuel 0 0 0 (by unfold am_fuel; omega) rfl (by omega) (by split <;> rfl)
  unfold fn204
  rw [q, am_op_some, am_lp_r]
  dsimp only
  rw [qa]
theorem fn202_ok (a : Int) (μ : am_M) : ∃ μ', fn202 240 a μ = some (0, μ') ∧ μ' 240 39 = min (μ 240 39) a ∧ μ' 240 40 = max (μ 240 40) a ∧ ∀ c t, ¬ (c = 240 ∧ (t = 39 ∨ t = 40)) → μ' c t = μ c t := by
  unfold fn202
  have e40 : ∀ v, am_up μ 240 39 v 240 40 = μ 240 40 := fun v => up_ne (by omega)
  by_cases c : a < μ 240 39
  · rw [if_pos (o_cmp_lt.mpr c), e40]
    by_cases d : μ 240 40 < a
    · rw [if_pos (o_cmp_gt.mpr d)]
      exact ⟨_, rfl, by rw [up_ne (by omega), am_up_at]; omega, by rw [am_up_at]; omega, fun c t hc => by rw [up_ne (by omega), up_ne (by omega)]⟩
    · rw [if_neg (fun z => d (o_cmp_gt.mp z))]
      exact ⟨_, rfl, by rw [up_ne (by omega), am_up_at]; omega, by rw [am_up_at]; omega, fun c t hc => by rw [up_ne (by omega), up_ne (by omega)]⟩
  · rw [if_neg (fun z => c (o_cmp_lt.mp z)), e40]
    by_cases d : μ 240 40 < a
    · rw [if_pos (o_cmp_gt.mpr d)]
      exact ⟨_, rfl, by rw [up_ne (by omega), am_up_at]; omega, by rw [am_up_at]; omega, fun c t hc => by rw [up_ne (by omega), up_ne (by omega)]⟩
    · rw [if_neg (fun z => d (o_cmp_gt.mp z))]
      exact ⟨_, rfl, by rw [up_ne (by omega), am_up_at]; omega, by rw [am_up_at]; omega, fun c t hc => by rw [up_ne (by omega), up_ne (by omega)]⟩
theorem kO_at {i : Nat} (hi : i < (k_O fs cols recs x h s).length) : (k_O fs cols recs x h s).getD i 0 ∈ k_O fs cols recs x h s := by
  rw [List.getD_eq_getElem?_getD, List.getElem?_eq_getElem hi]; exact List.getElem_mem hi
/-- one group into the ends -/
def e_s (mk : Int) (seg : Nat → Nat → Int) (S : Nat) (O : List Nat) (k : Nat) : Int × Int := if mk = 0 then e_bar seg S O k else e_val seg S O k
theorem e_s_s (mk : Int) (seg : Nat → Nat → Int) (S : Nat) (O : List Nat) (k : Nat) : e_s mk seg S O (k + 1) = (min (e_s mk seg S O k).1 (if mk = 0 then e_bl seg S (O.getD k 0) else dsum (seg (O.getD k 0)) S), max (e_s mk seg S O k).2 (if mk = 0 then e_ab seg S (O.getD k 0) else dsum (seg (O.getD k 0)) S)) := by
  unfold e_s
  split
  · rfl
  · rfl
theorem e_s_b {seg : Nat → Nat → Int} {S : Nat} {O : List Nat} : ∀ k, (e_s 0 seg S O k).1 ≤ 0 ∧ 0 ≤ (e_s 0 seg S O k).2
  | 0 => ⟨Int.le_refl _, Int.le_refl _⟩
  | k + 1 => by
    have := e_s_b (seg := seg) (S := S) (O := O) k
    rw [e_s_s]
    dsimp only
    omega
theorem L205_ok (hH : HS fs cols recs h s x) : ∀ (k N i : Nat) (μ : am_M) (y : Int), k < N → y = i → i + k = (k_O fs cols recs x h s).length → RG fs cols recs x ws h s μ → μ 240 20 = h.1 → μ 240 39 = (e_s h.1 (k_seg fs cols recs x h s) (k_S fs cols recs x s) (k_O fs cols recs x h s) i).1 → μ 240 40 = (e_s h.1 (k_seg fs cols recs x h s) (k_S fs cols recs x s) (k_O fs cols recs x h s) i).2 → ∃ y' μ', L205_36 240 N y μ = some (.inr (y', μ')) ∧ μ' 240 39 = (e_0 h.1 (k_seg fs cols recs x h s) (k_S fs cols recs x s) (k_O fs cols recs x h s)).1 ∧ μ' 240 40 = (e_0 h.1 (k_seg fs cols recs x h s) (k_S fs cols recs x s) (k_O fs cols recs x h s)).2 ∧ ∀ c t, ¬ (c = 240 ∧ (t = 39 ∨ t = 40)) → μ' c t = μ c t
  | k, 0, _, _, _, hN, _, _, _, _, _, _ => absurd hN (by omega)
  | 0, N + 1, i, μ, y, hN, hy, hk, hG, h20, h39, h40 => by
    rw [L205_36, if_neg (by rw [hG.2.2.2.1]; omega)]
    rw [show i = (k_O fs cols recs x h s).length by omega] at h39 h40
    exact ⟨_, _, rfl, h39, h40, fun _ _ _ => rfl⟩
  | k + 1, N + 1, i, μ, y, hN, hy, hk, hG, h20, h39, h40 => by
    have h13 := hG.1.1.2.2.2.2.2.1
    have hol := kO_len (fs := fs) (cols := cols) (x := x) (s := s) (h := h) h13
    have hm := kO_at (fs := fs) (cols := cols) (recs := recs) (x := x) (s := s) (h := h) (i := i) (by omega)
    have hgl := (kO_m hm).1
    have hfl := kF_len (fs := fs) (cols := cols) (x := x) (s := s) h13
    have h56 := hG.2.2.2.2.1 i (by omega)
    have h55 := hG.2.2.2.2.2.1 _ hm
    obtain ⟨r31, l31, r32, l32, r34, l34, r35, l35, r36, l36, r37, l37⟩ := rf_12
    have b1 : (0 : Int) ≤ y ∧ y < ((12 : Nat) : Int) := by omega
    have ey : y.toNat = i := by omega
    have es := e_s_s h.1 (k_seg fs cols recs x h s) (k_S fs cols recs x s) (k_O fs cols recs x h s) i
    have hmk := hH.2.2.1
    rw [L205_36, r36, l36, r35, l35, if_pos (by rw [hG.2.2.2.1]; omega), ey, w32_id (x := y + 1) (by omega) (by omega)]
    by_cases c : h.1 = 0
    · rw [if_neg (by omega), if_pos b1, fn204_ok hH hG hm h56 hG.2.2.1 (Or.inr rfl), am_op_some]
      dsimp only
      rw [if_neg (by omega)]
      obtain ⟨μ1, p1, p2, p3, p4⟩ := fn202_ok (e_bl (k_seg fs cols recs x h s) (k_S fs cols recs x s) ((k_O fs cols recs x h s).getD i 0)) μ
      have hG1 : RG fs cols recs x ws h s μ1 := hG.fr (fun c t hc => p4 c t (by omega))
      rw [p1, am_op_some]
      dsimp only
      rw [if_pos b1, fn204_ok hH hG1 hm (hG1.2.2.2.2.1 i (by omega)) hG1.2.2.1 (Or.inl rfl), am_op_some]
      dsimp only
      rw [if_pos (by omega)]
      obtain ⟨μ2, u1, u2, u3, u4⟩ := fn202_ok (e_ab (k_seg fs cols recs x h s) (k_S fs cols recs x s) ((k_O fs cols recs x h s).getD i 0)) μ1
      have hG2 : RG fs cols recs x ws h s μ2 := hG1.fr (fun c t hc => u4 c t (by omega))
      rw [u1, am_op_some]
      dsimp only
      have z0 := e_s_b (seg := k_seg fs cols recs x h s) (S := k_S fs cols recs x s) (O := k_O fs cols recs x h s) i
      have hS := kS_len (fs := fs) (cols := cols) (x := x) (s := s) h13
      have b2 := (k_sB hH h13).bl hS ((k_O fs cols recs x h s).getD i 0) _ (Nat.le_refl _)
      have a2 := (k_sB hH h13).ab hS ((k_O fs cols recs x h s).getD i 0) _ (Nat.le_refl _)
      rw [← c] at z0
      rw [if_pos c, if_pos c] at es
      obtain ⟨y2, μ3, v1, v2, v3, v4⟩ := L205_ok hH k N (i + 1) μ2 (y + 1) (by omega) (by omega) (by omega) hG2 (by rw [u4 _ _ (by omega), p4 _ _ (by omega)]; exact h20) (by rw [es]; dsimp only; omega) (by rw [es]; dsimp only; omega)
      exact ⟨y2, μ3, v1, v2, v3, fun c t hc => by rw [v4 c t hc, u4 c t hc, p4 c t hc]⟩
    · rw [if_pos (by omega), if_pos b1, h56, if_pos (by omega), Int.toNat_natCast, h55]
      obtain ⟨μ1, p1, p2, p3, p4⟩ := fn202_ok (k_tot fs cols recs x h s ((k_O fs cols recs x h s).getD i 0)) μ
      rw [p1, am_op_some]
      dsimp only
      rw [if_neg c, if_neg c] at es
      obtain ⟨y2, μ3, v1, v2, v3, v4⟩ := L205_ok hH k N (i + 1) μ1 (y + 1) (by omega) (by omega) (by omega) (hG.fr (fun c t hc => p4 c t (by omega))) (by rw [p4 _ _ (by omega)]; exact h20) (by rw [es, p2, h39]; rfl) (by rw [es, p3, h40]; rfl)
      exact ⟨y2, μ3, v1, v2, v3, fun c t hc => by rw [v4 c t hc, p4 c t hc]⟩
theorem fn205_ok (hH : HS fs cols recs h s x) {μ : am_M} (hG : RG fs cols recs x ws h s μ) (h20 : μ 240 20 = h.1) (hO1 : 1 ≤ (k_O fs cols recs x h s).length) : ∃ μ', fn205 240 μ = some (0, μ') ∧ μ' 240 39 = (e_1 (e_0 h.1 (k_seg fs cols recs x h s) (k_S fs cols recs x s) (k_O fs cols recs x h s))).1 ∧ μ' 240 40 = (e_1 (e_0 h.1 (k_seg fs cols recs x h s) (k_S fs cols recs x s) (k_O fs cols recs x h s))).2 ∧ ∀ c t, ¬ (c = 240 ∧ (t = 39 ∨ t = 40)) → μ' c t = μ c t := by
  have h13 := hG.1.1.2.2.2.2.2.1
  have hol := kO_len (fs := fs) (cols := cols) (x := x) (s := s) (h := h) h13
  have hm := kO_at (fs := fs) (cols := cols) (recs := recs) (x := x) (s := s) (h := h) (i := 0) (by omega)
  have hgl := (kO_m hm).1
  have hfl := kF_len (fs := fs) (cols := cols) (x := x) (s := s) h13
  have h56 := hG.2.2.2.2.1 0 (by omega)
  have h55 := hG.2.2.2.2.2.1 _ hm
  have rng := e_0_rng (O := k_O fs cols recs x h s) (k_sB hH h13) (kS_len (fs := fs) (cols := cols) (x := x) (s := s) h13) h.1
  obtain ⟨r31, l31, r32, l32, r34, l34, r35, l35, r36, l36, r37, l37⟩ := rf_12
  have fin : ∀ μ1 : am_M, μ1 240 39 = (e_0 h.1 (k_seg fs cols recs x h s) (k_S fs cols recs x s) (k_O fs cols recs x h s)).1 → μ1 240 40 = (e_0 h.1 (k_seg fs cols recs x h s) (k_S fs cols recs x s) (k_O fs cols recs x h s)).2 → (∀ c t, ¬ (c = 240 ∧ (t = 39 ∨ t = 40)) → μ1 c t = μ c t) → ∃ μ', (if o_cmp (μ1 240 39) (μ1 240 40) = 0 then some (0, am_up (am_up μ1 240 39 (w64 ((μ1 240 39) - 27720000))) 240 40 (w64 (((am_up μ1 240 39 (w64 ((μ1 240 39) - 27720000))) 240 40) + 27720000))) else some (0, μ1)) = some ((0 : Int), μ') ∧ μ' 240 39 = (e_1 (e_0 h.1 (k_seg fs cols recs x h s) (k_S fs cols recs x s) (k_O fs cols recs x h s))).1 ∧ μ' 240 40 = (e_1 (e_0 h.1 (k_seg fs cols recs x h s) (k_S fs cols recs x s) (k_O fs cols recs x h s))).2 ∧ ∀ c t, ¬ (c = 240 ∧ (t = 39 ∨ t = 40)) → μ' c t = μ c t := fun μ1 g39 g40 gf => by
    unfold e_1
    by_cases c : (e_0 h.1 (k_seg fs cols recs x h s) (k_S fs cols recs x s) (k_O fs cols recs x h s)).1 = (e_0 h.1 (k_seg fs cols recs x h s) (k_S fs cols recs x s) (k_O fs cols recs x h s)).2
    · rw [if_pos (o_cmp_eq.mpr (by rw [g39, g40]; exact c)), if_pos c]
      refine ⟨_, rfl, ?_, ?_, fun c t hc => by rw [up_ne (by omega), up_ne (by omega)]; exact gf c t hc⟩
      · rw [up_ne (by omega), am_up_at, w64_id (by omega) (by omega), g39]
      · rw [am_up_at, up_ne (by omega), w64_id (by omega) (by omega), g40]
    · rw [if_neg (fun z => c (by rw [← g39, ← g40]; exact o_cmp_eq.mp z)), if_neg c]
      exact ⟨_, rfl, g39, g40, gf⟩
  unfold fn205
  by_cases c : h.1 = 0
  · rw [if_pos (by omega)]
    obtain ⟨y2, μ1, v1, v2, v3, v4⟩ := L205_ok hH (k_O fs cols recs x h s).length am_fuel 0 (am_up (am_up μ 240 39 0) 240 40 ((am_up μ 240 39 0) 240 39)) 0 (by unfold am_fuel; omega) rfl (by omega) (hG.fr (fun c t hc => by rw [up_ne (by omega), up_ne (by omega)])) (by rw [up_ne (by omega), up_ne (by omega)]; exact h20) (by rw [up_ne (by omega), am_up_at, c]; rfl) (by rw [am_up_at, am_up_at, c]; rfl)
    rw [v1, am_op_some, am_lp_r]
    exact fin μ1 v2 v3 (fun c t hc => by rw [v4 c t hc, up_ne (by omega), up_ne (by omega)])
  · rw [if_neg (by omega), r36, l36, r35, l35, if_pos (by omega), show (0 : Int).toNat = 0 from rfl, h56, if_pos (by omega), Int.toNat_natCast, h55]
    obtain ⟨y2, μ1, v1, v2, v3, v4⟩ := L205_ok hH (k_O fs cols recs x h s).length am_fuel 0 (am_up (am_up μ 240 39 (k_tot fs cols recs x h s ((k_O fs cols recs x h s).getD 0 0))) 240 40 ((am_up μ 240 39 (k_tot fs cols recs x h s ((k_O fs cols recs x h s).getD 0 0))) 240 39)) 0 (by unfold am_fuel; omega) rfl (by omega) (hG.fr (fun c t hc => by rw [up_ne (by omega), up_ne (by omega)])) (by rw [up_ne (by omega), up_ne (by omega)]; exact h20) (by rw [up_ne (by omega), am_up_at]; unfold e_s; rw [if_neg c]; rfl) (by rw [am_up_at, am_up_at]; unfold e_s; rw [if_neg c]; rfl)
    rw [v1, am_op_some, am_lp_r]
    exact fin μ1 v2 v3 (fun c t hc => by rw [v4 c t hc, up_ne (by omega), up_ne (by omega)])
end RE
