/-! The reference's seats. -/
def r_ah (t dir : Int) (k2 tot : Nat → Int) (fst : Nat → Nat) (a b : Nat) : Bool :=
  if dir = 0 ∨ tot a = tot b then (if t = 3 then decide (fst a < fst b) else decide (k2 a < k2 b)) else if 0 < dir then decide (tot a < tot b) else decide (tot b < tot a)
theorem sortI_app (p : Nat → Nat → Bool) (x : Nat) : ∀ l L, sortI p (l ++ [x]) L = insb (p x) x (sortI p l L)
  | [], L => rfl
  | a :: l, L => by
    rw [List.cons_append]
    unfold sortI
    exact sortI_app p x l _
section RSe
variable {fs : List (List Int)} {cols recs : Nat} {ws : List (List Int)} {h : Int × Int × Int × Int} {s : QC}
theorem fn200_ok {μ : am_M} (hX : RX fs cols recs μ ws h s) {x : Nat} (hx : x < cols) (hhx : h.2.1 = (x : Int)) {F : List Nat} (hF : F.length ≤ 12) (hFr : ∀ f ∈ F, f + 1 < recs ∧ sp_c fs cols x f ≠ []) (h254 : ∀ j, j < F.length → μ 254 j = ((F.getD j 0 : Nat) : Int)) {tot : Nat → Int} {a b : Nat} (ha : a < F.length) (hb : b < F.length) (va : μ 255 a = tot a) (vb : μ 255 b = tot b) {aa bb : Int} (haa : aa = a) (hbb : bb = b) :
    fn200 240 aa bb μ = some (bI (r_ah (sp_ty fs cols recs x) s.2.1 (fun g => d_wor fs cols recs (F.getD g 0) x) tot (fun g => F.getD g 0) a b), μ) := by
  have h5 := hX.1.2.2.2.1
  have h28 : μ 240 28 = s.2.1 := hX.2.2.2.2.2.2.2.2.2.2.1
  have h21 : μ 240 21 = (x : Int) := by rw [← hhx]; exact hX.2.2.2.2.1
  have ety : μ 246 (μ 240 21).toNat = sp_ty fs cols recs x := by rw [h21, Int.toNat_natCast]; exact hX.2.1 x hx
  have ga : ∀ j, j < F.length → F.getD j 0 ∈ F := fun j hj => by
    rw [List.getD_eq_getElem?_getD, List.getElem?_eq_getElem hj]; exact List.getElem_mem hj
  have fa := hFr _ (ga a ha)
  have fb := hFr _ (ga b hb)
  obtain ⟨r31, l31, r32, l32, r34, l34, r35, l35, r36, l36, r37, l37⟩ := rf_12
  obtain ⟨r4, l4, r17, l17, r18, l18, r10, l10, r11, l11, r15, l15, -⟩ := rf_8
  have ea : aa.toNat = a := by omega
  have eb : bb.toNat = b := by omega
  have ba : (0 : Int) ≤ aa ∧ aa < ((12 : Nat) : Int) := by omega
  have bb' : (0 : Int) ≤ bb ∧ bb < ((12 : Nat) : Int) := by omega
  have e1 := h254 a ha
  have e2 := h254 b hb
  have cm : ∀ (p : Prop) [Decidable p] (q : Prop) [Decidable q], (p ↔ q) → (if p then some ((1 : Int), μ) else some (0, μ)) = some (bI (decide q), μ) := fun p _ q _ hpq => by
    by_cases hp : p
    · rw [if_pos hp, decide_eq_true (hpq.mp hp)]; rfl
    · rw [if_neg hp, decide_eq_false (fun z => hp (hpq.mpr z))]; rfl
  have byty : (if (0 : Int) ≤ μ 240 21 ∧ μ 240 21 < ((5 : Nat) : Int) then (if μ 246 (μ 240 21 : Int).toNat = 3 then (if (0 : Int) ≤ aa ∧ aa < ((12 : Nat) : Int) then (if (0 : Int) ≤ bb ∧ bb < ((12 : Nat) : Int) then (if μ 254 aa.toNat < μ 254 bb.toNat then some ((1 : Int), μ) else some (0, μ)) else none) else none) else (if (0 : Int) ≤ aa ∧ aa < ((12 : Nat) : Int) then (am_op (fn193 240 (μ 254 aa.toNat) (μ 240 21) μ) (fun z1 => (if (0 : Int) ≤ bb ∧ bb < ((12 : Nat) : Int) then (am_op (fn193 240 (z1.2 254 bb.toNat) (z1.2 240 21) z1.2) (fun z2 => (if o_cmp z1.1 z2.1 < 0 then some (1, z2.2) else some (0, z2.2)))) else none))) else none)) else none) = some (bI (if sp_ty fs cols recs x = 3 then decide (F.getD a 0 < F.getD b 0) else decide (d_wor fs cols recs (F.getD a 0) x < d_wor fs cols recs (F.getD b 0) x)), μ) := by
    rw [if_pos (show (0 : Int) ≤ μ 240 21 ∧ μ 240 21 < ((5 : Nat) : Int) by omega), ea, eb]
    by_cases t3 : sp_ty fs cols recs x = 3
    · rw [if_pos (ety.trans t3), if_pos ba, if_pos bb', if_pos t3]
      exact cm _ _ (by rw [e1, e2]; omega)
    · rw [if_neg (fun z => t3 (ety.symm.trans z)), if_pos ba, if_neg t3, h21, fn193_ok hX.1 hX.2.1 fa.1 hx fa.2 t3 e1 rfl, am_op_some]
      dsimp only
      rw [if_pos bb', h21, fn193_ok hX.1 hX.2.1 fb.1 hx fb.2 t3 e2 rfl, am_op_some]
      exact cm _ _ o_cmp_lt
  unfold fn200 r_ah
  rw [r15, l15, r34, l34, r35, l35]
  by_cases d0 : s.2.1 = 0
  · rw [if_pos (h28.trans d0), if_pos (Or.inl d0)]
    exact byty
  · rw [if_neg (fun z => d0 (h28.symm.trans z)), if_pos ba, if_pos bb']
    have va' : μ 255 aa.toNat = tot a := by rw [ea]; exact va
    have vb' : μ 255 bb.toNat = tot b := by rw [eb]; exact vb
    by_cases et : tot a = tot b
    · rw [if_pos (show o_cmp (μ 255 aa.toNat) (μ 255 bb.toNat) = 0 by rw [o_cmp_eq, va', vb']; exact et), if_pos (Or.inr et)]
      exact byty
    · rw [if_neg (show ¬ (o_cmp (μ 255 aa.toNat) (μ 255 bb.toNat) = 0) by rw [o_cmp_eq, va', vb']; exact et), if_neg (show ¬ (s.2.1 = 0 ∨ tot a = tot b) from fun z => z.elim d0 et)]
      by_cases dp : 0 < s.2.1
      · rw [if_pos (by rw [h28]; exact dp), if_pos ba, if_pos bb', if_pos dp]
        exact cm _ _ (by rw [o_cmp_lt, va', vb'])
      · rw [if_neg (by rw [h28]; exact dp), if_pos ba, if_pos bb', if_neg dp]
        exact cm _ _ (by rw [o_cmp_gt, va', vb'])
theorem L201_39_ok {x : Nat} (hx : x < cols) (hhx : h.2.1 = (x : Int)) {F : List Nat} (hF : F.length ≤ 12) (hFr : ∀ f ∈ F, f + 1 < recs ∧ sp_c fs cols x f ≠ []) {tot : Nat → Int} {g : Nat} (hg : g < F.length) {gg l1 : Int} (hgg : gg = g) : ∀ (m N : Nat) (L B : List Nat) (μ : am_M) (y : Int), m < N → y = m → L.length = m → m + B.length < 12 → RX fs cols recs μ ws h s → (∀ j, j < F.length → μ 254 j = ((F.getD j 0 : Nat) : Int)) → (∀ e ∈ L, e < F.length ∧ μ 255 e = tot e) → μ 255 g = tot g → (∀ j, j < m → μ 256 j = ((L.getD j 0 : Nat) : Int)) → (∀ j, j < B.length → μ 256 (m + 1 + j) = ((B.getD j 0 : Nat) : Int)) →
    ∃ m' μ', L201_39 240 l1 gg N y μ = some (.inr (((m' : Nat) : Int), μ')) ∧ m' ≤ m ∧ Ar (am_up μ' 256 m' gg) 256 (insb (r_ah (sp_ty fs cols recs x) s.2.1 (fun g => d_wor fs cols recs (F.getD g 0) x) tot (fun g => F.getD g 0) g) g L ++ B) ∧ ∀ c t, ¬ (c = 256 ∧ t ≤ m) → μ' c t = μ c t
  | m, 0, _, _, _, _, hN, _, _, _, _, _, _, _, _, _ => absurd hN (by omega)
  | 0, N + 1, L, B, μ, y, hN, hy, hL, hB, hX, h254, hk, hkx, h1, h2 => by
    have e : L = [] := List.length_eq_zero_iff.mp hL
    subst e
    rw [L201_39, if_neg (by omega)]
    refine ⟨0, μ, by rw [hy], by omega, ?_, fun _ _ _ => rfl⟩
    rw [insb_nil]
    intro j hj
    rw [gA]
    by_cases j0 : j = 0
    · rw [j0, am_up_at]; simpa using hgg
    · rw [up_ne (by omega), if_neg (by simp; omega)]
      simp only [List.length_cons, List.length_nil, List.length_append] at hj ⊢
      have := h2 (j - 1) (by omega)
      rw [show 0 + 1 + (j - 1) = j by omega] at this
      exact this
  | m + 1, N + 1, L, B, μ, y, hN, hy, hL, hB, hX, h254, hk, hkx, h1, h2 => by
    obtain ⟨L', e, rfl⟩ : ∃ L' e, L = L' ++ [e] := by
      have hne : L ≠ [] := fun z => by rw [z] at hL; cases hL
      exact ⟨L.dropLast, L.getLast hne, (List.dropLast_concat_getLast hne).symm⟩
    have hL' : L'.length = m := by simp at hL; exact hL
    have he := hk e (List.mem_append_right _ (List.mem_singleton.mpr rfl))
    have hem : μ 256 m = (e : Int) := by
      have := h1 m (by omega)
      rw [getD_app, if_neg (by omega), if_pos hL'.symm] at this
      exact this
    have e1 : w32 (y - 1) = (m : Int) := by rw [w32_id (by omega) (by omega)]; omega
    have e2 : μ 256 (w32 (y - 1)).toNat = (e : Int) := by rw [e1, Int.toNat_natCast]; exact hem
    obtain ⟨r31, l31, r32, l32, r34, l34, r35, l35, r36, l36, r37, l37⟩ := rf_12
    rw [L201_39, r36, l36, if_pos (by omega), if_pos (by rw [e1]; omega), e2, fn200_ok hX hx hhx hF hFr h254 hg he.1 hkx he.2 hgg rfl, am_op_some]
    dsimp only
    rw [insb_app]
    cases hp : r_ah (sp_ty fs cols recs x) s.2.1 (fun g => d_wor fs cols recs (F.getD g 0) x) tot (fun g => F.getD g 0) g e with
    | true =>
      rw [if_neg (by decide), if_pos (by rw [e1]; omega), if_pos (by omega), if_pos rfl, e2, show y.toNat = m + 1 by omega, w32_id (by omega) (by omega)]
      obtain ⟨m', μ', r1, r2, r3, r4⟩ := L201_39_ok hx hhx hF hFr (tot := tot) hg hgg m N L' (e :: B) (am_up μ 256 (m + 1) (e : Int)) (y + -1) (by omega) (by omega) hL' (by simp; omega) (hX.fr (fun c t hc => am_up_c _ _ (by omega))) (fun j hj => by rw [am_up_c _ _ (by decide)]; exact h254 j hj) (fun q hq => ⟨(hk q (List.mem_append_left _ hq)).1, by rw [am_up_c _ _ (by decide)]; exact (hk q (List.mem_append_left _ hq)).2⟩) (by rw [am_up_c _ _ (by decide)]; exact hkx) (fun j hj => by
        rw [up_ne (by omega)]
        have := h1 j (by omega)
        rw [getD_app, if_pos (by omega)] at this
        exact this) (fun j hj => by
        by_cases j0 : j = 0
        · rw [j0]; simp [am_up]
        · rw [up_ne (by omega)]
          have := h2 (j - 1) (by simp at hj; omega)
          rw [show m + 1 + 1 + (j - 1) = m + 1 + j by omega] at this
          rw [this]
          obtain ⟨j', rfl⟩ : ∃ j', j = j' + 1 := ⟨j - 1, by omega⟩
          simp)
      refine ⟨m', μ', r1, by omega, ?_, fun c t hc => by rw [r4 c t (by omega), up_ne (by omega)]⟩
      rw [List.append_assoc]
      exact r3
    | false =>
      rw [if_pos (show bI false = 0 from rfl), if_neg (by decide)]
      refine ⟨m + 1, μ, by rw [hy], by omega, ?_, fun _ _ _ => rfl⟩
      intro j hj
      rw [gA, show (L' ++ [e, g]) = (L' ++ [e]) ++ [g] by simp, getD_app]
      simp only [List.length_append, List.length_cons, List.length_nil, hL'] at hj ⊢
      by_cases j1 : j < m + 1
      · rw [up_ne (by omega), if_pos (by omega), if_pos (by omega)]; exact h1 j j1
      · by_cases j2 : j = m + 1
        · rw [j2, am_up_at, if_pos (by omega), if_neg (by omega), if_pos (by omega)]; exact hgg
        · rw [up_ne (by omega), if_neg (by omega)]
          have := h2 (j - (m + 2)) (by omega)
          rw [show m + 1 + 1 + (j - (m + 2)) = j by omega] at this
          rw [this, show j - (m + (0 + 1) + (0 + 1)) = j - (m + 2) by omega]
variable {cnt : Nat → Bool} {gi si : Nat → Nat}
def r_tot (fs : List (List Int)) (cols recs : Nat) (h : Int × Int × Int × Int) (cnt : Nat → Bool) (gi si : Nat → Nat) (g : Nat) : Int := t_amt h.2.2.1 (r_t fs cols recs h cnt gi si g (-1))
def r_keep (fs : List (List Int)) (cols recs : Nat) (h : Int × Int × Int × Int) (cnt : Nat → Bool) (gi si : Nat → Nat) (g : Nat) : Bool := r_kp h.2.2.1 (r_t fs cols recs h cnt gi si g (-1))
theorem L201_4_ok (hyy : (h.2.2.1 = 0 ∧ h.2.2.2 = -1) ∨ (h.2.2.1 ≠ 0 ∧ 0 ≤ h.2.2.2 ∧ h.2.2.2 < (cols : Int) ∧ sp_ty fs cols recs h.2.2.2.toNat = 1)) (hme : 0 ≤ h.2.2.1 ∧ h.2.2.1 ≤ 4) {x : Nat} (hx : x < cols) (hhx : h.2.1 = (x : Int)) {F : List Nat} (hF : F.length ≤ 12) (hFr : ∀ f ∈ F, f + 1 < recs ∧ sp_c fs cols x f ≠ []) : ∀ (k N g : Nat) (μ : am_M) (L : List Nat) (x1 x2 : Int), k < N → x2 = g → g + k = F.length → x1 = ((L.length : Nat) : Int) → L = sortI (r_ah (sp_ty fs cols recs x) s.2.1 (fun g => d_wor fs cols recs (F.getD g 0) x) (r_tot fs cols recs h cnt gi si) (fun g => F.getD g 0)) (Ol (r_keep fs cols recs h cnt gi si) g) [] → RX fs cols recs μ ws h s → Rn cnt gi si (recs - 1) μ → μ 240 33 = ((F.length : Nat) : Int) → (∀ j, j < F.length → μ 254 j = ((F.getD j 0 : Nat) : Int)) → (∀ e ∈ L, μ 255 e = r_tot fs cols recs h cnt gi si e) → Ar μ 256 L →
    ∃ y1 y2 μ' L', L201_4 240 N x1 x2 μ = some (.inr (y1, y2, μ')) ∧ y1 = ((L'.length : Nat) : Int) ∧ L' = sortI (r_ah (sp_ty fs cols recs x) s.2.1 (fun g => d_wor fs cols recs (F.getD g 0) x) (r_tot fs cols recs h cnt gi si) (fun g => F.getD g 0)) (Ol (r_keep fs cols recs h cnt gi si) F.length) [] ∧ (∀ e ∈ L', μ' 255 e = r_tot fs cols recs h cnt gi si e) ∧ Ar μ' 256 L' ∧ ∀ c t, c ≠ 255 → c ≠ 256 → μ' c t = μ c t
  | k, 0, _, _, _, _, _, hN, _, _, _, _, _, _, _, _, _, _ => absurd hN (by omega)
  | 0, N + 1, g, μ, L, x1, x2, hN, hx2, hk, hx1, hL, hX, hn, h33, h254, h255, hA => by
    rw [L201_4, if_neg (by rw [h33]; omega)]
    rw [show g = F.length by omega] at hL
    exact ⟨_, _, _, L, rfl, hx1, hL, h255, hA, fun _ _ _ _ => rfl⟩
  | k + 1, N + 1, g, μ, L, x1, x2, hN, hx2, hk, hx1, hL, hX, hn, h33, h254, h255, hA => by
    obtain ⟨r31, l31, r32, l32, r34, l34, r35, l35, r36, l36, r37, l37⟩ := rf_12
    have bg : (0 : Int) ≤ x2 ∧ x2 < ((12 : Nat) : Int) := by omega
    have hLp : L.Perm (Ol (r_keep fs cols recs h cnt gi si) g) := by rw [hL]; exact sortI_perm _ _ []
    have hLm : ∀ e ∈ L, e < g := fun e he => by
      have := hLp.mem_iff.mp he
      unfold Ol at this
      exact List.mem_range.mp (List.mem_filter.mp this).1
    have hLl : L.length ≤ g := by rw [hLp.length_eq]; exact Ol_len _ _
    rw [L201_4, r35, l35, r36, l36, if_pos (by rw [h33]; omega), fn199_ok hX hn hyy hme hx2, am_op_some]
    dsimp only
    rw [if_pos bg, if_pos bg, am_up_at, show x2.toNat = g by omega, w32_id (x := x2 + 1) (by omega) (by omega)]
    have hOs := Ol_s (r_keep fs cols recs h cnt gi si) g
    have hr := t_amt_rng (tly_inv (sel := d_sg cnt gi si g (-1)) (val := d_val fs cols recs h.2.2.2) (recs - 1) (fun q hq => d_val_rng (by omega) (by omega))) (by have := hX.1.2.2.2.2.2.1; omega) h.2.2.1
    have er : r_kp h.2.2.1 (r_t fs cols recs h cnt gi si g (-1)) = r_keep fs cols recs h cnt gi si g := rfl
    have et : t_amt h.2.2.1 (r_t fs cols recs h cnt gi si g (-1)) = r_tot fs cols recs h cnt gi si g := rfl
    have hr' : -332640000000000 ≤ r_tot fs cols recs h cnt gi si g ∧ r_tot fs cols recs h cnt gi si g ≤ 332640000000000 := hr
    rw [er, et]
    cases hkp : r_keep fs cols recs h cnt gi si g with
    | false =>
      rw [if_neg (show ¬ (false = true) by decide), if_pos (o_cmp_eq.mpr rfl)]
      have hO' : Ol (r_keep fs cols recs h cnt gi si) (g + 1) = Ol (r_keep fs cols recs h cnt gi si) g := by rw [hOs, if_neg (by rw [hkp]; decide)]
      obtain ⟨y1, y2, μ', L', q1, q2, q3, q4, q5, q6⟩ := L201_4_ok hyy hme hx hhx hF hFr k N (g + 1) (am_up μ 255 g (-9223372036854775808)) L x1 (x2 + 1) (by omega) (by omega) (by omega) hx1 (by rw [hO']; exact hL) (hX.fr (fun c t hc => am_up_c _ _ (by omega))) (fun q hq => by rw [am_up_c _ _ (by decide), am_up_c _ _ (by decide), am_up_c _ _ (by decide)]; exact hn q hq) (by rw [am_up_c _ _ (by decide)]; exact h33) (fun j hj => by rw [am_up_c _ _ (by decide)]; exact h254 j hj) (fun e he => by rw [up_ne (by have := hLm e he; omega)]; exact h255 e he) (fun j hj => by rw [am_up_c _ _ (by decide)]; exact hA j hj)
      exact ⟨y1, y2, μ', L', q1, q2, q3, q4, q5, fun c t c1 c2 => by rw [q6 c t c1 c2, am_up_c _ _ c1]⟩
    | true =>
      rw [if_pos rfl, if_neg (fun z => by have := o_cmp_eq.mp z; omega)]
      have hO' : Ol (r_keep fs cols recs h cnt gi si) (g + 1) = Ol (r_keep fs cols recs h cnt gi si) g ++ [g] := by rw [hOs, if_pos hkp]
      have hX1 : RX fs cols recs (am_up μ 255 g (r_tot fs cols recs h cnt gi si g)) ws h s := hX.fr (fun c t hc => am_up_c _ _ (by omega))
      obtain ⟨m', μ1, a1, a2, a3, a4⟩ := L201_39_ok (tot := r_tot fs cols recs h cnt gi si) hx hhx hF hFr (g := g) (by omega) (gg := x2) (l1 := x1) hx2 L.length am_fuel L [] (am_up μ 255 g (r_tot fs cols recs h cnt gi si g)) x1 (by unfold am_fuel; omega) hx1 rfl (by simp; omega) hX1 (fun j hj => by rw [am_up_c _ _ (by decide)]; exact h254 j hj) (fun e he => by have := hLm e he; exact ⟨by omega, by rw [up_ne (by omega)]; exact h255 e he⟩) (am_up_at _ _ _ _) (fun j hj => by rw [am_up_c _ _ (by decide)]; exact hA j hj) (fun j hj => absurd hj (by simp))
      rw [List.append_nil] at a3
      rw [a1, am_op_some, am_lp_r]
      dsimp only
      rw [if_pos (by omega), Int.toNat_natCast, w32_id (by omega) (by omega)]
      have il := insb_len (r_ah (sp_ty fs cols recs x) s.2.1 (fun g => d_wor fs cols recs (F.getD g 0) x) (r_tot fs cols recs h cnt gi si) (fun g => F.getD g 0) g) g L
      have ip := insb_perm (r_ah (sp_ty fs cols recs x) s.2.1 (fun g => d_wor fs cols recs (F.getD g 0) x) (r_tot fs cols recs h cnt gi si) (fun g => F.getD g 0) g) g L
      have FF : ∀ c t, c ≠ 256 → am_up μ1 256 m' x2 c t = am_up μ 255 g (r_tot fs cols recs h cnt gi si g) c t := fun c t hc => by rw [am_up_c _ _ hc, a4 c t (by omega)]
      obtain ⟨y1, y2, μ', L', q1, q2, q3, q4, q5, q6⟩ := L201_4_ok hyy hme hx hhx hF hFr k N (g + 1) (am_up μ1 256 m' x2) (insb (r_ah (sp_ty fs cols recs x) s.2.1 (fun g => d_wor fs cols recs (F.getD g 0) x) (r_tot fs cols recs h cnt gi si) (fun g => F.getD g 0) g) g L) (x1 + 1) (x2 + 1) (by omega) (by omega) (by omega) (by rw [il]; omega) (by rw [hO', sortI_app, ← hL]) (hX1.fr (fun c t hc => FF c t (by omega))) (fun q hq => by rw [FF _ _ (by decide), FF _ _ (by decide), FF _ _ (by decide), am_up_c _ _ (by decide), am_up_c _ _ (by decide), am_up_c _ _ (by decide)]; exact hn q hq) (by rw [FF _ _ (by decide), am_up_c _ _ (by decide)]; exact h33) (fun j hj => by rw [FF _ _ (by decide), am_up_c _ _ (by decide)]; exact h254 j hj) (fun e he => by
        rw [FF _ _ (by decide)]
        rcases List.mem_append.mp (ip.mem_iff.mp he) with he | he
        · rw [up_ne (by have := hLm e he; omega)]; exact h255 e he
        · rw [List.mem_singleton.mp he, am_up_at]) a3
      exact ⟨y1, y2, μ', L', q1, q2, q3, q4, q5, fun c t c1 c2 => by rw [q6 c t c1 c2, FF c t c2, am_up_c _ _ c1]⟩
end RSe
