/-! The class's order. -/
theorem gA {α : Type} {A B : List α} {d : α} {j : Nat} : (A ++ B).getD j d = if j < A.length then A.getD j d else B.getD (j - A.length) d := by
  rw [List.getD_eq_getElem?_getD, List.getElem?_append]
  split
  · rw [List.getD_eq_getElem?_getD]
  · rw [List.getD_eq_getElem?_getD]
def Ar (μ : am_M) (c : Nat) (l : List Nat) : Prop := ∀ j, j < l.length → μ c j = ((l.getD j 0 : Nat) : Int)
section SC
variable {keyf : Nat → Int}
theorem L97_25_ok {x : Nat} (hx12 : x < 12) {xx l1 : Int} (hxx : xx = x) : ∀ (m N : Nat) (L B : List Nat) (μ : am_M) (y : Int), m < N → y = m → L.length = m → m + B.length < 12 → (∀ g ∈ L, g < 12 ∧ μ 227 g = keyf g) → μ 227 x = keyf x → (∀ j, j < m → μ 228 j = ((L.getD j 0 : Nat) : Int)) → (∀ j, j < B.length → μ 228 (m + 1 + j) = ((B.getD j 0 : Nat) : Int)) →
    ∃ m' μ', L97_25 196 l1 xx N y μ = some (.inr (((m' : Nat) : Int), μ')) ∧ m' ≤ m ∧ Ar (am_up μ' 228 m' xx) 228 (insb (fun e => decide (keyf x < keyf e)) x L ++ B) ∧ ∀ c t, ¬ (c = 228 ∧ t ≤ m) → μ' c t = μ c t
  | m, 0, _, _, _, _, hN, _, _, _, _, _, _, _ => absurd hN (by omega)
  | 0, N + 1, L, B, μ, y, hN, hy, hL, hB, hk, hkx, h1, h2 => by
    have e : L = [] := List.length_eq_zero_iff.mp hL
    subst e
    rw [L97_25, if_neg (by omega)]
    refine ⟨0, μ, by rw [hy], by omega, ?_, fun _ _ _ => rfl⟩
    rw [insb_nil]
    intro j hj
    rw [gA]
    by_cases j0 : j = 0
    · rw [j0, am_up_at]; simpa using hxx
    · rw [up_ne (by omega), if_neg (by simp; omega)]
      simp only [List.length_cons, List.length_nil, List.length_append] at hj ⊢
      have := h2 (j - 1) (by omega)
      rw [show 0 + 1 + (j - 1) = j by omega] at this
      exact this
  | m + 1, N + 1, L, B, μ, y, hN, hy, hL, hB, hk, hkx, h1, h2 => by
    obtain ⟨L', e, rfl⟩ : ∃ L' e, L = L' ++ [e] := by
      have hne : L ≠ [] := fun z => by rw [z] at hL; cases hL
      exact ⟨L.dropLast, L.getLast hne, (List.dropLast_concat_getLast hne).symm⟩
    have hL' : L'.length = m := by simp at hL; exact hL
    have he := hk e (List.mem_append_right _ (List.mem_singleton.mpr rfl))
    have hem : μ 228 m = (e : Int) := by
      have := h1 m (by omega)
      rw [getD_app, if_neg (by omega), if_pos hL'.symm] at this
      exact this
    have e1 : w32 (y - 1) = (m : Int) := by rw [w32_id (by omega) (by omega)]; omega
    have e2 : μ 228 (w32 (y - 1)).toNat = (e : Int) := by rw [e1, Int.toNat_natCast]; exact hem
    rw [L97_25, rf_10.2.2.2.2.2.2.2.2.2.2.2.2.2.2.1, rf_10.2.2.2.2.2.2.2.2.2.2.2.2.2.2.2.1, rf_10.2.2.2.2.2.2.2.2.2.2.2.2.1, rf_10.2.2.2.2.2.2.2.2.2.2.2.2.2.1, if_pos (by omega), if_pos (by rw [e1]; omega), if_pos (by rw [e2]; omega), if_pos (by omega)]
    have e3 : μ 227 (μ 228 (w32 (y - 1)).toNat).toNat = keyf e := by rw [e2, Int.toNat_natCast]; exact he.2
    have e4 : μ 227 xx.toNat = keyf x := by rw [show xx.toNat = x by omega]; exact hkx
    rw [insb_app]
    by_cases hp : keyf x < keyf e
    · rw [if_pos (by rw [o_cmp_gt, e3, e4]; exact hp), if_pos (by rw [e1]; omega), if_pos (by omega), if_pos (decide_eq_true hp), e2, show y.toNat = m + 1 by omega, w32_id (by omega) (by omega)]
      obtain ⟨m', μ', r1, r2, r3, r4⟩ := L97_25_ok hx12 hxx m N L' (e :: B) (am_up μ 228 (m + 1) (e : Int)) (y + -1) (by omega) (by omega) hL' (by simp; omega) (fun g hg => ⟨(hk g (List.mem_append_left _ hg)).1, by rw [am_up_c _ _ (by decide)]; exact (hk g (List.mem_append_left _ hg)).2⟩) (by rw [am_up_c _ _ (by decide)]; exact hkx) (fun j hj => by
        rw [up_ne (by omega)]
        have := h1 j (by omega)
        rw [getD_app, if_pos (by omega)] at this
        exact this) (fun j hj => by
        by_cases j0 : j = 0
        · rw [j0]; simp [am_up]
        · rw [up_ne (by omega)]
          have := h2 (j - 1) (by simp at hj; omega)
          rw [show m + 1 + 1 + (j - 1) = m + 1 + j by omega] at this
          rw [this]
          obtain ⟨j', rfl⟩ : ∃ j', j = j' + 1 := ⟨j - 1, by omega⟩
          simp)
      refine ⟨m', μ', r1, by omega, ?_, fun c t hc => by rw [r4 c t (by omega), up_ne (by omega)]⟩
      rw [List.append_assoc]
      exact r3
    · rw [if_neg (by rw [o_cmp_gt, e3, e4]; exact hp), if_neg (by rw [decide_eq_false hp]; decide)]
      refine ⟨m + 1, μ, by rw [hy], by omega, ?_, fun _ _ _ => rfl⟩
      intro j hj
      rw [gA, show (L' ++ [e, x]) = (L' ++ [e]) ++ [x] by simp, getD_app]
      simp only [List.length_append, List.length_cons, List.length_nil, hL'] at hj ⊢
      by_cases j1 : j < m + 1
      · rw [up_ne (by omega), if_pos (by omega), if_pos (by omega)]; exact h1 j j1
      · by_cases j2 : j = m + 1
        · rw [j2, am_up_at, if_pos (by omega), if_neg (by omega), if_pos (by omega)]; exact hxx
        · rw [up_ne (by omega), if_neg (by omega)]
          have := h2 (j - (m + 2)) (by omega)
          rw [show m + 1 + 1 + (j - (m + 2)) = j by omega] at this
          rw [this, show j - (m + (0 + 1) + (0 + 1)) = j - (m + 2) by omega]
theorem L97_2_ok : ∀ (r L : List Nat) (N : Nat) (μ : am_M) (y : Int), r.length < N → y = L.length → L.length + r.length ≤ 12 → μ 196 11 = ((L.length + r.length : Nat) : Int) → (∀ g, g ∈ L ∨ g ∈ r → g < 12 ∧ μ 227 g = keyf g) → Ar μ 228 (L ++ r) →
    ∃ x' μ', L97_2 196 N y μ = some (.inr (x', μ')) ∧ Ar μ' 228 (sortI (fun x e => decide (keyf x < keyf e)) r L) ∧ ∀ c t, c ≠ 228 → μ' c t = μ c t
  | _, _, 0, _, _, hN, _, _, _, _, _ => absurd hN (by omega)
  | [], L, N + 1, μ, y, hN, hy, hl, h11, hk, hA => by
    rw [L97_2, if_neg (by rw [h11]; simp; omega)]
    rw [List.append_nil] at hA
    exact ⟨_, _, rfl, hA, fun _ _ _ => rfl⟩
  | x :: r, L, N + 1, μ, y, hN, hy, hl, h11, hk, hA => by
    have hl' : L.length + (r.length + 1) ≤ 12 := by simpa using hl
    have hN' : r.length < N := by simpa using hN
    have h11' : μ 196 11 = ((L.length + (r.length + 1) : Nat) : Int) := by simpa using h11
    have hxk := hk x (Or.inr List.mem_cons_self)
    have ex : μ 228 y.toNat = (x : Int) := by
      rw [show y.toNat = L.length by omega]
      have := hA L.length (by simp)
      rw [gA, if_neg (by omega), Nat.sub_self] at this
      exact this
    rw [L97_2, rf_10.2.2.2.2.2.2.2.2.2.2.2.2.2.2.1, rf_10.2.2.2.2.2.2.2.2.2.2.2.2.2.2.2.1, if_pos (by rw [h11']; omega), if_pos (by omega), if_pos (by omega), ex]
    obtain ⟨m', μ1, a1, a2, a3, a4⟩ := L97_25_ok (keyf := keyf) hxk.1 (xx := (x : Int)) (l1 := y) rfl L.length am_fuel L [] μ y (by unfold am_fuel; omega) hy rfl (by simp; omega) (fun g hg => hk g (Or.inl hg)) hxk.2 (fun j hj => by
      have := hA j (by simp; omega)
      rw [gA, if_pos hj] at this
      exact this) (fun j hj => absurd hj (by simp))
    rw [a1, am_op_some, am_lp_r]
    dsimp only
    rw [if_pos (by omega), Int.toNat_natCast, w32_id (by omega) (by omega)]
    rw [List.append_nil] at a3
    have il := insb_len (fun e => decide (keyf x < keyf e)) x L
    have ip := insb_perm (fun e => decide (keyf x < keyf e)) x L
    have F : ∀ c t, ¬ (c = 228 ∧ t ≤ L.length) → am_up μ1 228 m' (x : Int) c t = μ c t := fun c t hc => by rw [up_ne (by omega), a4 c t hc]
    obtain ⟨x', μ', r1, r2, r3⟩ := L97_2_ok r (insb (fun e => decide (keyf x < keyf e)) x L) N (am_up μ1 228 m' (x : Int)) (y + 1) hN' (by omega) (by omega) (by rw [F _ _ (by omega), h11', il]; omega) (fun g hg => by
      rw [F _ _ (by omega)]
      refine hk g ?_
      rcases hg with hg | hg
      · rcases List.mem_append.mp (ip.mem_iff.mp hg) with hg | hg
        · exact Or.inl hg
        · rw [List.mem_singleton.mp hg]; exact Or.inr List.mem_cons_self
      · exact Or.inr (List.mem_cons_of_mem _ hg)) (fun j hj => by
      rw [gA, il]
      by_cases hj2 : j < L.length + 1
      · rw [if_pos hj2]; exact a3 j (by rw [il]; exact hj2)
      · rw [if_neg hj2, F _ _ (by omega)]
        rw [List.length_append, il] at hj
        have := hA j (by simp; omega)
        rw [gA, if_neg (by omega)] at this
        rw [this, show j - L.length = (j - (L.length + 1)) + 1 by omega]
        simp)
    refine ⟨x', μ', r1, ?_, fun c t hc => by rw [r3 c t hc, F c t (by omega)]⟩
    unfold sortI
    exact r2
theorem fn97_ok {l : List Nat} {μ : am_M} (hl : l.length ≤ 12) (h11 : μ 196 11 = ((l.length : Nat) : Int)) (hk : ∀ g ∈ l, g < 12 ∧ μ 227 g = keyf g) (hA : Ar μ 228 l) : ∃ μ', fn97 196 μ = some (0, μ') ∧ Ar μ' 228 (sortI (fun x e => decide (keyf x < keyf e)) l []) ∧ ∀ c t, c ≠ 228 → μ' c t = μ c t := by
  unfold fn97
  cases l with
  | nil =>
    rw [show am_fuel = 9999 + 1 from rfl, L97_2, if_neg (by rw [h11]; simp), am_op_some, am_lp_r]
    exact ⟨_, rfl, fun j hj => absurd hj (by unfold sortI; simp), fun _ _ _ => rfl⟩
  | cons a r =>
    obtain ⟨x', μ', r1, r2, r3⟩ := L97_2_ok (keyf := keyf) r [a] am_fuel μ 1 (by simp at hl; unfold am_fuel; omega) rfl (by simp at hl ⊢; omega) (by rw [h11]; simp; omega) (fun g hg => hk g (by
      rcases hg with hg | hg
      · rw [List.mem_singleton.mp hg]; exact List.mem_cons_self
      · exact List.mem_cons_of_mem _ hg)) hA
    rw [r1, am_op_some, am_lp_r]
    refine ⟨μ', rfl, ?_, r3⟩
    unfold sortI
    rw [insb_nil]
    exact r2
theorem L99_17_ok {fs : List (List Int)} {cols recs x : Nat} (hx : x < cols) {F : List Nat} (hF : F.length ≤ 12) (hFr : ∀ f ∈ F, f + 1 < recs) {xx : Int} (hxx : xx = x) : ∀ (k N g : Nat) (μ : am_M) (y : Int), k < N → y = g → g + k = F.length → CT μ fs cols recs → CW μ fs cols recs cols → μ 196 9 = ((F.length : Nat) : Int) → (∀ j, j < F.length → μ 199 j = ((F.getD j 0 : Nat) : Int)) → (∀ j, j < g → μ 227 j = d_wor fs cols recs (F.getD j 0) x) →
    ∃ x' μ', L99_17 196 5 141 xx N y μ = some (.inr (x', μ')) ∧ (∀ j, j < F.length → μ' 227 j = d_wor fs cols recs (F.getD j 0) x) ∧ ∀ c t, c ≠ 227 → μ' c t = μ c t
  | k, 0, _, _, _, hN, _, _, _, _, _, _, _ => absurd hN (by omega)
  | 0, N + 1, g, μ, y, hN, hy, hk, hC, hW, h9, h199, h227 => by
    rw [L99_17, if_neg (by rw [h9]; omega)]
    rw [show g = F.length by omega] at h227
    exact ⟨_, _, rfl, h227, fun _ _ _ => rfl⟩
  | k + 1, N + 1, g, μ, y, hN, hy, hk, hC, hW, h9, h199, h227 => by
    have hgl : g < F.length := by omega
    have hm : F.getD g 0 ∈ F := by
      rw [List.getD_eq_getElem?_getD, List.getElem?_eq_getElem hgl]; exact List.getElem_mem hgl
    have e : μ 199 y.toNat = ((F.getD g 0 : Nat) : Int) := by rw [show y.toNat = g by omega]; exact h199 g hgl
    rw [L99_17, rf_10.2.2.2.2.1, rf_10.2.2.2.2.2.1, rf_10.2.2.2.2.2.2.2.2.2.2.2.2.1, rf_10.2.2.2.2.2.2.2.2.2.2.2.2.2.1, if_pos (by rw [h9]; omega), if_pos (by omega), if_pos (by omega), fn80_ok hC hW (r := F.getD g 0) (hFr _ hm) hx e hxx, am_op_some]
    dsimp only
    rw [if_pos (by omega), show y.toNat = g by omega, w32_id (by omega) (by omega)]
    obtain ⟨x', μ', r1, r2, r3⟩ := L99_17_ok hx hF hFr hxx k N (g + 1) (am_up μ 227 g (d_wor fs cols recs (F.getD g 0) x)) (y + 1) (by omega) (by omega) (by omega) (hC.fw (fun c t hc => am_up_c _ _ (by omega))) (hW.fw (fun c t hc => am_up_c _ _ (by omega))) (by rw [am_up_c _ _ (by decide)]; exact h9) (fun j hj => by rw [am_up_c _ _ (by decide)]; exact h199 j hj) (fun j hj => by
      by_cases hjg : j = g
      · rw [hjg, am_up_at]
      · rw [up_ne (by omega)]; exact h227 j (by omega))
    exact ⟨x', μ', r1, r2, fun c t hc => by rw [r3 c t hc, am_up_c _ _ hc]⟩
theorem L99_72_ok {M : Nat} (hM : M ≤ 12) {d : Int} (hd : d = -1 ∨ d = 0 ∨ d = 1) {tot : Nat → Int} (ht : ∀ g, -9000000000000000000 ≤ tot g ∧ tot g ≤ 9000000000000000000) : ∀ (k N g : Nat) (μ : am_M) (y : Int), k < N → y = g → g + k = M → μ 141 10 = d → μ 196 9 = ((M : Nat) : Int) → (∀ j, j < M → μ 226 j = tot j) → (∀ j, j < g → μ 227 j = d * tot j) →
    ∃ x' μ', L99_72 196 141 N y μ = some (.inr (x', μ')) ∧ (∀ j, j < M → μ' 227 j = d * tot j) ∧ ∀ c t, c ≠ 227 → μ' c t = μ c t
  | k, 0, _, _, _, hN, _, _, _, _, _, _ => absurd hN (by omega)
  | 0, N + 1, g, μ, y, hN, hy, hk, h10, h9, h226, h227 => by
    rw [L99_72, if_neg (by rw [h9]; omega)]
    rw [show g = M by omega] at h227
    exact ⟨_, _, rfl, h227, fun _ _ _ => rfl⟩
  | k + 1, N + 1, g, μ, y, hN, hy, hk, h10, h9, h226, h227 => by
    have hr : -9000000000000000000 ≤ d * tot g ∧ d * tot g ≤ 9000000000000000000 := by
      have := ht g
      rcases hd with e | e | e <;> rw [e] <;> omega
    rw [L99_72, if_pos (by rw [h9]; omega), if_pos (by omega)]
    unfold fn98
    rw [am_op_some, rf_10.2.2.2.2.2.2.2.2.2.2.1, rf_10.2.2.2.2.2.2.2.2.2.2.2.1, rf_10.2.2.2.2.2.2.2.2.2.2.2.2.1, rf_10.2.2.2.2.2.2.2.2.2.2.2.2.2.1]
    dsimp only
    rw [if_pos (by omega), if_pos (by omega), show y.toNat = g by omega, h10, h226 g (by omega), w64_id (by omega) (by omega), w32_id (by omega) (by omega)]
    obtain ⟨x', μ', r1, r2, r3⟩ := L99_72_ok hM hd ht k N (g + 1) (am_up μ 227 g (d * tot g)) (y + 1) (by omega) (by omega) (by omega) (by rw [am_up_c _ _ (by decide)]; exact h10) (by rw [am_up_c _ _ (by decide)]; exact h9) (fun j hj => by rw [am_up_c _ _ (by decide)]; exact h226 j hj) (fun j hj => by
      by_cases hjg : j = g
      · rw [hjg, am_up_at]
      · rw [up_ne (by omega)]; exact h227 j (by omega))
    exact ⟨x', μ', r1, r2, fun c t hc => by rw [r3 c t hc, am_up_c _ _ hc]⟩
end SC
