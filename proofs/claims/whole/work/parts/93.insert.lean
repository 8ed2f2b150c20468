/-! The class's groups added up. -/
section GA
variable {fs : List (List Int)} {cols recs : Nat} {h : Int × Int × Int × Int} {s : QC} {cnt : Nat → Bool} {gi si : Nat → Nat}
def Ol (keep : Nat → Bool) (G : Nat) : List Nat := (List.range G).filter keep
theorem Ol_s (keep : Nat → Bool) (G : Nat) : Ol keep (G + 1) = if keep G = true then Ol keep G ++ [G] else Ol keep G := by
  unfold Ol
  rw [List.range_succ, List.filter_append]
  cases hk : keep G with
  | true => simp [hk]
  | false => simp [hk]
theorem Ol_len (keep : Nat → Bool) (G : Nat) : (Ol keep G).length ≤ G := by
  have := List.length_filter_le keep (List.range G)
  rw [List.length_range] at this
  exact this
def GT (seg : Nat → Nat → Int) (keep : Nat → Bool) (S : Nat) (μ : am_M) (G : Nat) : Prop :=
  (∀ g, g < G → μ 226 g = dsum (seg g) S ∧ ∀ j, j < S → μ 225 (g * 12 + j) = seg g j) ∧ μ 196 11 = (((Ol keep G).length : Nat) : Int) ∧ ∀ i, i < (Ol keep G).length → μ 228 i = (((Ol keep G).getD i 0 : Nat) : Int)
theorem fn96_ok (hyy : h.2.2.2 = -1 ∨ (0 ≤ h.2.2.2 ∧ h.2.2.2 < (cols : Int) ∧ sp_ty fs cols recs h.2.2.2.toNat = 1)) (hme : 0 ≤ h.2.2.1 ∧ h.2.2.1 ≤ 4) (h13 : recs ≤ 13) (h1 : 1 ≤ recs) {S g : Nat} (hS : S ≤ 12) (hg12 : g < 12) {gg n : Int} (hg : gg = g) (hn : n = (recs : Int) - 1) {μ : am_M} (hC : CX fs cols recs μ h s) (hG : Gn cnt gi si (recs - 1) μ) (h10 : μ 196 10 = ((S : Nat) : Int)) (hT : GT (d_seg fs cols recs h cnt gi si) (fun g => dany (d_hs fs cols recs h cnt gi si g) S) S μ g) :
    ∃ μ', fn96 196 5 141 gg n μ = some (0, μ') ∧ GT (d_seg fs cols recs h cnt gi si) (fun g => dany (d_hs fs cols recs h cnt gi si g) S) S μ' (g + 1) ∧ ∀ c t, ¬ (225 ≤ c ∧ c ≤ 229) → ¬ (c = 196 ∧ t = 11) → μ' c t = μ c t := by
  obtain ⟨t1, t2, t3⟩ := hT
  have hlen := Ol_len (fun g => dany (d_hs fs cols recs h cnt gi si g) S) g
  obtain ⟨x', μ1, a1, a2, a3, a4⟩ := L96_13_ok (fs := fs) (cols := cols) (recs := recs) (h := h) (s := s) (cnt := cnt) (gi := gi) (si := si) hyy hme h13 h1 hS hg12 hg hn S am_fuel 0 (am_up μ 226 g 0) false 0 (by unfold am_fuel; omega) rfl (by omega) (hC.fr (fun c t hc => am_up_c _ _ (by omega))) (fun q hq => by rw [am_up_c _ _ (by decide), am_up_c _ _ (by decide)]; exact hG q hq) (by rw [am_up_c _ _ (by decide)]; exact h10) (am_up_at _ _ _ _) (fun j hj => absurd hj (by omega)) rfl
  have A : ∀ c t, c ≠ 229 → ¬ (c = 226 ∧ t = g) → ¬ (c = 225 ∧ g * 12 ≤ t ∧ t < g * 12 + 12) → μ1 c t = μ c t := fun c t c0 c1 c2 => by rw [a4 c t c0 c1 c2, up_ne c1]
  unfold fn96
  rw [rf_10.2.2.2.2.2.2.2.2.2.2.1, rf_10.2.2.2.2.2.2.2.2.2.2.2.1, rf_10.2.2.2.2.2.2.2.2.2.2.2.2.2.2.1, rf_10.2.2.2.2.2.2.2.2.2.2.2.2.2.2.2.1, if_pos (by omega), show gg.toNat = g by omega, show L96_13 196 5 141 gg n am_fuel 0 0 (am_up μ 226 g 0) = _ from a1, am_op_some, am_lp_r]
  dsimp only
  have base : ∀ g', g' < g + 1 → μ1 226 g' = dsum (d_seg fs cols recs h cnt gi si g') S ∧ ∀ j, j < S → μ1 225 (g' * 12 + j) = d_seg fs cols recs h cnt gi si g' j := fun g' hg' => by
    by_cases e : g' = g
    · rw [e]; exact ⟨a2, a3⟩
    · refine ⟨by rw [A _ _ (by omega) (by omega) (by omega)]; exact (t1 g' (by omega)).1, fun j hj => ?_⟩
      rw [A _ _ (by omega) (by omega) (by omega)]; exact (t1 g' (by omega)).2 j hj
  have e11 : μ1 196 11 = (((Ol (fun g => dany (d_hs fs cols recs h cnt gi si g) S) g).length : Nat) : Int) := by rw [A _ _ (by omega) (by omega) (by omega)]; exact t2
  have e28 : ∀ i, i < (Ol (fun g => dany (d_hs fs cols recs h cnt gi si g) S) g).length → μ1 228 i = (((Ol (fun g => dany (d_hs fs cols recs h cnt gi si g) S) g).getD i 0 : Nat) : Int) := fun i hi => by rw [A _ _ (by omega) (by omega) (by omega)]; exact t3 i hi
  have hOs := Ol_s (fun g => dany (d_hs fs cols recs h cnt gi si g) S) g
  cases hk : dany (d_hs fs cols recs h cnt gi si g) S with
  | false =>
    have hOs' : Ol (fun g => dany (d_hs fs cols recs h cnt gi si g) S) (g + 1) = Ol (fun g => dany (d_hs fs cols recs h cnt gi si g) S) g := by rw [hOs, if_neg (by rw [hk]; decide)]
    rw [if_pos (show bI false = 0 from rfl)]
    refine ⟨μ1, rfl, ⟨base, by rw [hOs']; exact e11, by rw [hOs']; exact e28⟩, fun c t c1 c2 => A c t (by omega) (by omega) (by omega)⟩
  | true =>
    have hOs' : Ol (fun g => dany (d_hs fs cols recs h cnt gi si g) S) (g + 1) = Ol (fun g => dany (d_hs fs cols recs h cnt gi si g) S) g ++ [g] := by rw [hOs, if_pos hk]
    generalize Ol (fun g => dany (d_hs fs cols recs h cnt gi si g) S) g = O at *
    have ev : am_up μ1 228 O.length gg 196 11 = ((O.length : Nat) : Int) := by rw [am_up_c _ _ (by decide)]; exact e11
    rw [if_neg (by decide), if_pos (by rw [e11]; omega), if_pos (by rw [e11]; omega), e11, Int.toNat_natCast, ev, w32_id (by omega) (by omega)]
    refine ⟨_, rfl, ⟨fun g' hg' => ?_, ?_, ?_⟩, fun c t c1 c2 => by rw [up_ne c2, up_ne (by omega), A c t (by omega) (by omega) (by omega)]⟩
    · obtain ⟨b1, b2⟩ := base g' hg'
      refine ⟨by rw [up_ne (by omega), up_ne (by omega)]; exact b1, fun j hj => by rw [up_ne (by omega), up_ne (by omega)]; exact b2 j hj⟩
    · rw [am_up_at, hOs']; simp
    · rw [hOs']
      intro i hi
      rw [getD_app, up_ne (by omega)]
      simp at hi
      by_cases hi2 : i < O.length
      · rw [if_pos hi2, up_ne (by omega)]; exact e28 i hi2
      · rw [if_neg hi2, if_pos (by omega), show i = O.length by omega, am_up_at, hg]
theorem L100_91_ok (hyy : h.2.2.2 = -1 ∨ (0 ≤ h.2.2.2 ∧ h.2.2.2 < (cols : Int) ∧ sp_ty fs cols recs h.2.2.2.toNat = 1)) (hme : 0 ≤ h.2.2.1 ∧ h.2.2.1 ≤ 4) (h13 : recs ≤ 13) (h1 : 1 ≤ recs) {S M : Nat} (hS : S ≤ 12) (hM : M ≤ 12) {n : Int} (hn : n = (recs : Int) - 1) : ∀ (k N g : Nat) (μ : am_M) (x : Int), k < N → x = g → g + k = M → CX fs cols recs μ h s → Gn cnt gi si (recs - 1) μ → μ 196 9 = ((M : Nat) : Int) → μ 196 10 = ((S : Nat) : Int) → GT (d_seg fs cols recs h cnt gi si) (fun g => dany (d_hs fs cols recs h cnt gi si g) S) S μ g →
    ∃ x' μ', L100_91 196 5 141 n N x μ = some (.inr (x', μ')) ∧ GT (d_seg fs cols recs h cnt gi si) (fun g => dany (d_hs fs cols recs h cnt gi si g) S) S μ' M ∧ ∀ c t, ¬ (225 ≤ c ∧ c ≤ 229) → ¬ (c = 196 ∧ t = 11) → μ' c t = μ c t
  | k, 0, _, _, _, hN, _, _, _, _, _, _, _ => absurd hN (by omega)
  | 0, N + 1, g, μ, x, hN, hx, hk, hC, hG, h9, h10, hT => by
    rw [L100_91, if_neg (by rw [h9]; omega)]
    exact ⟨_, _, rfl, by rw [show M = g by omega]; exact hT, fun _ _ _ _ => rfl⟩
  | k + 1, N + 1, g, μ, x, hN, hx, hk, hC, hG, h9, h10, hT => by
    obtain ⟨μ1, a1, a2, a3⟩ := fn96_ok hyy hme h13 h1 hS (g := g) (by omega) hx hn hC hG h10 hT
    rw [L100_91, if_pos (by rw [h9]; omega), if_pos (by omega), a1, am_op_some]
    dsimp only
    rw [w32_id (by omega) (by omega)]
    obtain ⟨x', μ', r1, r2, r3⟩ := L100_91_ok hyy hme h13 h1 hS hM hn k N (g + 1) μ1 (x + 1) (by omega) (by omega) (by omega) (hC.fr (fun c t hc => a3 c t (by omega) (by omega))) (fun q hq => by rw [a3 _ _ (by omega) (by omega), a3 _ _ (by omega) (by omega)]; exact hG q hq) (by rw [a3 _ _ (by omega) (by omega)]; exact h9) (by rw [a3 _ _ (by omega) (by omega)]; exact h10) a2
    exact ⟨x', μ', r1, r2, fun c t c1 c2 => by rw [r3 c t c1 c2, a3 c t c1 c2]⟩
end GA
/-! Insertion from behind. -/
section INS
def insb (p : Nat → Bool) (x : Nat) (L : List Nat) : List Nat := (L.reverse.dropWhile p).reverse ++ x :: (L.reverse.takeWhile p).reverse
theorem insb_split (p : Nat → Bool) (L : List Nat) : L = (L.reverse.dropWhile p).reverse ++ (L.reverse.takeWhile p).reverse := by
  rw [← List.reverse_append, List.takeWhile_append_dropWhile, List.reverse_reverse]
theorem insb_nil (p : Nat → Bool) (x : Nat) : insb p x [] = [x] := rfl
/-- from behind: one that must go on moves, one that may stay ends it -/
theorem insb_app (p : Nat → Bool) (x e : Nat) (L : List Nat) : insb p x (L ++ [e]) = if p e = true then insb p x L ++ [e] else L ++ [e, x] := by
  unfold insb
  rw [List.reverse_append]
  simp only [List.reverse_cons, List.reverse_nil, List.nil_append, List.singleton_append, List.dropWhile_cons, List.takeWhile_cons]
  cases p e with
  | true => simp
  | false => simp
theorem insb_len (p : Nat → Bool) (x : Nat) (L : List Nat) : (insb p x L).length = L.length + 1 := by
  have := congrArg List.length (insb_split p L)
  unfold insb
  rw [List.length_append] at this ⊢
  rw [List.length_cons]
  omega
theorem insb_perm (p : Nat → Bool) (x : Nat) (L : List Nat) : (insb p x L).Perm (L ++ [x]) := by
  have h := insb_split p L
  unfold insb
  generalize (L.reverse.dropWhile p).reverse = A at *
  generalize (L.reverse.takeWhile p).reverse = B at *
  subst h
  have h1 : (A ++ x :: B).Perm (x :: (A ++ B)) := List.perm_middle
  have h2 : ((A ++ B) ++ [x]).Perm (x :: (A ++ B)) := List.perm_append_singleton x (A ++ B)
  exact h1.trans h2.symm
def sortI (p : Nat → Nat → Bool) : List Nat → List Nat → List Nat
  | [], L => L
  | x :: r, L => sortI p r (insb (p x) x L)
theorem sortI_perm (p : Nat → Nat → Bool) : ∀ r L, (sortI p r L).Perm (L ++ r)
  | [], L => by unfold sortI; simp
  | x :: r, L => by
    unfold sortI
    refine (sortI_perm p r _).trans ?_
    have := (insb_perm (p x) x L).append_right r
    rw [List.append_assoc] at this
    exact this
/-- stable: what was ordered by T is ordered by lt first, and then by T -/
theorem sortI_pw {p : Nat → Nat → Bool} {lt T : Nat → Nat → Prop} (hp : ∀ x e, p x e = true ↔ lt x e) (has : ∀ a b, lt a b → ¬ lt b a) (hnt : ∀ a b c, ¬ lt a b → ¬ lt b c → ¬ lt a c) : ∀ r L, L.Pairwise (fun a b => lt a b ∨ (¬ lt b a ∧ T a b)) → r.Pairwise T → (∀ e ∈ L, ∀ x ∈ r, T e x) → (sortI p r L).Pairwise (fun a b => lt a b ∨ (¬ lt b a ∧ T a b))
  | [], L, hL, _, _ => by unfold sortI; exact hL
  | x :: r, L, hL, hr, hT => by
    unfold sortI
    rw [List.pairwise_cons] at hr
    refine sortI_pw hp has hnt r _ ?_ hr.2 (fun e he y hy => ?_)
    · have hsp := insb_split (p x) L
      have hB : ∀ e ∈ (L.reverse.takeWhile (p x)).reverse, lt x e := fun e he => by
        rw [List.mem_reverse] at he
        exact (hp x e).mp (List.all_eq_true.mp (List.all_takeWhile (p := p x) (l := L.reverse)) e he)
      have hA : ∀ e ∈ (L.reverse.dropWhile (p x)).reverse, ¬ lt x e := fun e he => by
        have hpA : ((L.reverse.dropWhile (p x)).reverse).Pairwise (fun a b => lt a b ∨ (¬ lt b a ∧ T a b)) := by
          rw [hsp, List.pairwise_append] at hL
          exact hL.1
        cases hD : L.reverse.dropWhile (p x) with
        | nil => rw [hD] at he; cases he
        | cons d D =>
          have hd : p x d = false := by
            have hne : L.reverse.dropWhile (p x) ≠ [] := by rw [hD]; exact List.cons_ne_nil _ _
            have z := List.head_dropWhile_not (p x) hne
            simp only [hD, List.head_cons] at z
            exact z
          have hdn : ¬ lt x d := fun z => by rw [(hp x d).mpr z] at hd; cases hd
          rw [hD, List.reverse_cons] at he hpA
          rcases List.mem_append.mp he with he | he
          · rw [List.pairwise_append] at hpA
            have q := hpA.2.2 e he d (List.mem_singleton.mpr rfl)
            have hde : ¬ lt d e := by
              rcases q with q | q
              · exact has _ _ q
              · exact q.1
            exact hnt x d e hdn hde
          · rw [List.mem_singleton.mp he]; exact hdn
      have hTx : ∀ e ∈ L, T e x := fun e he => hT e he x (List.mem_cons_self)
      unfold insb
      generalize (L.reverse.dropWhile (p x)).reverse = A at *
      generalize (L.reverse.takeWhile (p x)).reverse = B at *
      subst hsp
      rw [List.pairwise_append] at hL ⊢
      refine ⟨hL.1, List.pairwise_cons.mpr ⟨fun e he => Or.inl (hB e he), hL.2.1⟩, fun a ha b hb => ?_⟩
      rcases List.mem_cons.mp hb with hb | hb
      · rw [hb]
        exact (Classical.em (lt a x)).elim Or.inl (fun z => Or.inr ⟨hA a ha, hTx a (List.mem_append_left _ ha)⟩)
      · exact hL.2.2 a ha b hb
    · rcases List.mem_append.mp ((insb_perm (p x) x L).mem_iff.mp he) with he | he
      · exact hT e he y (List.mem_cons_of_mem _ hy)
      · rw [List.mem_singleton.mp he]; exact hr.1 y hy
end INS
