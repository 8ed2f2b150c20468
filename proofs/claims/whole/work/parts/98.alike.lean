/-! Class and reference carry out alike. -/
section LK
variable {t dir : Int} {k2 tot tot' : Nat → Int} {fst : Nat → Nat}
def Qo (t dir : Int) (k2 tot : Nat → Int) (a b : Nat) : Prop := dir * tot a < dir * tot b ∨ (dir * tot a = dir * tot b ∧ ((t ≠ 3 ∧ k2 a < k2 b) ∨ ((t = 3 ∨ k2 a = k2 b) ∧ a < b)))
theorem d_ord_pw (hdir : dir = -1 ∨ dir = 0 ∨ dir = 1) {O : List Nat} (hO : O.Pairwise (· < ·)) : (d_ord t dir k2 tot O).Pairwise (Qo t dir k2 tot) := by
  have h1 : (if t = 3 then O else sortI (fun x e => decide (k2 x < k2 e)) O []).Pairwise (fun a b => (t ≠ 3 ∧ k2 a < k2 b) ∨ ((t = 3 ∨ k2 a = k2 b) ∧ a < b)) := by
    by_cases t3 : t = 3
    · rw [if_pos t3]
      exact hO.imp (fun {a b} hab => Or.inr ⟨Or.inl t3, hab⟩)
    · rw [if_neg t3]
      have := sortI_pw (p := fun x e => decide (k2 x < k2 e)) (lt := fun a b => k2 a < k2 b) (T := (· < ·)) (fun x e => decide_eq_true_iff) (fun a b h => by omega) (fun a b c h1 h2 => by omega) O [] List.Pairwise.nil hO (fun e he => by cases he)
      exact this.imp (fun {a b} hab => by
        rcases hab with hab | ⟨h1, h2⟩
        · exact Or.inl ⟨t3, hab⟩
        · by_cases q : k2 a < k2 b
          · exact Or.inl ⟨t3, q⟩
          · exact Or.inr ⟨Or.inr (by omega), h2⟩)
  unfold d_ord
  by_cases d0 : dir = 0
  · rw [if_pos d0]
    exact h1.imp (fun {a b} hab => Or.inr ⟨by rw [d0]; simp, hab⟩)
  · rw [if_neg d0]
    have := sortI_pw (p := fun x e => decide (dir * tot x < dir * tot e)) (lt := fun a b => dir * tot a < dir * tot b) (T := fun a b => (t ≠ 3 ∧ k2 a < k2 b) ∨ ((t = 3 ∨ k2 a = k2 b) ∧ a < b)) (fun x e => decide_eq_true_iff) (fun a b h => by omega) (fun a b c h1 h2 => by omega) _ [] List.Pairwise.nil h1 (fun e he => by cases he)
    exact this.imp (fun {a b} hab => by
      rcases hab with hab | ⟨h1, h2⟩
      · exact Or.inl hab
      · by_cases q : dir * tot a < dir * tot b
        · exact Or.inl q
        · exact Or.inr ⟨by omega, h2⟩)
theorem r_ord_pw (hdir : dir = -1 ∨ dir = 0 ∨ dir = 1) {O : List Nat} (hO : O.Pairwise (· < ·)) (hf : ∀ a ∈ O, ∀ b ∈ O, fst a < fst b → a < b) (ht : ∀ a ∈ O, tot' a = tot a) : (sortI (r_ah t dir k2 tot' fst) O []).Pairwise (Qo t dir k2 tot) := by
  have hp : ∀ a b, r_ah t dir k2 tot' fst a b = true ↔ (dir * tot' a < dir * tot' b ∨ (dir * tot' a = dir * tot' b ∧ ((t ≠ 3 ∧ k2 a < k2 b) ∨ (t = 3 ∧ fst a < fst b)))) := fun a b => by
    unfold r_ah
    by_cases c1 : dir = 0 ∨ tot' a = tot' b
    · rw [if_pos c1]
      have e : dir * tot' a = dir * tot' b := by
        rcases c1 with c1 | c1
        · rw [c1]; simp
        · rw [c1]
      by_cases t3 : t = 3
      · rw [if_pos t3, decide_eq_true_iff]; omega
      · rw [if_neg t3, decide_eq_true_iff]; omega
    · rw [if_neg c1]
      by_cases dp : 0 < dir
      · have d1 : dir = 1 := by omega
        rw [if_pos dp, decide_eq_true_iff, d1]; omega
      · have d1 : dir = -1 := by omega
        rw [if_neg dp, decide_eq_true_iff, d1]; omega
  have hpm := sortI_perm (r_ah t dir k2 tot' fst) O []
  rw [List.nil_append] at hpm
  have := sortI_pw (p := r_ah t dir k2 tot' fst) (lt := fun a b => dir * tot' a < dir * tot' b ∨ (dir * tot' a = dir * tot' b ∧ ((t ≠ 3 ∧ k2 a < k2 b) ∨ (t = 3 ∧ fst a < fst b)))) (T := (· < ·)) hp (fun a b h => by omega) (fun a b c h1 h2 => by omega) O [] List.Pairwise.nil hO (fun e he => by cases he)
  refine List.Pairwise.imp_of_mem ?_ this
  intro a b ha hb hab
  have ha' := hpm.mem_iff.mp ha
  have hb' := hpm.mem_iff.mp hb
  rw [ht a ha', ht b hb'] at hab
  have h1 := hf a ha' b hb'
  unfold Qo
  omega
theorem ord_eq (hdir : dir = -1 ∨ dir = 0 ∨ dir = 1) {O : List Nat} (hO : O.Pairwise (· < ·)) (hf : ∀ a ∈ O, ∀ b ∈ O, fst a < fst b → a < b) (ht : ∀ a ∈ O, tot' a = tot a) : sortI (r_ah t dir k2 tot' fst) O [] = d_ord t dir k2 tot O := by
  refine List.Perm.eq_of_pairwise (le := Qo t dir k2 tot) (fun a b _ _ h1 h2 => ?_) (r_ord_pw hdir hO hf ht) (d_ord_pw hdir hO) ?_
  · exfalso; unfold Qo at h1 h2; omega
  · have := sortI_perm (r_ah t dir k2 tot' fst) O []
    rw [List.nil_append] at this
    exact this.trans (d_ord_perm _ _ _ _ _).symm
end LK
section LT
variable {val : Nat → Option Int} {cnt : Nat → Bool} {gi si : Nat → Nat} {n : Nat}
/-- the parts make the whole: rows and sums -/
theorem seg_add (g : Nat) : ∀ k : Nat, (tly (fun r => (cnt r && decide (gi r = g)) && decide (si r < k)) val n).1 = dsum (fun s => (tly (d_sel cnt gi si g s) val n).1) k ∧ (tly (fun r => (cnt r && decide (gi r = g)) && decide (si r < k)) val n).2.2.1 = dsum (fun s => (tly (d_sel cnt gi si g s) val n).2.2.1) k
  | 0 => by
    have e : tly (fun r => (cnt r && decide (gi r = g)) && decide (si r < 0)) val n = tly (fun _ => false) val n := tly_congr n (fun q _ => by simp)
    have z : ∀ m, tly (fun _ => false) val m = (0, 0, 0, 0, 0) := fun m => by
      induction m with
      | zero => rfl
      | succ m ih => unfold tly; rw [if_neg (by decide)]; exact ih
    rw [e, z]
    exact ⟨rfl, rfl⟩
  | k + 1 => by
    obtain ⟨i1, i2⟩ := seg_add g k
    obtain ⟨a1, a2⟩ := tly_add (val := val) (a := fun r => (cnt r && decide (gi r = g)) && decide (si r < k)) (b := d_sel cnt gi si g k) (c := fun r => (cnt r && decide (gi r = g)) && decide (si r < k + 1)) n (fun q _ => by
      unfold d_sel
      cases (cnt q && decide (gi q = g)) with
      | false => simp
      | true =>
        simp only [Bool.true_and]
        by_cases h1 : si q < k
        · rw [decide_eq_true h1, decide_eq_true (show si q < k + 1 by omega), decide_eq_false (show ¬ (si q = k) by omega)]; exact ⟨rfl, rfl⟩
        · by_cases h2 : si q = k
          · rw [decide_eq_false h1, decide_eq_true (show si q < k + 1 by omega), decide_eq_true h2]; exact ⟨rfl, rfl⟩
          · rw [decide_eq_false h1, decide_eq_false (show ¬ (si q < k + 1) by omega), decide_eq_false h2]; exact ⟨rfl, rfl⟩)
    unfold dsum
    rw [← i1, ← i2]
    exact ⟨a1, a2⟩
theorem dsum_mul (f : Nat → Int) (m : Int) : ∀ k, dsum (fun s => f s * m) k = dsum f k * m
  | 0 => by unfold dsum; simp
  | k + 1 => by unfold dsum; rw [dsum_mul f m k, Int.add_mul]
theorem dsum_congr {f g : Nat → Int} : ∀ k, (∀ j, j < k → f j = g j) → dsum f k = dsum g k
  | 0, _ => rfl
  | k + 1, h => by unfold dsum; rw [dsum_congr k (fun j hj => h j (by omega)), h k (by omega)]
end LT
section LG
variable {fs : List (List Int)} {cols recs : Nat} {h : Int × Int × Int × Int} {s : QC} {x : Nat}
/-- what is known of the text's head and clauses -/
def HS (fs : List (List Int)) (cols recs : Nat) (h : Int × Int × Int × Int) (s : QC) (x : Nat) : Prop :=
  x < cols ∧ h.2.1 = (x : Int) ∧ (h.1 = 0 ∨ h.1 = 1 ∨ h.1 = 2) ∧ (0 ≤ h.2.2.1 ∧ h.2.2.1 ≤ 4) ∧ ((h.2.2.1 = 0 ∧ h.2.2.2 = -1) ∨ (h.2.2.1 ≠ 0 ∧ 0 ≤ h.2.2.2 ∧ h.2.2.2 < (cols : Int) ∧ sp_ty fs cols recs h.2.2.2.toNat = 1)) ∧ (s.2.1 = -1 ∨ s.2.1 = 0 ∨ s.2.1 = 1) ∧ (s.2.2.1 = -1 ∨ (0 ≤ s.2.2.1 ∧ s.2.2.1 < (cols : Int))) ∧ (s.2.2.1 = -1 ∨ (h.1 = 0 ∧ (h.2.2.1 = 0 ∨ h.2.2.1 = 1))) ∧ (s.2.2.2 = 0 ∨ (3 ≤ s.2.2.2 ∧ s.2.2.2 ≤ 9))
theorem k_row (g : Nat) (hg : g < (k_F fs cols recs x s).length) : ∃ q, q < recs - 1 ∧ d_cnt fs cols recs x s.1 q = true ∧ (k_F fs cols recs x s).getD g 0 = q := by
  have hm : (k_F fs cols recs x s).getD g 0 ∈ k_F fs cols recs x s := by
    rw [List.getD_eq_getElem?_getD, List.getElem?_eq_getElem hg]; exact List.getElem_mem hg
  have := fF_mem _ _ hm
  exact ⟨_, this.1, this.2, rfl⟩
theorem k_si_lt {q : Nat} (hq : q < recs - 1) (hc : d_cnt fs cols recs x s.1 q = true) : k_si fs cols recs x s q < k_S fs cols recs x s := (fI_st (recs - 1) q hq hc).2
theorem k_S_1 (hs : s.2.2.1 < 0) : k_S fs cols recs x s ≤ 1 := by
  unfold k_S
  have key : ∀ r, (fF (d_sk fs cols s.2.2.1) (d_cnt fs cols recs x s.1) r).length ≤ 1 := fun r => by
    induction r with
    | zero => unfold fF; simp
    | succ r ih =>
      rcases fF_s (key := d_sk fs cols s.2.2.1) (cnt := d_cnt fs cols recs x s.1) r with ⟨h1, h2, h3, h4⟩ | ⟨h1, h2, h3⟩ | ⟨h1, h3⟩
      · rw [sk_0 hs] at h4
        rw [h3, List.length_append, ← h4]; simp
      · rw [h3]; exact ih
      · rw [h3]; exact ih
  exact key _
/-- totals and which groups are kept -/
theorem k_eq (hH : HS fs cols recs h s x) {g : Nat} (hg : g < (k_F fs cols recs x s).length) : k_tot fs cols recs x h s g = r_tot fs cols recs h (d_cnt fs cols recs x s.1) (k_gi fs cols recs x s) (k_si fs cols recs x s) g ∧ k_keep fs cols recs x h s g = r_keep fs cols recs h (d_cnt fs cols recs x s.1) (k_gi fs cols recs x s) (k_si fs cols recs x s) g := by
  obtain ⟨-, -, -, hme, -, -, hst, hsm, -⟩ := hH
  obtain ⟨q, q1, q2, -⟩ := k_row g hg
  have hS := k_si_lt q1 q2
  by_cases m : h.2.2.1 = 0 ∨ h.2.2.1 = 1
  · constructor
    · have ha := seg_add (val := d_val fs cols recs h.2.2.2) (cnt := d_cnt fs cols recs x s.1) (gi := k_gi fs cols recs x s) (si := k_si fs cols recs x s) (n := recs - 1) g (k_S fs cols recs x s)
      have e : tly (fun r => (d_cnt fs cols recs x s.1 r && decide (k_gi fs cols recs x s r = g)) && decide (k_si fs cols recs x s r < k_S fs cols recs x s)) (d_val fs cols recs h.2.2.2) (recs - 1) = r_t fs cols recs h (d_cnt fs cols recs x s.1) (k_gi fs cols recs x s) (k_si fs cols recs x s) g (-1) := tly_congr _ (fun r hr => by
        unfold d_sg
        cases hc : d_cnt fs cols recs x s.1 r with
        | false => rfl
        | true => rw [decide_eq_true (k_si_lt hr hc)]; simp)
      rw [e] at ha
      unfold k_tot r_tot
      rcases m with m | m
      · have e1 : k_seg fs cols recs x h s g = fun j => (tly (d_sel (d_cnt fs cols recs x s.1) (k_gi fs cols recs x s) (k_si fs cols recs x s) g j) (d_val fs cols recs h.2.2.2) (recs - 1)).1 * 27720000 := by
          funext j; unfold k_seg d_seg t_amt; rw [if_pos m]
        rw [e1, dsum_mul, ← ha.1]
        unfold t_amt
        rw [if_pos m]
      · have e1 : k_seg fs cols recs x h s g = fun j => (tly (d_sel (d_cnt fs cols recs x s.1) (k_gi fs cols recs x s) (k_si fs cols recs x s) g j) (d_val fs cols recs h.2.2.2) (recs - 1)).2.2.1 * 27720 := by
          funext j; unfold k_seg d_seg t_amt; rw [if_neg (by omega), if_pos m]
        rw [e1, dsum_mul, ← ha.2]
        unfold t_amt
        rw [if_neg (by omega), if_pos m]
    · have e2 : r_keep fs cols recs h (d_cnt fs cols recs x s.1) (k_gi fs cols recs x s) (k_si fs cols recs x s) g = true := by
        unfold r_keep r_kp; exact decide_eq_true (by omega)
      rw [e2]
      unfold k_keep
      obtain ⟨k, hk⟩ : ∃ k, k_S fs cols recs x s = k + 1 := ⟨k_S fs cols recs x s - 1, by omega⟩
      rw [hk]
      unfold dany
      have : d_hs fs cols recs h (d_cnt fs cols recs x s.1) (k_gi fs cols recs x s) (k_si fs cols recs x s) g k = true := by
        unfold d_hs t_has; exact decide_eq_true (by omega)
      rw [this, Bool.or_true]
  · have hs : s.2.2.1 < 0 := by omega
    have hS1 : k_S fs cols recs x s = 1 := by have := k_S_1 (fs := fs) (cols := cols) (recs := recs) (x := x) hs; omega
    have e : tly (d_sel (d_cnt fs cols recs x s.1) (k_gi fs cols recs x s) (k_si fs cols recs x s) g 0) (d_val fs cols recs h.2.2.2) (recs - 1) = r_t fs cols recs h (d_cnt fs cols recs x s.1) (k_gi fs cols recs x s) (k_si fs cols recs x s) g (-1) := tly_congr _ (fun r hr => by
      unfold d_sg d_sel
      rw [decide_eq_true (show k_si fs cols recs x s r = 0 from sk_0 hs r)]
      simp)
    constructor
    · unfold k_tot r_tot
      rw [hS1]
      unfold dsum dsum
      rw [Int.zero_add]
      unfold k_seg d_seg
      rw [e]
    · unfold k_keep r_keep
      rw [hS1]
      unfold dany dany
      rw [Bool.false_or]
      unfold d_hs t_has r_kp
      rw [e]
      have hk : ∀ m, 0 ≤ (tly (d_sg (d_cnt fs cols recs x s.1) (k_gi fs cols recs x s) (k_si fs cols recs x s) g (-1)) (d_val fs cols recs h.2.2.2) m).2.1 := fun m => by
        induction m with
        | zero => unfold tly; simp
        | succ m ih =>
          unfold tly
          split
          · cases d_val fs cols recs h.2.2.2 m with
            | none => exact ih
            | some v => dsimp only [t_row]; omega
          · exact ih
      have := hk (recs - 1)
      unfold r_t
      exact decide_eq_decide.mpr (by omega)
/-- the order is one -/
theorem k_O_eq (hH : HS fs cols recs h s x) : sortI (r_ah (sp_ty fs cols recs x) s.2.1 (k_k2 fs cols recs x s) (r_tot fs cols recs h (d_cnt fs cols recs x s.1) (k_gi fs cols recs x s) (k_si fs cols recs x s)) (fun g => (k_F fs cols recs x s).getD g 0)) (Ol (r_keep fs cols recs h (d_cnt fs cols recs x s.1) (k_gi fs cols recs x s) (k_si fs cols recs x s)) (k_F fs cols recs x s).length) [] = k_O fs cols recs x h s := by
  have e : Ol (r_keep fs cols recs h (d_cnt fs cols recs x s.1) (k_gi fs cols recs x s) (k_si fs cols recs x s)) (k_F fs cols recs x s).length = Ol (k_keep fs cols recs x h s) (k_F fs cols recs x s).length := by
    unfold Ol
    exact List.filter_congr (fun g hg => (k_eq hH (List.mem_range.mp hg)).2.symm)
  have hm : ∀ g ∈ Ol (k_keep fs cols recs x h s) (k_F fs cols recs x s).length, g < (k_F fs cols recs x s).length := fun g hg => by
    unfold Ol at hg; exact List.mem_range.mp (List.mem_filter.mp hg).1
  rw [e]
  unfold k_O
  refine ord_eq hH.2.2.2.2.2.1 ?_ (fun a ha b hb hab => ?_) (fun a ha => (k_eq hH (hm a ha)).1.symm)
  · unfold Ol
    exact (List.pairwise_lt_range).filter _
  · have inc := fF_inc (key := d_gk fs cols recs x) (cnt := d_cnt fs cols recs x s.1) (recs - 1)
    have ha' := hm a ha
    have hb' := hm b hb
    by_cases hlt : a < b
    · exact hlt
    · exfalso
      have hab' : (k_F fs cols recs x s).getD a 0 < (k_F fs cols recs x s).getD b 0 := hab
      rw [List.getD_eq_getElem?_getD, List.getD_eq_getElem?_getD, List.getElem?_eq_getElem ha', List.getElem?_eq_getElem hb'] at hab'
      by_cases heq : a = b
      · subst heq; exact absurd hab' (Nat.lt_irrefl _)
      · have := List.pairwise_iff_getElem.mp inc b a hb' ha' (by omega)
        have h2 : (k_F fs cols recs x s)[b] < (k_F fs cols recs x s)[a] := this
        simp only [Option.getD_some] at hab'
        omega
end LG
