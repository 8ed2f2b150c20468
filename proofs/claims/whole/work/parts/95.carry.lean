/-! Groups.carryOut. -/
def d_ord (t dir : Int) (k2 tot : Nat → Int) (O : List Nat) : List Nat :=
  if dir = 0 then (if t = 3 then O else sortI (fun x e => decide (k2 x < k2 e)) O []) else sortI (fun x e => decide (dir * tot x < dir * tot e)) (if t = 3 then O else sortI (fun x e => decide (k2 x < k2 e)) O []) []
section CO
variable {fs : List (List Int)} {cols recs : Nat} {h : Int × Int × Int × Int} {s : QC}
theorem fn99_ok {μ : am_M} (hC : CX fs cols recs μ h s) {x : Nat} (hx : x < cols) (hhx : h.2.1 = (x : Int)) (hdir : s.2.1 = -1 ∨ s.2.1 = 0 ∨ s.2.1 = 1) {F : List Nat} (hF : F.length ≤ 12) (hFr : ∀ f ∈ F, f + 1 < recs) (h9 : μ 196 9 = ((F.length : Nat) : Int)) (h199 : ∀ j, j < F.length → μ 199 j = ((F.getD j 0 : Nat) : Int)) {tot : Nat → Int} (ht : ∀ g, -9000000000000000000 ≤ tot g ∧ tot g ≤ 9000000000000000000) (h226 : ∀ j, j < F.length → μ 226 j = tot j) {O : List Nat} (hO : ∀ g ∈ O, g < F.length) (hOl : O.length ≤ 12) (h11 : μ 196 11 = ((O.length : Nat) : Int)) (hA : Ar μ 228 O) :
    ∃ μ', fn99 196 5 141 μ = some (0, μ') ∧ Ar μ' 228 (d_ord (sp_ty fs cols recs x) s.2.1 (fun g => d_wor fs cols recs (F.getD g 0) x) tot O) ∧ ∀ c t, c ≠ 227 → c ≠ 228 → μ' c t = μ c t := by
  have h5 : cols ≤ 5 := hC.1.2.2.2.1
  have h10 : μ 141 10 = s.2.1 := hC.2.2.2.2.2.2.2.2.2.1
  have h6 : μ 141 6 = (x : Int) := by rw [hC.2.2.2.1]; exact hhx
  have hY : ∀ c, c < cols → μ 140 c = sp_ty fs cols recs c := fun c hc => (hC.2.1 c hc).1
  /- the second sort -/
  have second : ∀ (O1 : List Nat) (μ1 : am_M), O1.Perm O → Ar μ1 228 O1 → (∀ c t, c ≠ 227 → c ≠ 228 → μ1 c t = μ c t) → s.2.1 ≠ 0 → ∃ μ', (am_op (L99_72 196 141 am_fuel 0 μ1) (fun s => am_lp s (fun q1 => some q1) (fun t1 => (am_op (fn97 196 t1.2) (fun z5 => some (0, z5.2))))) : Option (Int × am_M)) = some (0, μ') ∧ Ar μ' 228 (sortI (fun x e => decide (s.2.1 * tot x < s.2.1 * tot e)) O1 []) ∧ ∀ c t, c ≠ 227 → c ≠ 228 → μ' c t = μ c t := by
    intro O1 μ1 hP hA1 hF1 _
    obtain ⟨x', μ2, a1, a2, a3⟩ := L99_72_ok (M := F.length) hF hdir ht F.length am_fuel 0 μ1 0 (by unfold am_fuel; omega) rfl (by omega) (by rw [hF1 _ _ (by decide) (by decide)]; exact h10) (by rw [hF1 _ _ (by decide) (by decide)]; exact h9) (fun j hj => by rw [hF1 _ _ (by decide) (by decide)]; exact h226 j hj) (fun j hj => absurd hj (by omega))
    have hl1 := hP.length_eq
    obtain ⟨μ3, b1, b2, b3⟩ := fn97_ok (keyf := fun g => s.2.1 * tot g) (l := O1) (μ := μ2) (by omega) (by rw [a3 _ _ (by decide), hF1 _ _ (by decide) (by decide), h11, hl1]) (fun g hg => by
      have := hO g (hP.mem_iff.mp hg)
      exact ⟨by omega, a2 g this⟩) (fun j hj => by rw [a3 _ _ (by decide)]; exact hA1 j hj)
    rw [a1, am_op_some, am_lp_r]
    dsimp only
    rw [b1, am_op_some]
    exact ⟨μ3, rfl, b2, fun c t c1 c2 => by rw [b3 c t c2, a3 c t c1, hF1 c t c1 c2]⟩
  unfold fn99 fn83 fn98 d_ord
  rw [am_op_some]
  dsimp only
  rw [h6, fn45_ty hY h5 (by omega) (by omega), am_op_some, Int.toNat_natCast]
  dsimp only
  by_cases t3 : sp_ty fs cols recs x = 3
  · rw [if_pos t3, if_pos t3, am_op_some]
    dsimp only
    rw [h10]
    by_cases d0 : s.2.1 = 0
    · rw [if_pos d0, if_pos d0]
      exact ⟨μ, rfl, hA, fun _ _ _ _ => rfl⟩
    · rw [if_neg d0, if_neg d0]
      exact second O μ (List.Perm.refl _) hA (fun _ _ _ _ => rfl) d0
  · obtain ⟨x', μ1, a1, a2, a3⟩ := L99_17_ok hx hF hFr (xx := (x : Int)) rfl F.length am_fuel 0 μ 0 (by unfold am_fuel; omega) rfl (by omega) hC.1 hC.2.1 h9 h199 (fun j hj => absurd hj (by omega))
    obtain ⟨μ2, b1, b2, b3⟩ := fn97_ok (keyf := fun g => d_wor fs cols recs (F.getD g 0) x) (l := O) (μ := μ1) (by omega) (by rw [a3 _ _ (by decide)]; exact h11) (fun g hg => by
      have := hO g hg
      exact ⟨by omega, a2 g this⟩) (fun j hj => by rw [a3 _ _ (by decide)]; exact hA j hj)
    have f2 : ∀ c t, c ≠ 227 → c ≠ 228 → μ2 c t = μ c t := fun c t c1 c2 => by rw [b3 c t c2, a3 c t c1]
    have h10' : μ2 141 10 = s.2.1 := by rw [f2 _ _ (by decide) (by decide)]; exact h10
    rw [if_neg t3, if_neg t3, a1, am_op_some, am_lp_r]
    dsimp only
    rw [b1, am_op_some]
    dsimp only
    rw [am_op_some]
    dsimp only
    rw [h10']
    by_cases d0 : s.2.1 = 0
    · rw [if_pos d0, if_pos d0]
      exact ⟨μ2, rfl, b2, f2⟩
    · rw [if_neg d0, if_neg d0]
      exact second _ μ2 (by have := sortI_perm (fun x' e => decide (d_wor fs cols recs (F.getD x' 0) x < d_wor fs cols recs (F.getD e 0) x)) O []; exact this) b2 f2 d0
/-- what the class's groups are -/
def GC (M S : Nat) (seg : Nat → Nat → Int) (lab : Nat → List Int) (O : List Nat) (μ : am_M) : Prop :=
  μ 196 10 = ((S : Nat) : Int) ∧ μ 196 11 = ((O.length : Nat) : Int) ∧ Ar μ 228 O ∧ (∀ g, g < M → μ 226 g = dsum (seg g) S ∧ (∀ j, j < S → μ 225 (g * 12 + j) = seg g j) ∧ Lt μ (201 + 2 * g) (202 + 2 * g) 12 (lab g))
def k_F (fs : List (List Int)) (cols recs x : Nat) (s : QC) : List Nat := fF (d_gk fs cols recs x) (d_cnt fs cols recs x s.1) (recs - 1)
def k_S (fs : List (List Int)) (cols recs x : Nat) (s : QC) : Nat := (fF (d_sk fs cols s.2.2.1) (d_cnt fs cols recs x s.1) (recs - 1)).length
def k_gi (fs : List (List Int)) (cols recs x : Nat) (s : QC) : Nat → Nat := fI (d_gk fs cols recs x) (d_cnt fs cols recs x s.1)
def k_si (fs : List (List Int)) (cols recs x : Nat) (s : QC) : Nat → Nat := fI (d_sk fs cols s.2.2.1) (d_cnt fs cols recs x s.1)
def k_seg (fs : List (List Int)) (cols recs x : Nat) (h : Int × Int × Int × Int) (s : QC) : Nat → Nat → Int := d_seg fs cols recs h (d_cnt fs cols recs x s.1) (k_gi fs cols recs x s) (k_si fs cols recs x s)
def k_tot (fs : List (List Int)) (cols recs x : Nat) (h : Int × Int × Int × Int) (s : QC) (g : Nat) : Int := dsum (k_seg fs cols recs x h s g) (k_S fs cols recs x s)
def k_keep (fs : List (List Int)) (cols recs x : Nat) (h : Int × Int × Int × Int) (s : QC) (g : Nat) : Bool := dany (d_hs fs cols recs h (d_cnt fs cols recs x s.1) (k_gi fs cols recs x s) (k_si fs cols recs x s) g) (k_S fs cols recs x s)
def k_k2 (fs : List (List Int)) (cols recs x : Nat) (s : QC) (g : Nat) : Int := d_wor fs cols recs ((k_F fs cols recs x s).getD g 0) x
def k_O (fs : List (List Int)) (cols recs x : Nat) (h : Int × Int × Int × Int) (s : QC) : List Nat := d_ord (sp_ty fs cols recs x) s.2.1 (k_k2 fs cols recs x s) (k_tot fs cols recs x h s) (Ol (k_keep fs cols recs x h s) (k_F fs cols recs x s).length)
theorem d_ord_perm (t dir : Int) (k2 tot : Nat → Int) (O : List Nat) : (d_ord t dir k2 tot O).Perm O := by
  have h1 : (if t = 3 then O else sortI (fun x e => decide (k2 x < k2 e)) O []).Perm O := by
    split
    · exact List.Perm.refl _
    · exact sortI_perm _ O []
  unfold d_ord
  split
  · exact h1
  · exact (sortI_perm _ _ []).trans h1
theorem fn100_ok {μ : am_M} (hC : CX fs cols recs μ h s) {x : Nat} (hx : x < cols) (hhx : h.2.1 = (x : Int)) (hdir : s.2.1 = -1 ∨ s.2.1 = 0 ∨ s.2.1 = 1) (hst : s.2.2.1 = -1 ∨ (0 ≤ s.2.2.1 ∧ s.2.2.1 < (cols : Int))) (hyy : h.2.2.2 = -1 ∨ (0 ≤ h.2.2.2 ∧ h.2.2.2 < (cols : Int) ∧ sp_ty fs cols recs h.2.2.2.toNat = 1)) (hme : 0 ≤ h.2.2.1 ∧ h.2.2.1 ≤ 4) :
    ∃ μ', fn100 196 5 141 μ = some (0, μ') ∧ GC (k_F fs cols recs x s).length (k_S fs cols recs x s) (k_seg fs cols recs x h s) (fun g => sp_c fs cols x ((k_F fs cols recs x s).getD g 0)) (k_O fs cols recs x h s) μ' ∧ ∀ c t, ¬ (196 ≤ c ∧ c ≤ 229) → μ' c t = μ c t := by
  have h13 := hC.1.2.2.2.2.2.1
  have h1 := hC.1.2.2.2.2.1
  have h6 := hC.1.2.1
  have g0 : ∀ c t, ¬ (c = 196 ∧ (t = 9 ∨ t = 10 ∨ t = 11)) → am_up (am_up (am_up μ 196 9 0) 196 10 0) 196 11 0 c t = μ c t := fun c t hct => by rw [up_ne (by omega), up_ne (by omega), up_ne (by omega)]
  have e9 : am_up (am_up (am_up μ 196 9 0) 196 10 0) 196 11 0 196 9 = 0 := by simp [am_up]
  have e10 : am_up (am_up (am_up μ 196 9 0) 196 10 0) 196 11 0 196 10 = 0 := by simp [am_up]
  have e11 : am_up (am_up (am_up μ 196 9 0) 196 10 0) 196 11 0 196 11 = 0 := by simp [am_up]
  unfold fn100 fn26 fn78
  rw [am_op_some]
  dsimp only
  rw [h6, w32_id (by omega) (by omega), if_neg (by omega), am_op_some]
  dsimp only
  generalize am_up (am_up (am_up μ 196 9 0) 196 10 0) 196 11 0 = μ0 at *
  have hC0 : CX fs cols recs μ0 h s := hC.fr (fun c t hc => g0 c t (by omega))
  obtain ⟨x1, μ1, a1, a2, a3⟩ := L100_28_ok (cnt := d_cnt fs cols recs x s.1) hx hhx hst rfl (recs - 1) am_fuel 0 μ0 0 ((recs : Int) - 1) (by unfold am_fuel; omega) rfl (by omega) rfl hC0 ⟨⟨by rw [e9]; rfl, fun g hg => absurd hg (by unfold fF; simp)⟩, by rw [e10]; rfl, fun q hq => absurd hq (by omega)⟩
  have hC1 : CX fs cols recs μ1 h s := hC0.fr (fun c t hc => a3 c t (by omega) (by omega))
  obtain ⟨⟨b9, bg⟩, b10, bq⟩ := a2
  have hFl := fF_len (key := d_gk fs cols recs x) (cnt := d_cnt fs cols recs x s.1) (recs - 1)
  have hSl := fF_len (key := d_sk fs cols s.2.2.1) (cnt := d_cnt fs cols recs x s.1) (recs - 1)
  have hFm := fF_mem (key := d_gk fs cols recs x) (cnt := d_cnt fs cols recs x s.1) (recs - 1)
  rw [a1, am_op_some, am_lp_r]
  dsimp only
  obtain ⟨x2, μ2, c1, c2, c3⟩ := L100_91_ok (fs := fs) (cols := cols) (recs := recs) (h := h) (s := s) (cnt := d_cnt fs cols recs x s.1) (gi := k_gi fs cols recs x s) (si := k_si fs cols recs x s) hyy hme h13 h1 (S := k_S fs cols recs x s) (M := (k_F fs cols recs x s).length) (by unfold k_S; omega) (by unfold k_F; omega) (n := (recs : Int) - 1) rfl (k_F fs cols recs x s).length am_fuel 0 μ1 0 (by unfold am_fuel k_F; omega) rfl (by omega) hC1 (fun q hq => bq q hq) b9 b10 ⟨fun g hg => absurd hg (by omega), by rw [a3 _ _ (by omega) (by omega), e11]; rfl, fun i hi => absurd hi (by unfold Ol; simp)⟩
  have hC2 : CX fs cols recs μ2 h s := hC1.fr (fun c t hc => c3 c t (by omega) (by omega))
  obtain ⟨t1, t2, t3⟩ := c2
  rw [c1, am_op_some, am_lp_r]
  dsimp only
  have htot : ∀ g, -9000000000000000000 ≤ k_tot fs cols recs x h s g ∧ k_tot fs cols recs x h s g ≤ 9000000000000000000 := fun g => by
    have := dsum_rng (f := k_seg fs cols recs x h s g) (B := 332640000000000) (fun j => d_seg_rng (by omega) h13 g j) (k_S fs cols recs x s)
    have hS12 : k_S fs cols recs x s ≤ 12 := by unfold k_S; omega
    unfold k_tot
    have hB : ((k_S fs cols recs x s : Nat) : Int) * 332640000000000 ≤ 12 * 332640000000000 := by omega
    omega
  have hOm : ∀ g ∈ Ol (k_keep fs cols recs x h s) (k_F fs cols recs x s).length, g < (k_F fs cols recs x s).length := fun g hg => by
    unfold Ol at hg
    exact List.mem_range.mp (List.mem_filter.mp hg).1
  have hOl := Ol_len (k_keep fs cols recs x h s) (k_F fs cols recs x s).length
  have hF12 : (k_F fs cols recs x s).length ≤ 12 := by unfold k_F; omega
  obtain ⟨μ3, d1, d2, d3⟩ := fn99_ok hC2 hx hhx hdir (F := k_F fs cols recs x s) (by unfold k_F; omega) (fun f hf => by have := hFm f hf; omega) (by rw [c3 _ _ (by omega) (by omega)]; exact b9) (fun j hj => by rw [c3 _ _ (by omega) (by omega)]; exact (bg j hj).1) (tot := k_tot fs cols recs x h s) htot (fun j hj => (t1 j hj).1) (O := Ol (k_keep fs cols recs x h s) (k_F fs cols recs x s).length) hOm (by omega) t2 t3
  rw [d1, am_op_some]
  have hOp := d_ord_perm (sp_ty fs cols recs x) s.2.1 (k_k2 fs cols recs x s) (k_tot fs cols recs x h s) (Ol (k_keep fs cols recs x h s) (k_F fs cols recs x s).length)
  refine ⟨μ3, rfl, ⟨?_, ?_, d2, fun g hg => ⟨?_, fun j hj => ?_, ?_⟩⟩, fun c t hc => ?_⟩
  · rw [d3 _ _ (by omega) (by omega), c3 _ _ (by omega) (by omega)]; exact b10
  · rw [d3 _ _ (by omega) (by omega), t2]
    exact congrArg _ hOp.length_eq.symm
  · rw [d3 _ _ (by omega) (by omega)]; exact (t1 g hg).1
  · rw [d3 _ _ (by omega) (by omega)]; exact (t1 g hg).2 j hj
  · have hg2 : g < 12 := by omega
    refine (bg g hg).2.fr ?_ (fun i => ?_)
    · rw [d3 _ _ (by omega) (by omega), c3 _ _ (by omega) (by omega)]
    · rw [d3 _ _ (by omega) (by omega), c3 _ _ (by omega) (by omega)]
  · rw [d3 c t (by omega) (by omega), c3 c t (by omega) (by omega), a3 c t (by omega) (by omega), g0 c t (by omega)]
end CO
