/-! The law: its loop. -/
theorem am_W_okM {X : am_K} {C : am_C} {j cells slots : Nat} {Q : State → Prop} {pc : Nat} {lv : am_L} {st : List am_V} {μ : am_M} (h : am_okM μ → am_W X C j Q cells slots pc lv st μ) : am_W X C j Q cells slots pc lv st μ := by
  obtain ⟨p, l, e, R, s, m, args, below, meth, c⟩ := X
  intro o1 o2 o3
  exact h o3 o1 o2 o3
theorem am_W_widen {X : am_K} {C : am_C} {j cells slots k n : Nat} {Q : State → Prop} {pc : Nat} {lv : am_L} {st : List am_V} {μ : am_M} (h1 : cells ≤ k) (h2 : slots ≤ n) (h : am_W X C j Q k n pc lv st μ) : am_W X C j Q cells slots pc lv st μ := by
  obtain ⟨p, l, e, R, s, m, args, below, meth, c⟩ := X
  intro o1 o2 o3 H locs ls hP hD hS hl
  exact W.widen h1 h2 (h o1 o2 o3 H locs ls hP hD hS hl)
section LP
variable {X : am_K} {C : am_C} {sc : Nat × (Nat → Int)} {Q : State → Prop} {lv : am_L} {st : List am_V} {μ : am_M}
def lw_tg (x : Int) : Nat := if x = 0 then 88 else if x = 1 then 145 else if x = 2 then 202 else if x = 3 then 241 else if x = 4 then 278 else if x = 5 then 322 else if x = 6 then 359 else if x = 7 then 385 else if x = 8 then 410 else 436
theorem lw_tsw {cells slots : Nat} (hG : am_G X C 234 cells slots sc) {x : Int} (h : am_W X C 234 Q cells slots (lw_tg x) lv st μ) : am_W X C 234 Q cells slots 39 lv (.inl x :: st) μ := by
  have go : ∀ (off : Int) (t : Nat), ((39 : Nat) : Int) + off = (t : Int) → am_sw x (fun o => if o = off then some () else none) 397 0 [49, 106, 163, 202, 239, 283, 320, 346, 371] = some () → am_W X C 234 Q cells slots t lv st μ → am_W X C 234 Q cells slots 39 lv (.inl x :: st) μ := by
    intro off t hp hs hk
    refine am_c_tableswitch hG d234_39 rfl (by decide) (by decide) hs (fun o ho => ?_)
    have eo := (am_if_s ho).1
    subst eo
    rw [show am_to 39 o = t from by unfold am_to; omega]
    exact hk
  unfold lw_tg at h
  by_cases e0 : x = 0
  · rw [if_pos e0] at h; exact go 49 88 rfl (by subst e0; simp [am_sw]) h
  rw [if_neg e0] at h
  by_cases e1 : x = 1
  · rw [if_pos e1] at h; exact go 106 145 rfl (by subst e1; simp [am_sw]) h
  rw [if_neg e1] at h
  by_cases e2 : x = 2
  · rw [if_pos e2] at h; exact go 163 202 rfl (by subst e2; simp [am_sw]) h
  rw [if_neg e2] at h
  by_cases e3 : x = 3
  · rw [if_pos e3] at h; exact go 202 241 rfl (by subst e3; simp [am_sw]) h
  rw [if_neg e3] at h
  by_cases e4 : x = 4
  · rw [if_pos e4] at h; exact go 239 278 rfl (by subst e4; simp [am_sw]) h
  rw [if_neg e4] at h
  by_cases e5 : x = 5
  · rw [if_pos e5] at h; exact go 283 322 rfl (by subst e5; simp [am_sw]) h
  rw [if_neg e5] at h
  by_cases e6 : x = 6
  · rw [if_pos e6] at h; exact go 320 359 rfl (by subst e6; simp [am_sw]) h
  rw [if_neg e6] at h
  by_cases e7 : x = 7
  · rw [if_pos e7] at h; exact go 346 385 rfl (by subst e7; simp [am_sw]) h
  rw [if_neg e7] at h
  by_cases e8 : x = 8
  · rw [if_pos e8] at h; exact go 371 410 rfl (by subst e8; simp [am_sw]) h
  rw [if_neg e8] at h
  exact go 397 436 rfl (by simp [am_sw, e0, e1, e2, e3, e4, e5, e6, e7, e8]) h
/-- what holds all along the law's loop -/
def lw_H (X : am_K) (C : am_C) (sc : Nat × (Nat → Int)) (Q : State → Prop) : Prop := (∀ cells slots, cells ≤ 601024 → slots ≤ 7293034 → am_G X C 234 cells slots sc) ∧ sc.1 ≤ 1536 ∧ (match X with | (_, l, _, R, s, _, _, _, _, _) => l.stackTraces = false ∧ am_dx C.2.2.2.1 s s.heap ∧ am_nc s ∧ R.cells = 601024 ∧ R.slots = 7293034) ∧ (∀ i, am_inI (sc.2 i)) ∧ (∀ cells slots lv μ, cells ≤ 601024 → slots ≤ 7293034 → am_W X C 234 Q cells slots 442 lv [] μ)
theorem lw_loop (hRC : RC) (hRD : RD) (hH : lw_H X C sc Q) : ∀ (n k : Nat) (μ : am_M), sc.1 < 3 * (k + n) + 3 → k ≤ 512 → am_R μ → am_W X C 234 Q (263 + k) (16919 + 6 * k) 23 [(4, .inl (3 * (k : Int))), (3, .inr (.inr (17, 262))), (2, .inr (.inr (11, 240))), (1, .inr (.inr (0, 0))), (0, .inr (.inr (33, 0)))] [] μ := by
  obtain ⟨hGk, hL, hst, hin, hend⟩ := hH
  intro n
  induction n with
  | zero =>
    intro k μ hn hk hR
    have hG := hGk (263 + k) (16919 + 6 * k) (by omega) (by omega)
    refine am_c_iload hG d234_23 rfl ?_
    refine am_c_aload_n hG d234_25 rfl ?_
    refine am_c_sclen hG rfl rfl d234_26 ?_
    refine am_c_iconst hG d234_27 (by decide) ?_
    refine am_c_isub hG d234_28 ?_
    rw [w32_id (x := (sc.1 : Int) - 3) (by omega) (by omega)]
    exact y_icmp_gt (tgt := 442) hG d234_29 rfl (by omega) (hend _ _ _ _ (by omega) (by omega))
  | succ n ih =>
    intro k μ hn hk hR
    have hG := hGk (263 + k) (16919 + 6 * k) (by omega) (by omega)
    refine am_c_iload hG d234_23 rfl ?_
    refine am_c_aload_n hG d234_25 rfl ?_
    refine am_c_sclen hG rfl rfl d234_26 ?_
    refine am_c_iconst hG d234_27 (by decide) ?_
    refine am_c_isub hG d234_28 ?_
    rw [w32_id (x := (sc.1 : Int) - 3) (by omega) (by omega)]
    by_cases hc : (sc.1 : Int) - 3 < 3 * (k : Int)
    · exact y_icmp_gt (tgt := 442) hG d234_29 rfl hc (hend _ _ _ _ (by omega) (by omega))
    refine n_icmp_gt (tgt := 442) hG d234_29 rfl hc ?_
    have nx : ∀ (cells slots : Nat) (μ' : am_M), cells ≤ 263 + (k + 1) → slots ≤ 16919 + 6 * (k + 1) → am_R μ' → am_W X C 234 Q cells slots 436 [(4, .inl (3 * (k : Int))), (3, .inr (.inr (17, 262))), (2, .inr (.inr (11, 240))), (1, .inr (.inr (0, 0))), (0, .inr (.inr (33, 0)))] [] μ' := by
      intro cells slots μ' h1 h2 hR'
      have hG' := hGk cells slots (by omega) (by omega)
      refine x_iinc (lv' := [(4, .inl (3 * ((k + 1 : Nat) : Int))), (3, .inr (.inr (17, 262))), (2, .inr (.inr (11, 240))), (1, .inr (.inr (0, 0))), (0, .inr (.inr (33, 0)))]) hG' d234_436 rfl (by rw [wd_4.2.2.1]; decide) ?_ ?_
      · rw [w32_id (x := 3 * (k : Int) + 3) (by omega) (by omega), show 3 * (k : Int) + 3 = 3 * ((k + 1 : Nat) : Int) by omega]
        rfl
      · refine x_goto (tgt := 23) hG' d234_439 rfl ?_
        exact am_W_widen h1 h2 (ih (k + 1) μ' (by omega) (by omega) hR')
    have hi : 0 ≤ 3 * (k : Int) ∧ 3 * (k : Int) + 2 < sc.1 := by omega
    refine am_c_aload_n hG d234_32 rfl ?_
    refine am_c_iload hG d234_33 rfl ?_
    refine am_c_scload hG rfl rfl d234_35 ⟨by omega, by omega⟩ ?_
    refine am_c_bipush hG d234_36 (by decide) ?_
    refine am_c_iand hG d234_38 ?_
    refine lw_tsw hG ?_
    generalize o_and (sc.2 (3 * (k : Int)).toNat) 15 = x
    have hk0 : ∀ μ', am_R μ' → am_W X C 234 Q (263 + k) (16919 + 6 * k) 436 [(4, .inl (3 * (k : Int))), (3, .inr (.inr (17, 262))), (2, .inr (.inr (11, 240))), (1, .inr (.inr (0, 0))), (0, .inr (.inr (33, 0)))] [] μ' := fun μ' hR' => nx _ _ μ' (by omega) (by omega) hR'
    unfold lw_tg
    split
    · exact lc_88 hG hi hL hR hk0
    split
    · exact lc_145 hG hi hL hR hk0
    split
    · exact lc_202 hG hi hL hR hk0
    split
    · exact lc_241 hG hi hL hR hk0
    split
    · refine am_W_okM (fun hM => ?_)
      refine lc_278 hG (hGk (263 + k + 1) (16919 + 6 * k + 6) (by omega) (by omega)) ?_ hRD hM hR (fun μ' hR' => nx _ _ μ' (by omega) (by omega) hR')
      obtain ⟨p, l, e, R, s, m, args, below, meth, c⟩ := X
      obtain ⟨g1, g2, g3, g4, g5⟩ := hst
      exact ⟨g1, g2, g3, by rw [g4]; omega, by rw [g5]; omega⟩
    split
    · exact lc_322 hG hi hL hR hk0
    split
    · exact lc_359 hG hi hL hR hk0
    split
    · exact am_W_okM (fun hM => lc_385 hG hi hL hR hk0 hRC hM (hin _))
    split
    · exact lc_410 hG hi hL hR hk0
    · exact hk0 μ hR
end LP
