/-! The reference carries out. -/
section RC2
variable {fs : List (List Int)} {cols recs x : Nat} {ws : List (List Int)} {h : Int × Int × Int × Int} {s : QC}
theorem k_F_row {f : Nat} (hf : f ∈ k_F fs cols recs x s) : f < recs - 1 ∧ sp_c fs cols x f ≠ [] := by
  obtain ⟨a, b⟩ := fF_mem _ f hf
  refine ⟨a, fun e => ?_⟩
  unfold d_cnt at b
  rw [e, decide_eq_true rfl] at b
  cases b
theorem k_S_pos (hO : 1 ≤ (k_O fs cols recs x h s).length) : 1 ≤ k_S fs cols recs x s := by
  have hm := kO_at (fs := fs) (cols := cols) (recs := recs) (x := x) (s := s) (h := h) (i := 0) (by omega)
  obtain ⟨q, q1, q2, q3⟩ := k_row _ (kO_m hm).1
  have := k_si_lt q1 q2
  omega
theorem fn201_ok (hH : HS fs cols recs h s x) (hne : ∀ w ∈ ws, w ≠ []) (hf : ∀ c ∈ s.1, q_fit (sp_ty fs cols recs) c) {μ : am_M} (hX : RX fs cols recs μ ws h s) : ∃ μ1 μ', fn198 240 μ = some (0, μ1) ∧ fn201 240 μ1 = some ((((k_O fs cols recs x h s).length : Nat) : Int), μ') ∧ (1 ≤ (k_O fs cols recs x h s).length → RG fs cols recs x ws h s (am_up μ' 240 47 (((k_O fs cols recs x h s).length : Nat) : Int))) ∧ ∀ c t, ¬ (c = 240 ∧ (t = 33 ∨ t = 38)) → ¬ (252 ≤ c ∧ c ≤ 257) → μ' c t = μ c t := by
  have h13 := hX.1.2.2.2.2.2.1
  obtain ⟨hx1, hx2, hmk, hme, hyy, hdir, hst, hst2, htk⟩ := hH
  have hH : HS fs cols recs h s x := ⟨hx1, hx2, hmk, hme, hyy, hdir, hst, hst2, htk⟩
  obtain ⟨μ1, p1, p2, p3, p4⟩ := fn198_ok hx1 hx2 hst rfl hne hf hX
  have hfl := kF_len (fs := fs) (cols := cols) (x := x) (s := s) h13
  have hX1 : RX fs cols recs μ1 ws h s := hX.fr (fun c t hc => p4 c t (by omega) (by omega))
  obtain ⟨y1, y2, μ2, L', q1, q2, q3, q4, q5, q6⟩ := L201_4_ok (cnt := d_cnt fs cols recs x s.1) (gi := k_gi fs cols recs x s) (si := k_si fs cols recs x s) hyy hme hx1 hx2 hfl (fun f hf => ⟨by have := (k_F_row hf).1; omega, (k_F_row hf).2⟩) (k_F fs cols recs x s).length am_fuel 0 μ1 [] 0 0 (by unfold am_fuel; omega) rfl (by omega) rfl rfl hX1 p2.2.2.2 p2.1 p2.2.2.1 (fun e he => absurd he (by simp)) (fun j hj => absurd hj (by simp))
  have eL : L' = k_O fs cols recs x h s := by rw [q3]; exact k_O_eq hH
  rw [eL] at q2 q4 q5
  refine ⟨μ1, μ2, p1, ?_, fun hO => ?_, fun c t hc hc2 => by rw [q6 c t (by omega) (by omega), p4 c t (by omega) (by omega)]⟩
  · unfold fn201
    rw [q1, am_op_some, am_lp_r, q2]
  · have F : ∀ c t, ¬ (c = 240 ∧ t = 47) → c ≠ 255 → c ≠ 256 → am_up μ2 240 47 (((k_O fs cols recs x h s).length : Nat) : Int) c t = μ1 c t := fun c t hc a b => by rw [up_ne hc, q6 c t a b]
    have sp := k_S_pos hO
    refine ⟨hX1.fr (fun c t hc => F c t (by omega) (by omega) (by omega)), (show Rn _ _ _ _ μ1 from p2.2.2.2).fr (fun c t hc => F c t (by omega) (by omega) (by omega)), ?_, am_up_at _ _ _ _, fun j hj => by rw [up_ne (by omega)]; exact q5 j hj, fun e he => ?_, fun j hj => by rw [F _ _ (by omega) (by omega) (by omega)]; exact p2.2.2.1 j hj⟩
    · rw [F _ _ (by omega) (by omega) (by omega)]
      by_cases c : s.2.2.1 < 0
      · rw [p3 c]; have := k_S_1 (fs := fs) (cols := cols) (recs := recs) (x := x) c; omega
      · exact p2.2.1 (by omega)
    · rw [up_ne (by omega), q4 e he]
      exact (k_eq hH (kO_m he).1).1.symm
end RC2
