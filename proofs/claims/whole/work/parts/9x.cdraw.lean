/-! draw: class. -/
def cA (μ : am_M) : Option ((Int × am_M) ⊕ (Nat × am_M)) := (am_op (fn100 196 5 141 μ) (fun z5 => (am_op (fn101 196 z5.2) (fun z6 => (if z6.1 < 1 then (some (.inr (3, z6.2))) else (am_op (fn101 196 z6.2) (fun z7 => (if 8 < z7.1 then (some (.inr (3, z7.2))) else (am_op (fn114 230 196 141 z7.2) (fun z8 => (am_op (fn132 231 196 230 234 236 z8.2) (fun z9 => (if z9.1 = 0 then (some (.inr (4, z9.2))) else (am_op (fn158 0 z9.2) (fun z10 => (am_op (fn162 0 z10.2) (fun z11 => (am_op (fn101 196 z11.2) (fun z12 => (some (.inl (z12.1, z12.2))))))))))))))))))))))
theorem fn232_e (μ : am_M) : fn232 0 μ = am_op (fn42 5 1 μ) (fun z1 => am_op (fn48 5 z1.2) (fun z2 => if z2.1 = 0 then some (.inr (0, z2.2)) else am_op (fn43 5 z2.2) (fun z3 => if z3.1 = 0 then some (.inr (1, z3.2)) else am_op (fn77 141 3 5 z3.2) (fun z4 => if z4.1 = 0 then some (.inr (2, z4.2)) else cA z4.2)))) := by
  unfold fn232
  rw [rf_14.2.2.1, rf_14.2.2.2.1, rf_14.2.2.2.2.1, rf_14.2.2.2.2.2.1, rf_14.2.2.2.2.2.2.1, rf_14.2.2.2.2.2.2.2.2.2.2.2.2.2.1, rf_14.2.2.2.2.2.2.2.2.2.2.2.2.2.2.1, rf_14.2.2.2.2.2.2.2.2.2.2.2.2.2.2.2.1, rf_14.2.2.2.2.2.2.2.2.2.2.2.2.2.2.2.2]
  rfl
def FCf (μ μ' : am_M) : Prop := ∀ c t, c ≤ 4 ∨ c = 183 ∨ c = 234 ∨ c = 235 ∨ c = 238 ∨ c = 239 ∨ 240 ≤ c → μ' c t = μ c t
theorem FCf.trans {μ μ1 μ2 : am_M} (h : FCf μ μ1) (h2 : FCf μ1 μ2) : FCf μ μ2 := fun c t h3 => by rw [h2 c t h3, h c t h3]
section DCl
variable {fs : List (List Int)} {cols recs x : Nat} {h : Int × Int × Int × Int} {s : QC}
theorem ct_lab {μ : am_M} (hC : CT μ fs cols recs) (hx : x < cols) {q : Nat} (hq : q + 1 < recs) : (sp_c fs cols x q).length ≤ 12 ∧ Cr (sp_c fs cols x q) := by
  obtain ⟨c1, c2, c3, c4, c5, c6, c7, c8, c9⟩ := hC
  have i1 : (q + 1) * cols + x < fs.length := by
    have := Nat.mul_le_mul_right cols (show q + 1 + 1 ≤ recs by omega)
    rw [Nat.add_mul (q + 1) 1 cols, Nat.one_mul] at this
    omega
  refine c8 _ ?_
  unfold sp_c
  rw [List.getD_eq_getElem?_getD, List.getElem?_eq_getElem i1]
  exact List.getElem_mem i1
theorem cA_ok {W H : Int} (hW : 20 ≤ W ∧ W ≤ 96) (hH : 18 ≤ H ∧ H ≤ 64) (hHS : HS fs cols recs h s x) {μ : am_M} (hC : CX fs cols recs μ h s) (h1 : μ 234 1 = W) (h2 : μ 234 2 = H) :
    (¬ (1 ≤ (k_O fs cols recs x h s).length ∧ (k_O fs cols recs x h s).length ≤ 8) → ∃ μ', cA μ = some (.inr (3, μ')) ∧ FCf μ μ') ∧
    (1 ≤ (k_O fs cols recs x h s).length → (k_O fs cols recs x h s).length ≤ 8 → p_B W fs cols recs x h s = false → ∃ μ', cA μ = some (.inr (4, μ')) ∧ FCf μ μ') ∧
    (1 ≤ (k_O fs cols recs x h s).length → (k_O fs cols recs x h s).length ≤ 8 → p_B W fs cols recs x h s = true → ∃ μ', cA μ = some (.inl ((((k_O fs cols recs x h s).length : Nat) : Int), μ')) ∧ PC W H (p_pic W H fs cols recs x h s) μ' ∧ p_f7 W fs cols recs x h s (μ' 238) ∧ (∀ j, j < (k_O fs cols recs x h s).length → μ' 239 j = p_v fs cols recs x h s j) ∧ μ' 0 11 = 1 ∧ ∀ c t, (c ≤ 4 ∧ ¬ (c = 0 ∧ t = 11)) ∨ c = 183 ∨ c = 234 ∨ 240 ≤ c → μ' c t = μ c t) := by
  have h13 := hC.1.2.2.2.2.2.1
  have hMl := kF_len (fs := fs) (cols := cols) (x := x) (s := s) h13
  have hSl := kS_len (fs := fs) (cols := cols) (x := x) (s := s) h13
  have hyy : h.2.2.2 = -1 ∨ (0 ≤ h.2.2.2 ∧ h.2.2.2 < (cols : Int) ∧ sp_ty fs cols recs h.2.2.2.toNat = 1) := by
    rcases hHS.2.2.2.2.1 with w | w
    · exact Or.inl w.2
    · exact Or.inr w.2
  have hOm : ∀ g ∈ k_O fs cols recs x h s, g < (k_F fs cols recs x s).length := fun g hg => (kO_m hg).1
  have hl : ∀ g, g < (k_F fs cols recs x s).length → (sp_c fs cols x ((k_F fs cols recs x s).getD g 0)).length ≤ 12 ∧ Cr (sp_c fs cols x ((k_F fs cols recs x s).getD g 0)) := fun g hg => ct_lab hC.1 hHS.1 (by have := (k_F_row (kF_at hg)).1; omega)
  have hln : ∀ i, i < (k_O fs cols recs x h s).length → k_ln fs cols recs x h s i = (sp_c fs cols x ((k_F fs cols recs x s).getD ((k_O fs cols recs x h s).getD i 0) 0)).length ∧ 1 ≤ k_ln fs cols recs x h s i ∧ k_ln fs cols recs x h s i ≤ 12 := fun i hi => by
    obtain ⟨a, b, c⟩ := k_lb_row hi
    refine ⟨rfl, ?_, (hl _ a).1⟩
    have : (k_lb fs cols recs x h s i).length ≠ 0 := fun e => c (len0.mp e)
    unfold k_ln
    omega
  obtain ⟨μ1, p1, p2, p3⟩ := fn100_ok hC hHS.1 hHS.2.1 hHS.2.2.2.2.2.1 hHS.2.2.2.2.2.2.1 hyy hHS.2.2.2.1
  have eA : cA μ = (if (((k_O fs cols recs x h s).length : Nat) : Int) < 1 then (some (.inr (3, μ1))) else (if 8 < (((k_O fs cols recs x h s).length : Nat) : Int) then (some (.inr (3, μ1))) else (am_op (fn114 230 196 141 μ1) (fun z8 => (am_op (fn132 231 196 230 234 236 z8.2) (fun z9 => (if z9.1 = 0 then (some (.inr (4, z9.2))) else (am_op (fn158 0 z9.2) (fun z10 => (am_op (fn162 0 z10.2) (fun z11 => (am_op (fn101 196 z11.2) (fun z12 => (some (.inl (z12.1, z12.2)))))))))))))))) := by
    unfold cA
    rw [p1, am_op_some]
    dsimp only
    rw [show fn101 196 μ1 = some ((((k_O fs cols recs x h s).length : Nat) : Int), μ1) from by unfold fn101; rw [p2.2.1], am_op_some]
    dsimp only
    rw [show fn101 196 μ1 = some ((((k_O fs cols recs x h s).length : Nat) : Int), μ1) from by unfold fn101; rw [p2.2.1], am_op_some]
  have F1 : FCf μ μ1 := fun c t hc => p3 c t (by omega)
  refine ⟨fun hO => ⟨μ1, ?_, F1⟩, ?_⟩
  · rw [eA]
    by_cases c1 : (((k_O fs cols recs x h s).length : Nat) : Int) < 1
    · rw [if_pos c1]
    · rw [if_neg c1, if_pos (by omega)]
  suffices hs : 1 ≤ (k_O fs cols recs x h s).length → (k_O fs cols recs x h s).length ≤ 8 → ∃ μ3 b, cA μ = (if bI b = 0 then (some (.inr (4, μ3))) else (am_op (fn158 0 μ3) (fun z10 => (am_op (fn162 0 z10.2) (fun z11 => (am_op (fn101 196 z11.2) (fun z12 => (some (.inl (z12.1, z12.2)))))))))) ∧ b = p_B W fs cols recs x h s ∧ GC (k_F fs cols recs x s).length (k_S fs cols recs x s) (k_seg fs cols recs x h s) (fun g => sp_c fs cols x ((k_F fs cols recs x s).getD g 0)) (k_O fs cols recs x h s) μ3 ∧ C3 (s_st (p_lo fs cols recs x h s) (p_hi fs cols recs x h s) (p_tk s)) (s_fi (p_lo fs cols recs x h s) (p_hi fs cols recs x h s) (p_tk s)) (s_la (p_lo fs cols recs x h s) (p_hi fs cols recs x h s) (p_tk s)) μ3 ∧ (b = true → LYC W (p_L fs cols recs x h s) (W - 1 - p_L fs cols recs x h s) (k_O fs cols recs x h s).length (k_ln fs cols recs x h s) μ3) ∧ μ3 141 5 = h.1 ∧ FCf μ μ3 from by
    refine ⟨fun hO1 hO8 hB => ?_, fun hO1 hO8 hB => ?_⟩
    · obtain ⟨μ3, b, e1, e2, e3, e4, e5, e6, e7⟩ := hs hO1 hO8
      rw [e1, e2, hB]
      exact ⟨_, if_pos rfl, e7⟩
    · obtain ⟨μ3, b, e1, e2, e3, e4, e5, e6, e7⟩ := hs hO1 hO8
      obtain ⟨hD, hfw⟩ := p_BD hW hO1 hO8 hB
      have hY := e5 (e2.trans hB)
      have hS := p_SN hHS h13
      obtain ⟨μ4, u1, u2, u3⟩ := fn158_ok hHS.2.2.1 hW hH hS rfl rfl hD hMl hSl (k_sB hHS h13) hOm hl (fun i hi => ⟨(hln i hi).1, (hln i hi).2.1, hfw i hi⟩) (fun z => hV_of hS z) (fun z => hT_of hS z) e3 e4 hY (by rw [e7 _ _ (by omega)]; exact h1) (by rw [e7 _ _ (by omega)]; exact h2) e6
      have hG4 : GC (k_F fs cols recs x s).length (k_S fs cols recs x s) (k_seg fs cols recs x h s) (fun g => sp_c fs cols x ((k_F fs cols recs x s).getD g 0)) (k_O fs cols recs x h s) μ4 := e3.fr hMl (fun c t _ _ => u3 c t (by omega))
      obtain ⟨μ5, v1, v2, v3, v4, v5⟩ := fn162_ok hS hMl hO8 hOm hG4 (e4.fr (fun t => u3 _ _ (by omega))) (show μ4 231 2 = p_L fs cols recs x h s by rw [u3 _ _ (by omega)]; exact hY.1.1) (show μ4 231 5 = _ by rw [u3 _ _ (by omega)]; exact hY.2.2)
      have eD : cA μ = some (.inl ((((k_O fs cols recs x h s).length : Nat) : Int), μ5)) := by
        rw [e1, e2, hB, if_neg (show ¬ (bI true = 0) by decide), u1, am_op_some]
        dsimp only
        rw [v1, am_op_some]
        unfold fn101
        rw [am_op_some]
        dsimp only
        rw [v5 _ _ (by decide) (by decide) (by omega), hG4.2.1]
      refine ⟨μ5, eD, ?_, v2, v3, v4, fun c t hc => ?_⟩
      · refine u2.fr (fun c t hc => ?_)
        exact v5 _ _ (by omega) (by omega) (by omega)
      · by_cases q : c = 238 ∨ c = 239
        · omega
        · rw [v5 c t (by omega) (by omega) (by omega), u3 c t (by omega), e7 c t (by omega)]
  intro hO1 hO8
  rw [if_neg (by omega), if_neg (by omega)] at eA
  rw [eA]
  obtain ⟨μ2, a1, a2, a3⟩ := fn114_ok (mk := h.1) (tk0 := s.2.2.2) (show μ1 141 5 = h.1 by rw [p3 _ _ (by omega)]; exact hC.2.2.1) (show μ1 141 12 = s.2.2.2 by rw [p3 _ _ (by omega)]; exact hC.2.2.2.2.2.2.2.2.2.2.2) hHS.2.2.2.2.2.2.2.2 (k_sB hHS h13) hMl hSl (by omega) hO1 hOm p2
  have hC3 : C3 (s_st (p_lo fs cols recs x h s) (p_hi fs cols recs x h s) (p_tk s)) (s_fi (p_lo fs cols recs x h s) (p_hi fs cols recs x h s) (p_tk s)) (s_la (p_lo fs cols recs x h s) (p_hi fs cols recs x h s) (p_tk s)) μ2 := a2
  have hG2 : GC (k_F fs cols recs x s).length (k_S fs cols recs x s) (k_seg fs cols recs x h s) (fun g => sp_c fs cols x ((k_F fs cols recs x s).getD g 0)) (k_O fs cols recs x h s) μ2 := p2.fr hMl (fun c t _ _ => a3 c t (by omega))
  obtain ⟨b, μ3, d1, d2, d3, d4⟩ := fn132_ok (W := W) (ln := k_ln fs cols recs x h s) (p_SN hHS h13) hC3 hG2 hMl hO1 hO8 hOm (fun g hg => (hl g hg).1) hln (by rw [a3 _ _ (by omega), F1 _ _ (by omega)]; exact h1) hW.1 hW.2
  refine ⟨μ3, b, ?_, d2, hG2.fr hMl (fun c t _ _ => d4 c t (by omega) (by omega) (by omega)), hC3.fr (fun t => d4 _ _ (by omega) (by omega) (by omega)), d3, by rw [d4 _ _ (by omega) (by omega) (by omega), a3 _ _ (by omega), p3 _ _ (by omega)]; exact hC.2.2.1, fun c t hc => by rw [d4 c t (by omega) (by omega) (by omega), a3 c t (by omega), F1 c t hc]⟩
  rw [a1, am_op_some]
  dsimp only
  rw [d1, am_op_some]
end DCl
