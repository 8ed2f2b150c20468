/-! draw. -/
section DW
variable {D T : Nat → Int} {n nt : Nat}
theorem ref_go {μ : am_M} (hRS : RSrc μ D n) (hUT : UT μ T nt) (hTr : ∀ i, i < nt → 0 ≤ T i ∧ T i ≤ 65535) :
    ((ps_D D n).2.2.2.2.2.1 = false → ∃ μ', fn227 240 μ = some (0, μ') ∧ μ' 240 0 = 1 ∧ FRf μ μ') ∧
    ((ps_D D n).2.2.2.2.2.1 = true → ps_in (ps_D D n) = false → ∃ μ', fn227 240 μ = some (0, μ') ∧ μ' 240 0 = 2 ∧ FRf μ μ') ∧
    ((ps_D D n).2.2.2.2.2.1 = true → ps_in (ps_D D n) = true → (∀ h s, ¬ q_good (ps_D D n).2.1 (ps_D D n).2.2.2.1 (sp_ty (ps_D D n).2.1 (ps_D D n).2.2.2.1 (ps_D D n).2.2.2.2.1) (tx_ws T nt) h s) → ∃ μ', fn227 240 μ = some (0, μ') ∧ μ' 240 0 = 3 ∧ FRf μ μ') ∧
    ((ps_D D n).2.2.2.2.2.1 = true → ps_in (ps_D D n) = true → ∀ h s, q_good (ps_D D n).2.1 (ps_D D n).2.2.2.1 (sp_ty (ps_D D n).2.1 (ps_D D n).2.2.2.1 (ps_D D n).2.2.2.2.1) (tx_ws T nt) h s → ∃ μ', fn227 240 μ = dA μ' ∧ RX (ps_D D n).2.1 (ps_D D n).2.2.2.1 (ps_D D n).2.2.2.2.1 μ' (tx_ws T nt) h s ∧ FRf μ μ') := by
  obtain ⟨u1, u2⟩ := fn181_ok hRS
  generalize hs : ps_D D n = ps at *
  have FD : ∀ μ1, Fdd μ μ1 → FRf μ μ1 := fun μ1 hf c t hc => hf c t (by omega) (by omega)
  refine ⟨fun hw => ?_, fun hw hin => ?_, ?_⟩
  · obtain ⟨μ1, r1, r2⟩ := u1 hw
    refine ⟨am_up μ1 240 0 1, ?_, am_up_at _ _ _ _, fun c t hc => by rw [up_ne (by omega), FD μ1 r2 c t hc]⟩
    rw [fn227_e, r1, am_op_some]
    dsimp only
    rw [if_pos rfl]
    rfl
  · obtain ⟨μ1, r1, r14, r7, rT, r2⟩ := u2 hw
    refine ⟨am_up μ1 240 0 2, ?_, am_up_at _ _ _ _, fun c t hc => by rw [up_ne (by omega), FD μ1 r2 c t hc]⟩
    rw [fn227_e, r1, am_op_some]
    dsimp only
    rw [if_neg (by decide), if_neg (by rw [r14, hin]; decide)]
    rfl
  · suffices hh : ps.2.2.2.2.2.1 = true → ps_in ps = true → ∃ μ1 μ2, FRf μ μ2 ∧ RT μ1 ps.2.1 ps.2.2.2.1 ps.2.2.2.2.1 ∧ (∀ c, c < ps.2.2.2.1 → μ1 246 c = sp_ty ps.2.1 ps.2.2.2.1 ps.2.2.2.2.1 c) ∧ (∀ c t, ¬ (c = 240 ∧ (t = 16 ∨ (19 ≤ t ∧ t ≤ 30))) → ¬ (247 ≤ c ∧ c ≤ 251) → μ2 c t = μ1 c t) ∧ fn227 240 μ = (am_op (fn191 240 μ1) (fun z2 => (if z2.1 = 0 then (am_op (fn182 240 3 z2.2) (fun z12 => some (z12.1, z12.2))) else dA z2.2))) ∧ ((∃ h s, q_good ps.2.1 ps.2.2.2.1 (sp_ty ps.2.1 ps.2.2.2.1 ps.2.2.2.2.1) (tx_ws T nt) h s ∧ fn191 240 μ1 = some (1, μ2) ∧ Rfin ps.2.2.2.1 μ2 (tx_ws T nt) h s) ∨ ((∀ h s, ¬ q_good ps.2.1 ps.2.2.2.1 (sp_ty ps.2.1 ps.2.2.2.1 ps.2.2.2.2.1) (tx_ws T nt) h s) ∧ fn191 240 μ1 = some (0, μ2))) from by
      refine ⟨fun hw hin hno => ?_, fun hw hin h s hq => ?_⟩
      · obtain ⟨μ1, μ2, f2, hT, hY, g2, e1, ho⟩ := hh hw hin
        rcases ho with ⟨h', s', hq', -, -⟩ | ⟨-, e2⟩
        · exact absurd hq' (hno h' s')
        · refine ⟨am_up μ2 240 0 3, ?_, am_up_at _ _ _ _, fun c t hc => by rw [up_ne (by omega), f2 c t hc]⟩
          rw [e1, e2, am_op_some]
          dsimp only
          rw [if_pos rfl]
          rfl
      · obtain ⟨μ1, μ2, f2, hT, hY, g2, e1, ho⟩ := hh hw hin
        rcases ho with ⟨h', s', hq', e2, hf⟩ | ⟨hno, -⟩
        · have e3 := hq.1
          rw [hq'.1] at e3
          injection e3 with e3
          injection e3 with e4 e5
          rw [e4, e5] at hf
          refine ⟨μ2, ?_, ⟨hT.fw (g2 _ _ (by omega) (by omega)) (g2 _ _ (by omega) (by omega)) (fun c t hc => g2 c t (by omega) (by omega)), fun c hc => by rw [g2 _ _ (by omega) (by omega)]; exact hY c hc, hf⟩, f2⟩
          rw [e1, e2, am_op_some]
          dsimp only
          rw [if_neg (by decide)]
        · exact absurd hq (hno h s)
    intro hw hin
    obtain ⟨μ1, r1, r14, r7, rT, r2⟩ := u2 hw
    obtain ⟨hT, hY⟩ := rT hin
    have f1 := FD μ1 r2
    have hU1 : UT μ1 T nt := ⟨by rw [f1 _ _ (by omega)]; exact hUT.1, hUT.2.1, fun i hi => by rw [f1 _ _ (by omega)]; exact hUT.2.2 i hi⟩
    obtain ⟨μ2, g2, ho⟩ := fn191_ok hU1 hTr hT hY (fun c _ => sp_ty_v c)
    refine ⟨μ1, μ2, fun c t hc => by rw [g2 c t (by omega) (by omega), f1 c t hc], hT, hY, g2, ?_, ho⟩
    rw [fn227_e, r1, am_op_some]
    dsimp only
    rw [if_neg (by decide), if_pos (by rw [r14, hin]; rfl)]
end DW
theorem r_draw : RD := by
  intro μ hR hM
  obtain ⟨n, hn, hS, hRS⟩ := src_of hR hM
  obtain ⟨hRa, ⟨b1, b2, b3, b4⟩, ⟨k1, k2, k3⟩, ⟨d1, d2, d3, d4, d5, d6⟩, dr1, dr2⟩ := id hR
  generalize hW : μ 240 5 = W at *
  generalize hH : μ 240 6 = H at *
  obtain ⟨nt, hnt⟩ : ∃ nt : Nat, μ 240 3 = nt := ⟨(μ 240 3).toNat, by omega⟩
  have hTr : ∀ i, i < nt → 0 ≤ μ 242 i ∧ μ 242 i ≤ 65535 := fun i _ => okM_ch hM rf_5.2.1 i
  have hTS : TSrc μ (fun i => μ 242 i) nt := ⟨by omega, by omega, fun i hi => ⟨b4 i (by omega), okM_ch hM rf_5.2.1 i⟩⟩
  have hUT : UT μ (fun i => μ 242 i) nt := ⟨hnt, by omega, fun i hi => rfl⟩
  have rsrc : ∀ μx : am_M, (∀ c t, 240 ≤ c → c ≤ 261 → μx c t = μ c t) → RSrc μx (fun i => μ 241 i) n ∧ UT μx (fun i => μ 242 i) nt := fun μx hx => ⟨⟨by rw [hx _ _ (by omega) (by omega)]; exact hRS.1, hRS.2.1, fun i hi => by rw [hx _ _ (by omega) (by omega)]; exact hRS.2.2 i hi⟩, ⟨by rw [hx _ _ (by omega) (by omega)]; exact hUT.1, hUT.2.1, fun i hi => by rw [hx _ _ (by omega) (by omega)]⟩⟩
  have fail : ∀ (k : Nat) (μa μb : am_M), fn232 0 μ = some (.inr (k, μa)) → FCf μ μa → fn227 240 μa = some (0, μb) → μb 240 0 = (k : Int) + 1 → FRf μa μb → ∃ x μ1 y μ2, fn233 0 262 μ = some (x, μ1) ∧ fn227 240 μ1 = some (y, μ2) ∧ fn163 240 μ2 = some (x, μ2) ∧ (x = 0 → μ2 262 0 = y) ∧ am_R μ2 := fun k μa μb e1 f1 e2 e3 f2 => by
    refine ⟨(k : Int) + 1, μa, 0, μb, ?_, e2, ?_, fun z => absurd z (by omega), hR.fr (fun c t hc => by rw [f2 c t (by omega), f1 c t (by omega)])⟩
    · unfold fn233; rw [e1]
    · unfold fn163; rw [e3]
  obtain ⟨μ1, q1, q10, q11, qC, qF⟩ := fn42_ok hS
  have F1 : FCf μ μ1 := fun c t hc => qF c t (by omega)
  have X1 : ∀ c t, 240 ≤ c → c ≤ 261 → μ1 c t = μ c t := fun c t a b => F1 c t (by omega)
  have G1 := ref_go (rsrc μ1 X1).1 (rsrc μ1 X1).2 hTr
  have e48 : fn48 5 μ1 = some (bI (ps_D (fun i => μ 241 i) n).2.2.2.2.2.1, μ1) := by
    unfold fn48; rw [q10, if_pos (by cases (ps_D (fun i => μ 241 i) n).2.2.2.2.2.1 <;> decide)]
  have e43 : fn43 5 μ1 = some (bI ((ps_D (fun i => μ 241 i) n).2.2.2.2.2.1 && ps_in (ps_D (fun i => μ 241 i) n)), μ1) := by
    unfold fn43; rw [q11, if_pos (by cases ((ps_D (fun i => μ 241 i) n).2.2.2.2.2.1 && ps_in (ps_D (fun i => μ 241 i) n)) <;> decide)]
  have e232 : fn232 0 μ = (if bI (ps_D (fun i => μ 241 i) n).2.2.2.2.2.1 = 0 then some (.inr (0, μ1)) else (if bI ((ps_D (fun i => μ 241 i) n).2.2.2.2.2.1 && ps_in (ps_D (fun i => μ 241 i) n)) = 0 then some (.inr (1, μ1)) else am_op (fn77 141 3 5 μ1) (fun z4 => if z4.1 = 0 then some (.inr (2, z4.2)) else cA z4.2))) := by
    rw [fn232_e, q1, am_op_some]
    dsimp only
    rw [e48, am_op_some]
    dsimp only
    rw [e43, am_op_some]
  cases hw : (ps_D (fun i => μ 241 i) n).2.2.2.2.2.1 with
  | false =>
    obtain ⟨μ2, r1, r2, r3⟩ := G1.1 hw
    exact fail 0 μ1 μ2 (by rw [e232, hw]; exact if_pos rfl) F1 r1 r2 r3
  | true =>
    cases hin : ps_in (ps_D (fun i => μ 241 i) n) with
    | false =>
      obtain ⟨μ2, r1, r2, r3⟩ := G1.2.1 hw hin
      exact fail 1 μ1 μ2 (by rw [e232, hw, hin]; rfl) F1 r1 r2 r3
    | true =>
      obtain ⟨hC, hCW⟩ := qC (by rw [hw, hin]; rfl)
      have e232' : fn232 0 μ = am_op (fn77 141 3 5 μ1) (fun z4 => if z4.1 = 0 then some (.inr (2, z4.2)) else cA z4.2) := by rw [e232, hw, hin]; rfl
      have hTS1 : TSrc μ1 (fun i => μ 242 i) nt := ⟨by rw [F1 _ _ (by omega)]; exact hTS.1, hTS.2.1, fun i hi => by rw [F1 _ _ (by omega)]; exact hTS.2.2 i hi⟩
      obtain ⟨μ2, g2, ho⟩ := fn77_ok hTS1 hC (fun c hc => (hCW c hc).1) (fun c _ => sp_ty_v c) (by rw [F1 _ _ (by omega)]; exact k3)
      have F2 : FCf μ μ2 := F1.trans (fun c t hc => g2 c t (by omega) (by omega))
      have X2 : ∀ c t, 240 ≤ c → c ≤ 261 → μ2 c t = μ c t := fun c t a b => F2 c t (by omega)
      rcases ho with ⟨h, s, hq, e77, hQ⟩ | ⟨hno, e77⟩
      · obtain ⟨x, hHS⟩ := q_HS hq
        have eC : fn232 0 μ = cA μ2 := by
          rw [e232', e77, am_op_some]
          dsimp only
          rw [if_neg (by decide)]
        have hCX : CX (ps_D (fun i => μ 241 i) n).2.1 (ps_D (fun i => μ 241 i) n).2.2.2.1 (ps_D (fun i => μ 241 i) n).2.2.2.2.1 μ2 h s := ⟨hC.fw (fun c t hc => g2 c t (by omega) (by omega)), hCW.fw (fun c t hc => g2 c t (by omega) (by omega)), hQ⟩
        have hWr : 20 ≤ W ∧ W ≤ 96 := ⟨d3, d4⟩
        have hHr : 18 ≤ H ∧ H ≤ 64 := ⟨d5, d6⟩
        have hne : ∀ w ∈ tx_ws (fun i => μ 242 i) nt, w ≠ [] := fun w hw' => (tx_mem hUT.2.1 hTr w hw').2.2
        obtain ⟨cA1, cA2, cA3⟩ := cA_ok hWr hHr hHS hCX (show μ2 234 1 = W by rw [F2 _ _ (by omega)]; omega) (show μ2 234 2 = H by rw [F2 _ _ (by omega)]; omega)
        have ref : ∀ μx : am_M, (∀ c t, 240 ≤ c → c ≤ 261 → μx c t = μ c t) → ∃ μ3, fn227 240 μx = dA μ3 ∧ RX (ps_D (fun i => μ 241 i) n).2.1 (ps_D (fun i => μ 241 i) n).2.2.2.1 (ps_D (fun i => μ 241 i) n).2.2.2.2.1 μ3 (tx_ws (fun i => μ 242 i) nt) h s ∧ FRf μx μ3 ∧ μ3 240 5 = W ∧ μ3 240 6 = H := fun μx hx => by
          obtain ⟨μ3, r1, r2, r3⟩ := (ref_go (rsrc μx hx).1 (rsrc μx hx).2 hTr).2.2.2 hw hin h s hq
          exact ⟨μ3, r1, r2, r3, by rw [r3 _ _ (by omega), hx _ _ (by omega) (by omega)]; exact hW, by rw [r3 _ _ (by omega), hx _ _ (by omega) (by omega)]; exact hH⟩
        by_cases hO : 1 ≤ (k_O (ps_D (fun i => μ 241 i) n).2.1 (ps_D (fun i => μ 241 i) n).2.2.2.1 (ps_D (fun i => μ 241 i) n).2.2.2.2.1 x h s).length ∧ (k_O (ps_D (fun i => μ 241 i) n).2.1 (ps_D (fun i => μ 241 i) n).2.2.2.1 (ps_D (fun i => μ 241 i) n).2.2.2.2.1 x h s).length ≤ 8
        · cases hB : p_B W (ps_D (fun i => μ 241 i) n).2.1 (ps_D (fun i => μ 241 i) n).2.2.2.1 (ps_D (fun i => μ 241 i) n).2.2.2.2.1 x h s with
          | false =>
            obtain ⟨μ3, c1, c2⟩ := cA2 hO.1 hO.2 hB
            have F3 : FCf μ μ3 := F2.trans c2
            obtain ⟨μ4, r1, r2, r3, r4, r5⟩ := ref μ3 (fun c t a b => F3 c t (by omega))
            obtain ⟨μ5, s1, s2, s3⟩ := (dA_ok hWr hHr hHS hne hq.2.1 r2 r4 r5).2.1 hO.1 hO.2 hB
            exact fail 4 μ3 μ5 (by rw [eC, c1]) F3 (by rw [r1, s1]) s2 (r3.trans s3)
          | true =>
            obtain ⟨μ3, c1, c2, c3, c4, c5, c6⟩ := cA3 hO.1 hO.2 hB
            generalize hlen : (k_O (ps_D (fun i => μ 241 i) n).2.1 (ps_D (fun i => μ 241 i) n).2.2.2.1 (ps_D (fun i => μ 241 i) n).2.2.2.2.1 x h s).length = len at *
            have F3 : ∀ c t, (c ≤ 4 ∧ ¬ (c = 0 ∧ t = 11)) ∨ c = 183 ∨ c = 234 ∨ 240 ≤ c → μ3 c t = μ c t := fun c t hc => by rw [c6 c t hc, F2 c t (by omega)]
            have U : ∀ c t, c ≠ 262 → am_up μ3 262 0 (len : Int) c t = μ3 c t := fun c t hc => up_ne (by omega)
            have u262 : am_up μ3 262 0 (len : Int) 262 0 = (len : Int) := am_up_at _ _ _ _
            obtain ⟨μ4, r1, r2, r3, r4, r5⟩ := ref (am_up μ3 262 0 (len : Int)) (fun c t a b => by rw [U c t (by omega), F3 c t (by omega)])
            obtain ⟨μ5, s1, s2, s3, s4, s5, s6, s7, s8⟩ := (dA_ok hWr hHr hHS hne hq.2.1 r2 r4 r5).2.2 (by omega) (by omega) hB
            rw [hlen] at s1 s7 s5
            have E : ∀ c t, c < 240 ∨ 261 < c ∨ (c = 240 ∧ (t = 1 ∨ t = 3 ∨ t = 5 ∨ t = 6)) ∨ c = 241 ∨ c = 242 → μ5 c t = am_up μ3 262 0 (len : Int) c t := fun c t hc => by rw [s8 c t hc, r3 c t (by omega)]
            have E3 : ∀ c t, c < 240 → μ5 c t = μ3 c t := fun c t hc => by rw [E c t (by omega), U c t (by omega)]
            have E0 : ∀ c t, (c ≤ 4 ∧ ¬ (c = 0 ∧ t = 11)) ∨ c = 183 ∨ c = 234 → μ5 c t = μ c t := fun c t hc => by rw [E3 c t (by omega), F3 c t (by omega)]
            have E4 : ∀ c t, (c = 240 ∧ (t = 1 ∨ t = 3 ∨ t = 5 ∨ t = 6)) ∨ c = 241 ∨ c = 242 → μ5 c t = μ c t := fun c t hc => by rw [E c t (by omega), U c t (by omega), F3 c t (by omega)]
            refine ⟨0, am_up μ3 262 0 (len : Int), (len : Int), μ5, ?_, by rw [r1, s1], ?_, fun _ => by rw [E _ _ (by omega)]; exact u262, ?_⟩
            · unfold fn233; rw [eC, c1]
            · unfold fn163; rw [s2]
            · have p1 := c2; have p2 := s3
              refine ⟨⟨?_, ?_, ?_, ?_⟩, ⟨?_, ?_, ?_, ?_⟩, ⟨?_, ?_, ?_⟩, ?_, ?_, fun _ => ⟨fun a b ha hb => ?_, fun i hi => ?_, ?_, ?_, fun i hi => ?_⟩⟩
              · rw [E0 _ _ (by omega), E4 _ _ (by omega)]; exact hRa.1
              · rw [E4 _ _ (by omega)]; exact hRa.2.1
              · rw [E4 _ _ (by omega)]; exact hRa.2.2.1
              · intro i hi
                rw [E4 _ _ (by omega)] at hi
                rw [E0 _ _ (by omega), E4 _ _ (by omega)]; exact hRa.2.2.2 i hi
              · rw [E0 _ _ (by omega), E4 _ _ (by omega)]; exact b1
              · rw [E4 _ _ (by omega)]; exact b2
              · rw [E4 _ _ (by omega)]; exact b3
              · intro i hi
                rw [E4 _ _ (by omega)] at hi
                rw [E0 _ _ (by omega), E4 _ _ (by omega)]; exact b4 i hi
              · rw [E0 _ _ (by omega)]; exact k1
              · rw [E0 _ _ (by omega)]; exact k2
              · rw [E0 _ _ (by omega)]; exact k3
              · rw [E0 234 1 (by omega), E0 234 2 (by omega), E4 240 5 (by omega), E4 240 6 (by omega), hW, hH]; exact ⟨d1, d2, d3, d4, d5, d6⟩
              · rw [E3 _ _ (by omega), c5, s6]
              · rw [E4 _ _ (by omega), hW] at ha
                rw [E4 _ _ (by omega), hH] at hb
                rw [E3 _ _ (by omega), c2.2.2 a b ha hb, s3.2.2 a b ha hb]
              · rw [E3 _ _ (by omega)]
                obtain ⟨x0, x1, x2, x3, x4, x5, x6⟩ := c3
                obtain ⟨y0, y1, y2, y3, y4, y5, y6⟩ := s4
                have : i = 0 ∨ i = 1 ∨ i = 2 ∨ i = 3 ∨ i = 4 ∨ i = 5 ∨ i = 6 := by omega
                rcases this with e | e | e | e | e | e | e <;> rw [e]
                · rw [x0, y0]
                · rw [x1, y1]
                · rw [x2, y2]
                · rw [x3, y3]
                · rw [x4, y4]
                · rw [x5, y5]
                · rw [x6, y6]
              · rw [E3 _ _ (by omega), s7, c3.1, hlen]
              · rw [s7]; omega
              · rw [s7] at hi
                rw [E3 _ _ (by omega), c4 i (by omega), s5 i (by omega)]
        · obtain ⟨μ3, c1, c2⟩ := cA1 hO
          have F3 : FCf μ μ3 := F2.trans c2
          obtain ⟨μ4, r1, r2, r3, r4, r5⟩ := ref μ3 (fun c t a b => F3 c t (by omega))
          obtain ⟨μ5, s1, s2, s3⟩ := (dA_ok hWr hHr hHS hne hq.2.1 r2 r4 r5).1 hO
          exact fail 3 μ3 μ5 (by rw [eC, c1]) F3 (by rw [r1, s1]) s2 (r3.trans s3)
      · obtain ⟨μ3, r1, r2, r3⟩ := (ref_go (rsrc μ2 X2).1 (rsrc μ2 X2).2 hTr).2.2.1 hw hin hno
        exact fail 2 μ2 μ3 (by rw [e232', e77, am_op_some]; exact if_pos rfl) F2 r1 r2 r3
