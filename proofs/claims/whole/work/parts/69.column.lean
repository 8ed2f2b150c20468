/-! column. -/
theorem am_R.fr {μ μ' : am_M} (h : am_R μ) (g : ∀ c t, (c ≤ 4 ∨ (c = 183 ∧ t = 1) ∨ c = 234 ∨ c = 235 ∨ c = 238 ∨ c = 239 ∨ (c = 240 ∧ (t = 1 ∨ t = 3 ∨ t = 5 ∨ t = 6 ∨ t = 49 ∨ t = 52)) ∨ c = 241 ∨ c = 242 ∨ (259 ≤ c ∧ c ≤ 261)) → μ' c t = μ c t) : am_R μ' := by
  obtain ⟨⟨a1, a2, a3, a4⟩, ⟨b1, b2, b3, b4⟩, ⟨c1, c2⟩, d, e1, f⟩ := h
  refine ⟨⟨?_, ?_, ?_, ?_⟩, ⟨?_, ?_, ?_, ?_⟩, ⟨?_, ?_⟩, ?_, ?_, ?_⟩
  · rw [g 1 2 (by omega), g 240 1 (by omega)]; exact a1
  · rw [g 240 1 (by omega)]; exact a2
  · rw [g 240 1 (by omega)]; exact a3
  · intro i hi
    rw [g 240 1 (by omega)] at hi
    rw [g 2 i (by omega), g 241 i (by omega)]
    exact a4 i hi
  · rw [g 3 2 (by omega), g 240 3 (by omega)]; exact b1
  · rw [g 240 3 (by omega)]; exact b2
  · rw [g 240 3 (by omega)]; exact b3
  · intro i hi
    rw [g 240 3 (by omega)] at hi
    rw [g 4 i (by omega), g 242 i (by omega)]
    exact b4 i hi
  · rw [g 1 1 (by omega)]; exact c1
  · rw [g 3 1 (by omega), g 183 1 (by omega)]; exact c2
  · rw [g 234 1 (by omega), g 234 2 (by omega), g 240 5 (by omega), g 240 6 (by omega)]; exact d
  · rw [g 0 11 (by omega), g 240 49 (by omega)]; exact e1
  · intro hd
    rw [g 240 49 (by omega)] at hd
    obtain ⟨f1, f2, f3, f4, f5⟩ := f hd
    refine ⟨fun x y hx hy => ?_, fun i hi => ?_, ?_, ?_, fun i hi => ?_⟩
    · rw [g 240 5 (by omega)] at hx
      rw [g 240 6 (by omega)] at hy
      rw [g 235 _ (by omega), g 259 _ (by omega)]
      exact f1 x y hx hy
    · rw [g 238 i (by omega), g 260 i (by omega)]; exact f2 i hi
    · rw [g 238 0 (by omega), g 240 52 (by omega)]; exact f3
    · rw [g 240 52 (by omega)]; exact f4
    · rw [g 240 52 (by omega)] at hi
      rw [g 239 i (by omega), g 261 i (by omega)]; exact f5 i hi
theorem okM_ch {μ : am_M} (h : am_okM μ) {c : Nat} (hc : am_cls c = 18) (i : Nat) : 0 ≤ μ c i ∧ μ c i ≤ 65535 := by
  have z := h c i
  rw [hc] at z
  exact z
theorem rf_5 : am_cls 241 = 18 ∧ am_cls 242 = 18 ∧ am_ref 0 2 = 5 ∧ am_ref 0 0 = 1 ∧ am_ref 0 1 = 3 := by decide +kernel
theorem src_of {μ : am_M} (h : am_R μ) (hM : am_okM μ) : ∃ n : Nat, μ 240 1 = n ∧ Src μ (fun i => μ 241 i) n ∧ RSrc μ (fun i => μ 241 i) n := by
  obtain ⟨⟨a1, a2, a3, a4⟩, -⟩ := h
  refine ⟨(μ 240 1).toNat, by omega, ⟨by omega, by omega, fun i hi => ⟨a4 i (by omega), okM_ch hM rf_5.1 i⟩⟩, ⟨by omega, by omega, fun i hi => ⟨rfl, okM_ch hM rf_5.1 i⟩⟩⟩
theorem r_column : RC := by
  intro μ a hR hM ha
  obtain ⟨n, hn, hS, hRS⟩ := src_of hR hM
  obtain ⟨μ1, q1, q10, q11, qC, qF⟩ := fn42_ok hS
  have hRS1 : RSrc (am_up μ1 240 0 0) (fun i => μ 241 i) n := hRS.fr (by rw [am_up_s _ _ (by decide), qF 240 1 (by omega)]) (fun i => by rw [am_up_c _ _ (by decide), qF 241 i (by omega)])
  have hz : am_R (am_up μ1 240 0 0) := hR.fr (fun c t h => by
    by_cases hc : c = 240
    · rw [am_up_s _ _ (by omega), qF c t (by omega)]
    · rw [am_up_c _ _ hc, qF c t (by omega)])
  obtain ⟨u1, u2⟩ := fn181_ok hRS1
  have e1 : fn46 0 a μ = (if μ1 5 11 = 0 then some (0, μ1) else (if a < 0 then some (0, μ1) else (if a < μ1 5 5 then (am_op (fn45 5 a μ1) (fun z4 => some (z4.1, z4.2))) else some (0, μ1)))) := by
    unfold fn46
    rw [rf_5.2.2.1, rf_5.2.2.2.1, q1, am_op_some]
    unfold fn43
    dsimp only
    rw [if_pos (by rw [q11]; cases ((ps_D (fun i => μ 241 i) n).2.2.2.2.2.1 && ps_in (ps_D (fun i => μ 241 i) n)) <;> simp [bI]), am_op_some]
    rfl
  rw [e1]
  generalize hs : ps_D (fun i => μ 241 i) n = s at *
  have fin : ∀ μ2, Fdd (am_up μ1 240 0 0) μ2 → am_R μ2 := fun μ2 hf => hz.fr (fun c t h => hf c t (by omega) (by omega))
  by_cases h0 : a < 0
  · refine ⟨0, μ1, am_up μ1 240 0 0, ?_, ?_, hz⟩
    · rw [if_pos h0]
      split <;> rfl
    · unfold fn230
      rw [if_pos h0]
  · cases hw : s.2.2.2.2.2.1 with
    | false =>
      obtain ⟨μ2, r1, r2⟩ := u1 hw
      refine ⟨0, μ1, μ2, ?_, ?_, fin μ2 r2⟩
      · rw [if_pos (by rw [q11, hw]; rfl)]
      · unfold fn230
        rw [if_neg h0, r1, am_op_some]
        rfl
    | true =>
      obtain ⟨μ2, r1, r14, r7, rT, r2⟩ := u2 hw
      have e2 : fn230 240 a μ1 = (if μ2 240 14 = 0 then (if a < μ2 240 7 then (if (0 : Int) ≤ a ∧ a < ((5 : Nat) : Int) then some (μ2 246 a.toNat, μ2) else none) else some (0, μ2)) else some (0, μ2)) := by
        unfold fn230
        rw [if_neg h0, r1, am_op_some, rf_3.2.2.2.2.2.2.2.2.1, rf_3.2.2.2.2.2.2.2.2.2]
        rfl
      cases hin : ps_in s with
      | false =>
        refine ⟨0, μ1, μ2, ?_, ?_, fin μ2 r2⟩
        · rw [if_pos (by rw [q11, hw, hin]; rfl)]
        · rw [e2, if_neg (by rw [r14, hin]; decide)]
      | true =>
        obtain ⟨hC, hW⟩ := qC (by rw [hw, hin]; rfl)
        obtain ⟨hT, hY⟩ := rT hin
        have h5 := hC.2.2.2.1
        rw [if_neg (by rw [q11, hw, hin]; decide), if_neg h0]
        by_cases hc : a < s.2.2.2.1
        · obtain ⟨c, rfl⟩ := Int.eq_ofNat_of_zero_le (show 0 ≤ a by omega)
          refine ⟨sp_ty s.2.1 s.2.2.2.1 s.2.2.2.2.1 c, μ1, μ2, ?_, ?_, fin μ2 r2⟩
          · rw [if_pos (by rw [hC.1]; exact hc)]
            unfold fn45
            rw [rf_1.2.2.2.2.2.2.2.2.1, rf_1.2.2.2.2.2.2.2.2.2.2, if_neg h0, if_pos (by omega), if_pos (by omega), Int.toNat_natCast, (hW c (by omega)).1]
            rfl
          · rw [e2, if_pos (by rw [r14, hin]; rfl), if_pos (by rw [r7]; exact hc), if_pos (by omega), Int.toNat_natCast, hY c (by omega)]
        · refine ⟨0, μ1, μ2, ?_, ?_, fin μ2 r2⟩
          · rw [if_neg (by rw [hC.1]; exact hc)]
          · rw [e2, if_pos (by rw [r14, hin]; rfl), if_neg (by rw [r7]; exact hc)]
