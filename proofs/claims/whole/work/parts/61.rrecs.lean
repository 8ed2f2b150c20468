/-! Reading the data: the reference's records. -/
def ps_tot (fs : List (List Int)) : Nat := (fs.map List.length).sum
theorem ps_tot_app (fs : List (List Int)) (l : List Int) : ps_tot (fs ++ [l]) = ps_tot fs + l.length := by
  unfold ps_tot
  simp
/-- the reference's memory holds s -/
def RI (μ : am_M) (s : PS) : Prop := μ 240 7 = (s.2.2.2.1 : Nat) ∧ μ 240 8 = (s.2.2.2.2.1 : Nat) ∧ μ 240 9 = (s.2.1.length : Nat) ∧ μ 240 12 = ((ps_tot s.2.1 : Nat) : Int) ∧ ∀ f, f < s.2.1.length → μ 243 f = ((ps_tot (s.2.1.take f) : Nat) : Int) ∧ μ 244 f = (((s.2.1.getD f []).length : Nat) : Int) ∧ ∀ i, i < (s.2.1.getD f []).length → μ 245 (ps_tot (s.2.1.take f) + i) = (s.2.1.getD f []).getD i 0
def Fr (μ μ' : am_M) : Prop := ∀ c t, ¬ (c = 240 ∧ (t = 7 ∨ t = 8 ∨ t = 9 ∨ t = 12)) → ¬ (243 ≤ c ∧ c ≤ 245) → μ' c t = μ c t
def rr_E (N : Nat) (l2 q e : Int) (m : am_M) : Option ((Int × am_M) ⊕ (Int × Int × Int × am_M)) := (if m 240 8 = 0 then (if w32 (l2 + 1) = (am_up m 240 7 (w32 (l2 + 1))) 240 7 then (if w32 (q + e) < (am_up (am_up m 240 7 (w32 (l2 + 1))) 240 8 (w32 (((am_up m 240 7 (w32 (l2 + 1))) 240 8) + 1))) 240 1 then (L181_26 240 N (w32 (q + e)) 0 1 (am_up (am_up m 240 7 (w32 (l2 + 1))) 240 8 (w32 (((am_up m 240 7 (w32 (l2 + 1))) 240 8) + 1)))) else (L181_26 240 N (w32 (q + e)) 0 0 (am_up (am_up m 240 7 (w32 (l2 + 1))) 240 8 (w32 (((am_up m 240 7 (w32 (l2 + 1))) 240 8) + 1))))) else some (.inl (0, am_up m 240 7 (w32 (l2 + 1))))) else (if w32 (l2 + 1) = (am_up m 240 7 (m 240 7)) 240 7 then (if w32 (q + e) < (am_up (am_up m 240 7 (m 240 7)) 240 8 (w32 (((am_up m 240 7 (m 240 7)) 240 8) + 1))) 240 1 then (L181_26 240 N (w32 (q + e)) 0 1 (am_up (am_up m 240 7 (m 240 7)) 240 8 (w32 (((am_up m 240 7 (m 240 7)) 240 8) + 1)))) else (L181_26 240 N (w32 (q + e)) 0 0 (am_up (am_up m 240 7 (m 240 7)) 240 8 (w32 (((am_up m 240 7 (m 240 7)) 240 8) + 1))))) else some (.inl (0, am_up m 240 7 (m 240 7)))))
theorem rr_E_ok {N k q e cols recs n : Nat} {m : am_M} (h7 : m 240 7 = cols) (h8 : m 240 8 = recs) (h1 : m 240 1 = n) (b1 : k ≤ 1000) (b2 : q + e ≤ 1000) (b3 : recs ≤ 1000) : rr_E N k q e m = if k + 1 = ps_cl recs (k + 1) cols then L181_26 240 N ((q + e : Nat) : Int) 0 (if q + e < n then 1 else 0) (am_up (am_up m 240 7 ((ps_cl recs (k + 1) cols : Nat) : Int)) 240 8 ((recs + 1 : Nat) : Int)) else some (.inl (0, am_up m 240 7 ((ps_cl recs (k + 1) cols : Nat) : Int))) := by
  have gen : ∀ v : Int, v = ((ps_cl recs (k + 1) cols : Nat) : Int) → (if w32 ((k : Int) + 1) = (am_up m 240 7 v) 240 7 then (if w32 ((q : Int) + (e : Int)) < (am_up (am_up m 240 7 v) 240 8 (w32 (((am_up m 240 7 v) 240 8) + 1))) 240 1 then (L181_26 240 N (w32 ((q : Int) + (e : Int))) 0 1 (am_up (am_up m 240 7 v) 240 8 (w32 (((am_up m 240 7 v) 240 8) + 1)))) else (L181_26 240 N (w32 ((q : Int) + (e : Int))) 0 0 (am_up (am_up m 240 7 v) 240 8 (w32 (((am_up m 240 7 v) 240 8) + 1))))) else some (.inl (0, am_up m 240 7 v))) = if k + 1 = ps_cl recs (k + 1) cols then L181_26 240 N ((q + e : Nat) : Int) 0 (if q + e < n then 1 else 0) (am_up (am_up m 240 7 ((ps_cl recs (k + 1) cols : Nat) : Int)) 240 8 ((recs + 1 : Nat) : Int)) else some (.inl (0, am_up m 240 7 ((ps_cl recs (k + 1) cols : Nat) : Int))) := by
    intro v hv
    subst hv
    have e8 : (am_up m 240 7 ((ps_cl recs (k + 1) cols : Nat) : Int)) 240 8 = recs := by rw [am_up_s _ _ (by decide), h8]
    have ew : w32 (((am_up m 240 7 ((ps_cl recs (k + 1) cols : Nat) : Int)) 240 8) + 1) = ((recs + 1 : Nat) : Int) := by rw [e8, w32_id (by omega) (by omega)]; omega
    have eq1 : w32 ((q : Int) + (e : Int)) = ((q + e : Nat) : Int) := by rw [w32_id (by omega) (by omega)]; omega
    have en : (am_up (am_up m 240 7 ((ps_cl recs (k + 1) cols : Nat) : Int)) 240 8 ((recs + 1 : Nat) : Int)) 240 1 = n := by rw [am_up_s _ _ (by decide), am_up_s _ _ (by decide), h1]
    rw [ew, eq1]
    by_cases hk : k + 1 = ps_cl recs (k + 1) cols
    · rw [if_pos (by rw [am_up_at, w32_id (by omega) (by omega)]; omega), if_pos hk]
      by_cases hq : q + e < n
      · rw [if_pos (by rw [en]; omega), if_pos hq]
      · rw [if_neg (by rw [en]; omega), if_neg hq]
    · rw [if_neg (by rw [am_up_at, w32_id (by omega) (by omega)]; omega), if_neg hk]
  unfold rr_E
  by_cases h0 : recs = 0
  · rw [if_pos (by rw [h8]; omega)]
    exact gen _ (by rw [w32_id (by omega) (by omega)]; unfold ps_cl; rw [if_pos h0]; omega)
  · rw [if_neg (by rw [h8]; omega)]
    exact gen _ (by rw [h7]; unfold ps_cl; rw [if_neg h0])
theorem ps_sp_wf {D : Nat → Int} {n q k cols recs : Nat} : (ps_sp D n q k cols recs false).2.2.2.2.1 = false := by
  unfold ps_sp
  repeat' split
  all_goals rfl
set_option maxHeartbeats 2000000 in
theorem L181_26_s {D : Nat → Int} {n N : Nat} {μ : am_M} {s : PS} (hS : RSrc μ D n) (h : RI μ s) (hp : PI n s) (ht : ps_tot s.2.1 ≤ s.1) (hw : s.2.2.2.2.2.1 = true) (he : s.2.2.2.2.2.2 = false) :
    ((ps_step D n s).2.2.2.2.2.1 = false → ∃ μ', L181_26 240 (N + 1) (s.1 : Nat) (s.2.2.1 : Nat) 1 μ = some (.inl (0, μ')) ∧ Fr μ μ') ∧
    ((ps_step D n s).2.2.2.2.2.1 = true → ∃ μ', L181_26 240 (N + 1) (s.1 : Nat) (s.2.2.1 : Nat) 1 μ = L181_26 240 N ((ps_step D n s).1 : Nat) ((ps_step D n s).2.2.1 : Nat) (if (ps_step D n s).2.2.2.2.2.2 = true then 0 else 1) μ' ∧ RI μ' (ps_step D n s) ∧ Fr μ μ') := by
  have hn := hS.2.1
  obtain ⟨p1, p2, p3, p4, p5, p6⟩ := hp
  have p4 := p4 he
  have hfd := ps_fd_le D p1
  obtain ⟨g7, g8, g9, g12, gL⟩ := h
  obtain ⟨u1, u2⟩ := fn172_ok hS (a := ((s.1 : Nat) : Int)) rfl p1 g9 (by omega) g12 ht
  rw [L181_26, if_neg (by decide)]
  have hstep : (ps_step D n s).2.2.2.2.2.1 = (ps_sp D n (ps_fd D n s.1).2.1 (s.2.2.1 + 1) s.2.2.2.1 s.2.2.2.2.1 (s.2.2.2.2.2.1 && (ps_fd D n s.1).2.2)).2.2.2.2.1 := rfl
  by_cases hcl : (ps_fd D n s.1).2.2 = true
  · obtain ⟨μ1, r1, r9, r12, r43, r44, r45, rF⟩ := u2 hcl
    rw [r1, am_op_some]
    have hS1 : RSrc μ1 D n := hS.fr (rF 240 1 (by omega) (by omega) (by omega) (by omega)) (fun i => rF 241 i (by omega) (by omega) (by omega) (by omega))
    have f7 : μ1 240 7 = (s.2.2.2.1 : Nat) := by rw [rF 240 7 (by omega) (by omega) (by omega) (by omega)]; exact g7
    have f8 : μ1 240 8 = (s.2.2.2.2.1 : Nat) := by rw [rF 240 8 (by omega) (by omega) (by omega) (by omega)]; exact g8
    have hfr : ∀ c t, ¬ (c = 240 ∧ (t = 7 ∨ t = 8 ∨ t = 9 ∨ t = 12)) → ¬ (243 ≤ c ∧ c ≤ 245) → μ1 c t = μ c t := fun c t e1 e2 => rF c t (by omega) (by omega) (by omega) (by omega)
    -- the fields as they lie now
    have hL : ∀ (m : am_M), (∀ c t, c ≠ 240 → m c t = μ1 c t) → ∀ f, f < (s.2.1 ++ [(ps_fd D n s.1).1]).length → m 243 f = ((ps_tot ((s.2.1 ++ [(ps_fd D n s.1).1]).take f) : Nat) : Int) ∧ m 244 f = ((((s.2.1 ++ [(ps_fd D n s.1).1]).getD f []).length : Nat) : Int) ∧ ∀ i, i < ((s.2.1 ++ [(ps_fd D n s.1).1]).getD f []).length → m 245 (ps_tot ((s.2.1 ++ [(ps_fd D n s.1).1]).take f) + i) = ((s.2.1 ++ [(ps_fd D n s.1).1]).getD f []).getD i 0 := by
      intro m hm f hf
      rw [List.length_append, List.length_singleton] at hf
      by_cases ef : f = s.2.1.length
      · subst ef
        have eg : (s.2.1 ++ [(ps_fd D n s.1).1]).getD s.2.1.length [] = (ps_fd D n s.1).1 := by simp
        have et : (s.2.1 ++ [(ps_fd D n s.1).1]).take s.2.1.length = s.2.1 := by simp
        rw [eg, et]
        exact ⟨by rw [hm 243 _ (by decide)]; exact r43, by rw [hm 244 _ (by decide)]; exact r44, fun i hi => by rw [hm 245 _ (by decide)]; exact r45 i hi⟩
      · have eg : (s.2.1 ++ [(ps_fd D n s.1).1]).getD f [] = s.2.1.getD f [] := by
          simp only [List.getD_eq_getElem?_getD]
          rw [List.getElem?_append_left (by omega)]
        have et : (s.2.1 ++ [(ps_fd D n s.1).1]).take f = s.2.1.take f := by
          rw [List.take_append_of_le_length (by omega)]
        rw [eg, et]
        obtain ⟨y1, y2, y3⟩ := gL f (by omega)
        have hb : ps_tot (s.2.1.take f) + (s.2.1.getD f []).length ≤ ps_tot s.2.1 := by
          have e1 : s.2.1 = s.2.1.take f ++ (s.2.1.getD f []) :: s.2.1.drop (f + 1) := by
            rw [List.getD_eq_getElem?_getD, List.getElem?_eq_getElem (by omega)]
            simp
          have e2 := congrArg ps_tot e1
          rw [e2]
          unfold ps_tot
          simp
        exact ⟨by rw [hm 243 _ (by decide), rF 243 f (by omega) (by omega) (by omega) (by omega)]; exact y1, by rw [hm 244 _ (by decide), rF 244 f (by omega) (by omega) (by omega) (by omega)]; exact y2, fun i hi => by rw [hm 245 _ (by decide), rF 245 _ (by omega) (by omega) (by omega) (by omega)]; exact y3 i hi⟩
    have hlen : (s.2.1 ++ [(ps_fd D n s.1).1]).length = s.2.1.length + 1 := by simp
    have htot : ps_tot (s.2.1 ++ [(ps_fd D n s.1).1]) = ps_tot s.2.1 + (ps_fd D n s.1).1.length := ps_tot_app _ _
    unfold ps_step
    rw [hw, hcl]
    generalize hqq : (ps_fd D n s.1).2.1 = q at *
    have f0 : fn170 240 ((q : Nat) : Int) μ1 = some (ps_at D n q, μ1) := fn170_at hS1 q rfl
    have f1 : fn170 240 (w32 (((q : Nat) : Int) + 1)) μ1 = some (ps_at D n (q + 1), μ1) := fn170_at hS1 (q + 1) (by rw [w32_id (by omega) (by omega)]; omega)
    dsimp only
    rw [if_neg (by omega)]
    simp only [f0, f1, am_op_some]
    have hq1 : μ1 240 1 = n := hS1.1
    -- the end of a record
    have leaf : ∀ e : Nat, q + e ≤ n → ((true && decide (s.2.2.1 + 1 = ps_cl s.2.2.2.2.1 (s.2.2.1 + 1) s.2.2.2.1)) = false → ∃ μ', rr_E N ((s.2.2.1 : Nat) : Int) ((q : Nat) : Int) ((e : Nat) : Int) μ1 = some (.inl (0, μ')) ∧ Fr μ μ') ∧ ((true && decide (s.2.2.1 + 1 = ps_cl s.2.2.2.2.1 (s.2.2.1 + 1) s.2.2.2.1)) = true → ∃ μ', rr_E N ((s.2.2.1 : Nat) : Int) ((q : Nat) : Int) ((e : Nat) : Int) μ1 = L181_26 240 N ((q + e : Nat) : Int) ((0 : Nat) : Int) (if decide (n ≤ q + e) = true then 0 else 1) μ' ∧ RI μ' (q + e, s.2.1 ++ [(ps_fd D n s.1).1], 0, ps_cl s.2.2.2.2.1 (s.2.2.1 + 1) s.2.2.2.1, s.2.2.2.2.1 + 1, (true && decide (s.2.2.1 + 1 = ps_cl s.2.2.2.2.1 (s.2.2.1 + 1) s.2.2.2.1)), decide (n ≤ q + e)) ∧ Fr μ μ') := by
      intro e hqe
      rw [rr_E_ok f7 f8 hq1 (by omega) (by omega) (by omega)]
      refine ⟨fun hz => ?_, fun hz => ?_⟩
      · rw [Bool.true_and, decide_eq_false_iff_not] at hz
        rw [if_neg hz]
        refine ⟨_, rfl, fun c t e1 e2 => ?_⟩
        rw [← hfr c t e1 e2]
        by_cases hc : c = 240
        · rw [am_up_s _ _ (by omega)]
        · rw [am_up_c _ _ hc]
      · rw [Bool.true_and, decide_eq_true_eq] at hz
        rw [if_pos hz]
        refine ⟨am_up (am_up μ1 240 7 ((ps_cl s.2.2.2.2.1 (s.2.2.1 + 1) s.2.2.2.1 : Nat) : Int)) 240 8 ((s.2.2.2.2.1 + 1 : Nat) : Int), ?_, ⟨?_, ?_, ?_, ?_, ?_⟩, fun c t e1 e2 => ?_⟩
        · congr 1
          by_cases hd : n ≤ q + e
          · rw [if_neg (by omega), if_pos (decide_eq_true hd)]
          · rw [if_pos (by omega), if_neg (fun z => hd (of_decide_eq_true z))]
        · rw [am_up_s _ _ (by decide), am_up_at]
        · rw [am_up_at]
        · rw [am_up_s _ _ (by decide), am_up_s _ _ (by decide), r9, hlen]
        · rw [am_up_s _ _ (by decide), am_up_s _ _ (by decide), r12, htot]
        · exact hL _ (fun c t hc => by rw [am_up_c _ _ hc, am_up_c _ _ hc])
        · rw [← hfr c t e1 e2]
          by_cases hc : c = 240
          · rw [am_up_s _ _ (by omega), am_up_s _ _ (by omega)]
          · rw [am_up_c _ _ hc, am_up_c _ _ hc]
    unfold ps_sp
    by_cases hA : n ≤ q
    · have c0 : ps_at D n q = 0 := by unfold ps_at; rw [if_neg (by omega)]
      rw [if_pos hA]
      simp only [c0]
      rw [if_neg (by decide), if_neg (by decide), if_neg (by rw [hq1]; omega), if_neg (by rw [hq1]; omega)]
      have z := leaf 0 (by omega)
      rw [show decide (n ≤ q + 0) = true from decide_eq_true (by omega)] at z
      exact z
    · rw [if_neg hA]
      by_cases hB : ps_at D n q = 44
      · rw [if_pos hB]
        simp only [hB]
        rw [if_neg (by decide), if_neg (by decide), if_pos (by rw [hq1]; omega), if_pos trivial]
        refine ⟨(fun hz => by cases hz), fun _ => ⟨μ1, ?_, ⟨f7, f8, by rw [r9, hlen], by rw [r12, htot], hL μ1 (fun _ _ _ => rfl)⟩, hfr⟩⟩
        rw [w32_id (by omega) (by omega), w32_id (by omega) (by omega)]
        rfl
      · rw [if_neg hB]
        by_cases hC : ps_at D n q = 10
        · have hlb : ps_lb D n q = 1 := by unfold ps_lb; rw [if_pos hC]
          rw [hlb, if_pos (by decide), if_pos hC, if_pos (by rw [hq1]; omega), if_neg hB, if_pos (by rw [hq1]; omega)]
          exact leaf 1 (by omega)
        · by_cases hD : ps_at D n q = 13
          · by_cases hE : ps_at D n (q + 1) = 10
            · have hlb : ps_lb D n q = 2 := by unfold ps_lb; rw [if_neg hC, if_pos hD, if_pos hE]
              have hq2 : q + 2 ≤ n := by
                have z := @ps_lb_le D n q
                omega
              rw [hlb, if_pos (by decide), if_neg hC, if_pos hD, if_pos hE, if_pos (by rw [hq1]; omega), if_neg hB, if_pos (by rw [hq1]; omega)]
              exact leaf 2 hq2
            · have hlb : ps_lb D n q = 0 := by unfold ps_lb; rw [if_neg hC, if_pos hD, if_neg hE]
              rw [hlb, if_neg (by decide), if_neg hC, if_pos hD, if_neg hE, if_pos (by rw [hq1]; omega), if_neg hB, if_pos (by rw [hq1]; omega)]
              exact ⟨fun _ => ⟨μ1, rfl, hfr⟩, (fun hz => by cases hz)⟩
          · have hlb : ps_lb D n q = 0 := by unfold ps_lb; rw [if_neg hC, if_neg hD]
            rw [hlb, if_neg (by decide), if_neg hC, if_neg hD, if_pos (by rw [hq1]; omega), if_neg hB, if_pos (by rw [hq1]; omega)]
            exact ⟨fun _ => ⟨μ1, rfl, hfr⟩, (fun hz => by cases hz)⟩
  · have hcl : (ps_fd D n s.1).2.2 = false := by simpa using hcl
    obtain ⟨μ1, r1, rF⟩ := u1 hcl
    rw [r1, am_op_some, hstep, hcl, Bool.and_false, ps_sp_wf]
    refine ⟨fun _ => ⟨μ1, ?_, fun c t e1 e2 => rF c t (by omega) (by omega) (by omega) (by omega)⟩, (fun hz => by cases hz)⟩
    rw [if_pos (show (-1 : Int) < 0 by decide)]
