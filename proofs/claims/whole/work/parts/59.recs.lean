/-! Reading the data: records. -/
abbrev PS : Type := Nat × List (List Int) × Nat × Nat × Nat × Bool × Bool
def ps_lb (D : Nat → Int) (n q : Nat) : Nat := if ps_at D n q = 10 then 1 else if ps_at D n q = 13 then (if ps_at D n (q + 1) = 10 then 2 else 0) else 0
def ps_cl (recs k cols : Nat) : Nat := if recs = 0 then k else cols
/-- what stands behind a field: position, fields of the record, columns, records, well formed, ended -/
def ps_sp (D : Nat → Int) (n q k cols recs : Nat) (wf : Bool) : Nat × Nat × Nat × Nat × Bool × Bool :=
  if n ≤ q then (q, 0, ps_cl recs k cols, recs + 1, wf && decide (k = ps_cl recs k cols), true)
  else if ps_at D n q = 44 then (q + 1, k, cols, recs, wf, false)
  else if 0 < ps_lb D n q then (q + ps_lb D n q, 0, ps_cl recs k cols, recs + 1, wf && decide (k = ps_cl recs k cols), decide (n ≤ q + ps_lb D n q))
  else (q, k, cols, recs, false, true)
/-- one field: position, fields, fields of the record, columns, records, well formed, ended -/
def ps_step (D : Nat → Int) (n : Nat) (s : PS) : PS :=
  ((ps_sp D n (ps_fd D n s.1).2.1 (s.2.2.1 + 1) s.2.2.2.1 s.2.2.2.2.1 (s.2.2.2.2.2.1 && (ps_fd D n s.1).2.2)).1, s.2.1 ++ [(ps_fd D n s.1).1], (ps_sp D n (ps_fd D n s.1).2.1 (s.2.2.1 + 1) s.2.2.2.1 s.2.2.2.2.1 (s.2.2.2.2.2.1 && (ps_fd D n s.1).2.2)).2)
def ps_run (D : Nat → Int) (n : Nat) : Nat → PS → PS
  | 0, s => s
  | k + 1, s => if s.2.2.2.2.2.2 = true then s else ps_run D n k (ps_step D n s)
def ps_0 : PS := (0, [], 0, 0, 0, true, false)
def ps_al (fs : List (List Int)) : Bool := fs.all fun l => decide (l.length ≤ 12)
/-- the Table's memory holds s -/
def CI (μ : am_M) (s : PS) : Prop := μ 5 4 = (s.2.1.length : Nat) ∧ μ 5 5 = (s.2.2.2.1 : Nat) ∧ μ 5 6 = (s.2.2.2.2.1 : Nat) ∧ μ 5 7 = (s.2.2.1 : Nat) ∧ μ 5 8 = (s.1 : Nat) ∧ μ 5 9 = bI s.2.2.2.2.2.2 ∧ μ 5 10 = bI s.2.2.2.2.2.1 ∧ μ 5 11 = bI (ps_al s.2.1) ∧ ∀ f, f < s.2.1.length → f < 65 → Lt μ (7 + 2 * f) (8 + 2 * f) 12 (s.2.1.getD f [])
def PI (n : Nat) (s : PS) : Prop := s.1 ≤ n ∧ s.2.2.1 ≤ s.2.1.length ∧ s.2.2.2.2.1 ≤ s.2.1.length ∧ (s.2.2.2.2.2.2 = false → s.2.1.length ≤ s.1) ∧ s.2.1.length ≤ n + 1 ∧ s.2.2.2.1 ≤ s.2.1.length
theorem ps_lb_le {D : Nat → Int} {n q : Nat} : q + ps_lb D n q ≤ n ∨ ps_lb D n q = 0 := by
  unfold ps_lb
  split
  · rename_i h
    unfold ps_at at h
    split at h
    · omega
    · omega
  · split
    · split
      · rename_i h
        unfold ps_at at h
        split at h
        · omega
        · omega
      · omega
    · omega
theorem PI.step {D : Nat → Int} {n : Nat} {s : PS} (h : PI n s) (he : s.2.2.2.2.2.2 = false) : PI n (ps_step D n s) ∧ (ps_step D n s).2.1.length = s.2.1.length + 1 := by
  obtain ⟨h1, h2, h3, h4, h5, h6⟩ := h
  have h4 := h4 he
  have z := ps_fd_le D h1
  have zl := @ps_lb_le D n (ps_fd D n s.1).2.1
  have hc : ps_cl s.2.2.2.2.1 (s.2.2.1 + 1) s.2.2.2.1 ≤ s.2.1.length + 1 := by unfold ps_cl; split <;> omega
  unfold ps_step ps_sp PI
  simp only [List.length_append, List.length_singleton]
  refine ⟨?_, trivial⟩
  split
  · exact ⟨z.2, by first | omega | (dsimp only; omega), by first | omega | (dsimp only; omega), (fun h => by cases h), by first | omega | (dsimp only; omega), hc⟩
  · split
    · exact ⟨by first | omega | (dsimp only; omega), by first | omega | (dsimp only; omega), by first | omega | (dsimp only; omega), (fun h => by first | omega | (dsimp only; omega)), by omega, by first | omega | (dsimp only; omega)⟩
    · split
      · exact ⟨by first | omega | (dsimp only; omega), by first | omega | (dsimp only; omega), by first | omega | (dsimp only; omega), (fun h => by first | omega | (dsimp only; omega)), by first | omega | (dsimp only; omega), hc⟩
      · exact ⟨by first | omega | (dsimp only; omega), by first | omega | (dsimp only; omega), by first | omega | (dsimp only; omega), (fun h => by cases h), by omega, by first | omega | (dsimp only; omega)⟩
theorem fn23_ok {D : Nat → Int} {n q : Nat} {μ : am_M} (hS : Src μ D n) (hq : μ 5 8 = q) (hqn : q ≤ n) : fn23 5 1 μ = some (((ps_lb D n q : Nat) : Int), μ) := by
  have hn := hS.2.1
  unfold fn23 ps_lb
  rw [hq, fn15_at hS q rfl, am_op_some]
  dsimp only
  rw [hq, fn15_at hS q rfl, am_op_some]
  dsimp only
  rw [hq, w32_id (by omega) (by omega), fn15_at hS (q + 1) (by omega), am_op_some]
  dsimp only
  split
  · rfl
  · split
    · split <;> rfl
    · rfl
theorem fn24_ok {μ : am_M} {k cols recs : Nat} {wf : Bool} (h5 : μ 5 5 = cols) (h6 : μ 5 6 = recs) (h7 : μ 5 7 = k) (h10 : μ 5 10 = bI wf) (b : recs ≤ 10000) : ∃ μ', fn24 5 μ = some (0, μ') ∧ μ' 5 5 = ((ps_cl recs k cols : Nat) : Int) ∧ μ' 5 6 = ((recs + 1 : Nat) : Int) ∧ μ' 5 7 = 0 ∧ μ' 5 10 = bI (wf && decide (k = ps_cl recs k cols)) ∧ ∀ c s, ¬ (c = 5 ∧ (s = 5 ∨ s = 6 ∨ s = 7 ∨ s = 10)) → μ' c s = μ c s := by
  have fin : ∀ (m : am_M) (v : Int), m 5 5 = ((ps_cl recs k cols : Nat) : Int) → m 5 6 = recs → v = bI (wf && decide (k = ps_cl recs k cols)) → (∀ c s, ¬ (c = 5 ∧ s = 5) → m c s = μ c s) → ∃ μ', some ((0 : Int), am_up (am_up (am_up m 5 10 v) 5 6 (w32 (((am_up m 5 10 v) 5 6) + 1))) 5 7 0) = some ((0 : Int), μ') ∧ μ' 5 5 = ((ps_cl recs k cols : Nat) : Int) ∧ μ' 5 6 = ((recs + 1 : Nat) : Int) ∧ μ' 5 7 = 0 ∧ μ' 5 10 = bI (wf && decide (k = ps_cl recs k cols)) ∧ ∀ c s, ¬ (c = 5 ∧ (s = 5 ∨ s = 6 ∨ s = 7 ∨ s = 10)) → μ' c s = μ c s := by
    intro m v m5 m6 hv hf
    have e : (am_up m 5 10 v) 5 6 = recs := by rw [am_up_s _ _ (by decide), m6]
    rw [e, w32_id (by omega) (by omega)]
    refine ⟨_, rfl, ?_, ?_, ?_, ?_, fun c s h => ?_⟩
    · rw [am_up_s _ _ (by decide), am_up_s _ _ (by decide), am_up_s _ _ (by decide), m5]
    · rw [am_up_s _ _ (by decide), am_up_at]; omega
    · rw [am_up_at]
    · rw [am_up_s _ _ (by decide), am_up_s _ _ (by decide), am_up_at, hv]
    · by_cases hc : c = 5
      · rw [am_up_s _ _ (by omega), am_up_s _ _ (by omega), am_up_s _ _ (by omega), hf c s (by omega)]
      · rw [am_up_c _ _ hc, am_up_c _ _ hc, am_up_c _ _ hc, hf c s (by omega)]
  have gen : ∀ m : am_M, m 5 5 = ((ps_cl recs k cols : Nat) : Int) → m 5 6 = recs → m 5 7 = k → m 5 10 = bI wf → (∀ c s, ¬ (c = 5 ∧ s = 5) → m c s = μ c s) → ∃ μ', (if m 5 10 = 0 then some ((0 : Int), am_up (am_up (am_up m 5 10 0) 5 6 (w32 (((am_up m 5 10 0) 5 6) + 1))) 5 7 0) else (if m 5 7 = m 5 5 then some (0, am_up (am_up (am_up m 5 10 1) 5 6 (w32 (((am_up m 5 10 1) 5 6) + 1))) 5 7 0) else some (0, am_up (am_up (am_up m 5 10 0) 5 6 (w32 (((am_up m 5 10 0) 5 6) + 1))) 5 7 0))) = some ((0 : Int), μ') ∧ μ' 5 5 = ((ps_cl recs k cols : Nat) : Int) ∧ μ' 5 6 = ((recs + 1 : Nat) : Int) ∧ μ' 5 7 = 0 ∧ μ' 5 10 = bI (wf && decide (k = ps_cl recs k cols)) ∧ ∀ c s, ¬ (c = 5 ∧ (s = 5 ∨ s = 6 ∨ s = 7 ∨ s = 10)) → μ' c s = μ c s := by
    intro m m5 m6 m7 m10 hf
    cases wf with
    | false =>
      rw [if_pos (show m 5 10 = 0 from m10)]
      exact fin m 0 m5 m6 rfl hf
    | true =>
      rw [if_neg (show ¬ m 5 10 = 0 by rw [m10]; decide)]
      by_cases hk : k = ps_cl recs k cols
      · rw [if_pos (by rw [m7, m5]; omega)]
        exact fin m 1 m5 m6 (by rw [← hk]; simp [bI]) hf
      · rw [if_neg (by rw [m7, m5]; omega)]
        exact fin m 0 m5 m6 (by simp [bI, hk]) hf
  unfold fn24
  by_cases h0 : recs = 0
  · rw [if_pos (by rw [h6]; omega)]
    refine gen (am_up μ 5 5 (μ 5 7)) ?_ ?_ ?_ ?_ ?_
    · rw [am_up_at, h7]; unfold ps_cl; rw [if_pos h0]
    · rw [am_up_s _ _ (by decide), h6]
    · rw [am_up_s _ _ (by decide), h7]
    · rw [am_up_s _ _ (by decide), h10]
    · intro c s h
      by_cases hc : c = 5
      · rw [am_up_s _ _ (by omega)]
      · rw [am_up_c _ _ hc]
  · rw [if_neg (by rw [h6]; omega)]
    refine gen μ ?_ h6 h7 h10 (fun _ _ _ => rfl)
    rw [h5]; unfold ps_cl; rw [if_neg h0]
theorem fn25_ok {D : Nat → Int} {n q k cols recs : Nat} {wf : Bool} {μ : am_M} (hS : Src μ D n) (hq : μ 5 8 = q) (hqn : q ≤ n) (h5 : μ 5 5 = cols) (h6 : μ 5 6 = recs) (h7 : μ 5 7 = k) (h9 : μ 5 9 = 0) (h10 : μ 5 10 = bI wf) (b : recs ≤ 10000) : ∃ μ', fn25 5 1 μ = some (0, μ') ∧ μ' 5 8 = (((ps_sp D n q k cols recs wf).1 : Nat) : Int) ∧ μ' 5 7 = (((ps_sp D n q k cols recs wf).2.1 : Nat) : Int) ∧ μ' 5 5 = (((ps_sp D n q k cols recs wf).2.2.1 : Nat) : Int) ∧ μ' 5 6 = (((ps_sp D n q k cols recs wf).2.2.2.1 : Nat) : Int) ∧ μ' 5 10 = bI (ps_sp D n q k cols recs wf).2.2.2.2.1 ∧ μ' 5 9 = bI (ps_sp D n q k cols recs wf).2.2.2.2.2 ∧ ∀ c s, ¬ (c = 5 ∧ (s = 5 ∨ s = 6 ∨ s = 7 ∨ s = 8 ∨ s = 9 ∨ s = 10)) → μ' c s = μ c s := by
  have hn := hS.2.1
  have zl := @ps_lb_le D n q
  unfold fn25
  rw [fn23_ok hS hq hqn, am_op_some]
  unfold fn16
  rw [am_op_some]
  dsimp only
  unfold ps_sp
  by_cases h1 : n ≤ q
  · rw [if_neg (show ¬ μ 5 8 < μ 1 2 by rw [hq, hS.1]; omega), if_pos h1]
    obtain ⟨μ1, r1, r2, r3, r4, r5, r6⟩ := fn24_ok h5 h6 h7 h10 b
    rw [r1, am_op_some]
    dsimp only
    refine ⟨_, rfl, ?_, ?_, ?_, ?_, ?_, ?_, fun c s h => ?_⟩
    · rw [am_up_s _ _ (by decide), r6 5 8 (by omega)]; exact hq
    · rw [am_up_s _ _ (by decide)]; exact r4
    · rw [am_up_s _ _ (by decide)]; exact r2
    · rw [am_up_s _ _ (by decide)]; exact r3
    · rw [am_up_s _ _ (by decide)]; exact r5
    · rw [am_up_at]; rfl
    · by_cases hc : c = 5
      · rw [am_up_s _ _ (by omega), r6 c s (by omega)]
      · rw [am_up_c _ _ hc, r6 c s (by omega)]
  · rw [if_pos (show μ 5 8 < μ 1 2 by rw [hq, hS.1]; omega), if_neg h1, hq, fn15_at hS q rfl, am_op_some]
    dsimp only
    by_cases h2 : ps_at D n q = 44
    · rw [if_pos h2, if_pos h2, hq, w32_id (by omega) (by omega)]
      refine ⟨_, rfl, ?_, ?_, ?_, ?_, ?_, ?_, fun c s h => ?_⟩
      · rw [am_up_at]; dsimp only; omega
      · rw [am_up_s _ _ (by decide)]; exact h7
      · rw [am_up_s _ _ (by decide)]; exact h5
      · rw [am_up_s _ _ (by decide)]; exact h6
      · rw [am_up_s _ _ (by decide)]; exact h10
      · rw [am_up_s _ _ (by decide)]; exact h9
      · by_cases hc : c = 5
        · rw [am_up_s _ _ (by omega)]
        · rw [am_up_c _ _ hc]
    · rw [if_neg h2, if_neg h2]
      by_cases h3 : 0 < ps_lb D n q
      · rw [if_pos (by omega), if_pos h3]
        obtain ⟨μ1, r1, r2, r3, r4, r5, r6⟩ := fn24_ok h5 h6 h7 h10 b
        rw [r1, am_op_some]
        have e8 : μ1 5 8 = q := by rw [r6 5 8 (by omega)]; exact hq
        have eM : am_up μ1 5 8 (w32 (μ1 5 8 + ((ps_lb D n q : Nat) : Int))) = am_up μ1 5 8 ((q : Int) + (ps_lb D n q : Nat)) := by rw [e8, w32_id (by omega) (by omega)]
        change ∃ μ', (if (am_up μ1 5 8 (w32 (μ1 5 8 + ((ps_lb D n q : Nat) : Int)))) 5 8 < (am_up μ1 5 8 (w32 (μ1 5 8 + ((ps_lb D n q : Nat) : Int)))) 1 2 then some ((0 : Int), am_up (am_up μ1 5 8 (w32 (μ1 5 8 + ((ps_lb D n q : Nat) : Int)))) 5 9 0) else some ((0 : Int), am_up (am_up μ1 5 8 (w32 (μ1 5 8 + ((ps_lb D n q : Nat) : Int)))) 5 9 1)) = some (0, μ') ∧ _
        rw [eM]
        have es : (am_up μ1 5 8 ((q : Int) + (ps_lb D n q : Nat))) 1 2 = n := by rw [am_up_c _ _ (by decide), r6 1 2 (by omega), hS.1]
        have fin : ∀ v : Int, v = bI (decide (n ≤ q + ps_lb D n q)) → ∃ μ', some ((0 : Int), am_up (am_up μ1 5 8 ((q : Int) + (ps_lb D n q : Nat))) 5 9 v) = some (0, μ') ∧ μ' 5 8 = ((q + ps_lb D n q : Nat) : Int) ∧ μ' 5 7 = ((0 : Nat) : Int) ∧ μ' 5 5 = ((ps_cl recs k cols : Nat) : Int) ∧ μ' 5 6 = ((recs + 1 : Nat) : Int) ∧ μ' 5 10 = bI (wf && decide (k = ps_cl recs k cols)) ∧ μ' 5 9 = bI (decide (n ≤ q + ps_lb D n q)) ∧ ∀ c s, ¬ (c = 5 ∧ (s = 5 ∨ s = 6 ∨ s = 7 ∨ s = 8 ∨ s = 9 ∨ s = 10)) → μ' c s = μ c s := by
          intro v hv
          refine ⟨_, rfl, ?_, ?_, ?_, ?_, ?_, ?_, fun c s h => ?_⟩
          · rw [am_up_s _ _ (by decide), am_up_at]; omega
          · rw [am_up_s _ _ (by decide), am_up_s _ _ (by decide)]; exact r4
          · rw [am_up_s _ _ (by decide), am_up_s _ _ (by decide)]; exact r2
          · rw [am_up_s _ _ (by decide), am_up_s _ _ (by decide)]; exact r3
          · rw [am_up_s _ _ (by decide), am_up_s _ _ (by decide)]; exact r5
          · rw [am_up_at]; exact hv
          · by_cases hc : c = 5
            · rw [am_up_s _ _ (by omega), am_up_s _ _ (by omega), r6 c s (by omega)]
            · rw [am_up_c _ _ hc, am_up_c _ _ hc, r6 c s (by omega)]
        dsimp only
        by_cases h4 : n ≤ q + ps_lb D n q
        · rw [if_neg (by rw [es, am_up_at]; omega)]
          exact fin 1 (by simp [bI, h4])
        · rw [if_pos (by rw [es, am_up_at]; omega)]
          exact fin 0 (by simp [bI, h4])
      · rw [if_neg (by omega), if_neg h3]
        refine ⟨_, rfl, ?_, ?_, ?_, ?_, ?_, ?_, fun c s h => ?_⟩
        · rw [am_up_s _ _ (by decide), am_up_s _ _ (by decide)]; exact hq
        · rw [am_up_s _ _ (by decide), am_up_s _ _ (by decide)]; exact h7
        · rw [am_up_s _ _ (by decide), am_up_s _ _ (by decide)]; exact h5
        · rw [am_up_s _ _ (by decide), am_up_s _ _ (by decide)]; exact h6
        · rw [am_up_s _ _ (by decide), am_up_at]; rfl
        · rw [am_up_at]; rfl
        · by_cases hc : c = 5
          · rw [am_up_s _ _ (by omega), am_up_s _ _ (by omega)]
          · rw [am_up_c _ _ hc, am_up_c _ _ hc]
theorem ps_al_app (fs : List (List Int)) (l : List Int) : ps_al (fs ++ [l]) = (ps_al fs && decide (l.length ≤ 12)) := by
  unfold ps_al
  simp [List.all_append]
theorem CI.step {D : Nat → Int} {n : Nat} {μ : am_M} {s : PS} (hS : Src μ D n) (h : CI μ s) (hp : PI n s) (he : s.2.2.2.2.2.2 = false) : ∃ μ1 μ2, fn22 5 1 μ = some (0, μ1) ∧ fn25 5 1 μ1 = some (0, μ2) ∧ CI μ2 (ps_step D n s) ∧ ∀ c t, ¬ (5 ≤ c ∧ c ≤ 138) → μ2 c t = μ c t := by
  have hn := hS.2.1
  obtain ⟨c4, c5, c6, c7, c8, c9, c10, c11, cL⟩ := h
  have hp0 := hp
  obtain ⟨p1, p2, p3, p4, p5, p6⟩ := hp
  have p4 := p4 he
  have hfd := ps_fd_le D p1
  -- the object that takes the field
  obtain ⟨o, a, ho, ha, hor, har, hoe, hdj⟩ : ∃ o a : Nat, am_ref o 0 = a ∧ am_len a = 12 ∧ (7 ≤ o ∧ o ≤ 137) ∧ a = o + 1 ∧ (if s.2.1.length < 65 then 7 + 2 * s.2.1.length else 137) = o ∧ (∀ f, f < 65 → f ≠ s.2.1.length → 7 + 2 * f ≠ o ∧ 8 + 2 * f ≠ a ∧ 7 + 2 * f ≠ a ∧ 8 + 2 * f ≠ o) := by
    by_cases hl : s.2.1.length < 65
    · obtain ⟨r1, r2, r3⟩ := rf_2 _ hl
      exact ⟨7 + 2 * s.2.1.length, 8 + 2 * s.2.1.length, r2, r3, by omega, by omega, by rw [if_pos hl], fun f h1 h2 => by omega⟩
    · exact ⟨137, 138, rf_1.2.2.2.2.2.1, rf_1.2.2.2.2.2.2.1, by omega, by omega, by rw [if_neg hl], fun f h1 h2 => by omega⟩
  obtain ⟨μ1, q1, q8, q4, q7, q10, q11, qL, qF⟩ := rf_T_ok ho ha (by omega) (by omega) (by omega) hS c8 p1 c4 c7 (by omega) (by omega) c10 c11
  have hS1 : Src μ1 D n := hS.fr (qF 1 2 (by omega) (by omega) (by omega)) (fun i => qF 2 i (by omega) (by omega) (by omega))
  have d5 : μ1 5 5 = (s.2.2.2.1 : Nat) := by rw [qF 5 5 (by omega) (by omega) (by omega)]; exact c5
  have d6 : μ1 5 6 = (s.2.2.2.2.1 : Nat) := by rw [qF 5 6 (by omega) (by omega) (by omega)]; exact c6
  have d9 : μ1 5 9 = 0 := by rw [qF 5 9 (by omega) (by omega) (by omega), c9, he]; rfl
  obtain ⟨μ2, r1, r8, r7, r5, r6, r10, r9, rF⟩ := fn25_ok hS1 q8 hfd.2 d5 d6 q7 d9 q10 (by omega)
  refine ⟨μ1, μ2, ?_, r1, ?_, fun c t h => ?_⟩
  · rw [fn22_T c4, hoe]; exact q1
  · refine ⟨?_, r5, r6, r7, r8, r9, r10, ?_, fun f h1 h2 => ?_⟩
    · rw [rF 5 4 (by omega), q4]
      show _ = (((s.2.1 ++ [(ps_fd D n s.1).1]).length : Nat) : Int)
      rw [List.length_append, List.length_singleton]
    · rw [rF 5 11 (by omega), q11]
      show _ = bI (ps_al (s.2.1 ++ [(ps_fd D n s.1).1]))
      rw [ps_al_app]
    · have h1 : f < (s.2.1 ++ [(ps_fd D n s.1).1]).length := h1
      rw [List.length_append, List.length_singleton] at h1
      show Lt μ2 (7 + 2 * f) (8 + 2 * f) 12 ((s.2.1 ++ [(ps_fd D n s.1).1]).getD f [])
      by_cases hf : f = s.2.1.length
      · subst hf
        rw [if_pos h2] at hoe
        subst hoe
        have ea : a = 8 + 2 * s.2.1.length := by omega
        subst ea
        have eg : (s.2.1 ++ [(ps_fd D n s.1).1]).getD s.2.1.length [] = (ps_fd D n s.1).1 := by simp
        rw [eg]
        exact qL.fr (rF _ _ (by omega)) (fun i => rF _ _ (by omega))
      · obtain ⟨x1, x2, x3, x4⟩ := hdj f h2 hf
        have eg : (s.2.1 ++ [(ps_fd D n s.1).1]).getD f [] = s.2.1.getD f [] := by
          simp only [List.getD_eq_getElem?_getD]
          rw [List.getElem?_append_left (by omega)]
        rw [eg]
        exact ((cL f (by omega) h2).fr (qF _ _ (by omega) (by omega) (by omega)) (fun i => qF _ _ (by omega) (by omega) (by omega))).fr (rF _ _ (by omega)) (fun i => rF _ _ (by omega))
  · rw [rF c t (by omega), qF c t (by omega) (by omega) (by omega)]
theorem L42_6_ok {D : Nat → Int} {n : Nat} : ∀ (j N : Nat) (i : Int) (μ : am_M) (s : PS), j < N → i = 401 - (j : Int) → j ≤ 401 → Src μ D n → CI μ s → PI n s → ∃ i' μ', L42_6 5 1 N i μ = some (.inr (i', μ')) ∧ CI μ' (ps_run D n j s) ∧ PI n (ps_run D n j s) ∧ ∀ c t, ¬ (5 ≤ c ∧ c ≤ 138) → μ' c t = μ c t
  | j, 0, _, _, _, hN, _, _, _, _, _ => absurd hN (by omega)
  | 0, N + 1, i, μ, s, hN, hi, _, hS, hC, hP => by
    rw [L42_6, if_pos (by omega)]
    exact ⟨_, _, rfl, hC, hP, fun _ _ _ => rfl⟩
  | j + 1, N + 1, i, μ, s, hN, hi, hj, hS, hC, hP => by
    rw [L42_6, if_neg (by omega)]
    unfold ps_run
    by_cases he : s.2.2.2.2.2.2 = true
    · rw [if_neg (by rw [hC.2.2.2.2.2.1, he]; decide), if_pos he]
      exact ⟨_, _, rfl, hC, hP, fun _ _ _ => rfl⟩
    · rw [if_neg he]
      have he : s.2.2.2.2.2.2 = false := by simpa using he
      rw [if_pos (by rw [hC.2.2.2.2.2.1, he]; rfl)]
      obtain ⟨μ1, μ2, r1, r2, r3, r4⟩ := CI.step hS hC hP he
      rw [r1, am_op_some]
      dsimp only
      rw [r2, am_op_some]
      dsimp only
      rw [w32_id (by omega) (by omega)]
      obtain ⟨i', μ', t1, t2, t3, t4⟩ := L42_6_ok j N (i + 1) μ2 (ps_step D n s) (by omega) (by omega) (by omega) (hS.fr (r4 1 2 (by omega)) (fun i => r4 2 i (by omega))) r3 (hP.step he).1
      exact ⟨i', μ', t1, t2, t3, fun c t h => by rw [t4 c t h, r4 c t h]⟩
