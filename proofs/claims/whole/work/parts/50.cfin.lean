/-! The constructors run: what they leave. -/
def zc_0 : zc_S := (0, 0, (fun _ _ => false), (fun _ _ => 0))
def zc_a : zc_S := (1, 12, zc_0.2.2)
def zc_b (S : zc_S) : zc_S := (S.1 + 1, S.2.1 + 54, S.2.2)
def zc_RA1 : Option zc_S := zc_ex 3000 0 0 (am_args 0 [.inr (.inr (0, 0))]) [] zc_a
def zc_RB1 (S : zc_S) : Option zc_S := zc_ex 3000 11 0 (am_args 0 [.inr (.inr (11, 240))]) [] (zc_b S)
def zc_chk (S : zc_S) : Bool := ((List.range 263).all fun o => if am_cls o < 16 then (List.range (am_nf (am_cls o))).all fun k => (if am_ft (am_cls o) k = 5 then S.2.2.1 o k else (decide (0 ≤ S.2.2.2 o k ∧ S.2.2.2 o k ≤ 1) || decide (am_ft (am_cls o) k = 0 ∧ 0 ≤ S.2.2.2 o k ∧ S.2.2.2 o k ≤ 100))) else (if am_cls o < 21 then true else (List.range (am_len o)).all fun k => S.2.2.1 o k))
def zc_ini (S : zc_S) : Bool := decide (S.2.2.2 1 2 = 0 ∧ S.2.2.2 240 1 = 0 ∧ S.2.2.2 3 2 = 0 ∧ S.2.2.2 240 3 = 0 ∧ S.2.2.2 1 1 = 1 ∧ S.2.2.2 3 1 = 0 ∧ S.2.2.2 183 1 = 0 ∧ S.2.2.2 234 1 = 48 ∧ S.2.2.2 240 5 = 48 ∧ S.2.2.2 234 2 = 32 ∧ S.2.2.2 240 6 = 32 ∧ S.2.2.2 0 11 = 0 ∧ S.2.2.2 240 49 = 0)
def zc_fin : Bool := match zc_RA1 with
  | none => false
  | some S1 => decide (S1.1 = 240 ∧ S1.2.1 = 8638) && (match zc_RB1 S1 with
    | none => false
    | some S2 => decide (S2.1 = 262 ∧ S2.2.1 = 16918) && (zc_chk S2 && zc_ini S2))
set_option maxRecDepth 100000 in
set_option maxHeartbeats 4000000 in
theorem zc_fin_ok : zc_fin = true := by decide +kernel
theorem zc_made : ∃ S1 S2, zc_RA1 = some S1 ∧ S1.1 = 240 ∧ S1.2.1 = 8638 ∧ zc_RB1 S1 = some S2 ∧ S2.1 = 262 ∧ S2.2.1 = 16918 ∧ zc_chk S2 = true ∧ zc_ini S2 = true := by
  have h := zc_fin_ok
  unfold zc_fin at h
  split at h
  · cases h
  · rename_i S1 e1
    simp only [Bool.and_eq_true, decide_eq_true_eq] at h
    obtain ⟨⟨h1, h2⟩, h⟩ := h
    split at h
    · cases h
    · rename_i S2 e2
      simp only [Bool.and_eq_true, decide_eq_true_eq] at h
      obtain ⟨⟨h3, h4⟩, h5, h6⟩ := h
      exact ⟨S1, S2, e1, h1, h2, e2, h3, h4, h5, h6⟩
