/-! draw: reference. -/
def gT (z : am_M) : Option (Int × am_M) := (if (0 : Int) ≤ 0 ∧ 0 < ((7 : Nat) : Int) then (if (0 : Int) ≤ 1 ∧ 1 < ((7 : Nat) : Int) then (if (0 : Int) ≤ 2 ∧ 2 < ((7 : Nat) : Int) then (if (0 : Int) ≤ 3 ∧ 3 < ((7 : Nat) : Int) then (if (0 : Int) ≤ 4 ∧ 4 < ((7 : Nat) : Int) then (if (0 : Int) ≤ 5 ∧ 5 < ((7 : Nat) : Int) then (if (0 : Int) ≤ 6 ∧ 6 < ((7 : Nat) : Int) then some ((am_up (am_up (am_up (am_up (am_up (am_up (am_up z 260 (0 : Int).toNat (z 240 47)) 260 (1 : Int).toNat ((am_up z 260 (0 : Int).toNat (z 240 47)) 240 45)) 260 (2 : Int).toNat ((am_up (am_up z 260 (0 : Int).toNat (z 240 47)) 260 (1 : Int).toNat ((am_up z 260 (0 : Int).toNat (z 240 47)) 240 45)) 240 42)) 260 (3 : Int).toNat ((am_up (am_up (am_up z 260 (0 : Int).toNat (z 240 47)) 260 (1 : Int).toNat ((am_up z 260 (0 : Int).toNat (z 240 47)) 240 45)) 260 (2 : Int).toNat ((am_up (am_up z 260 (0 : Int).toNat (z 240 47)) 260 (1 : Int).toNat ((am_up z 260 (0 : Int).toNat (z 240 47)) 240 45)) 240 42)) 240 43)) 260 (4 : Int).toNat ((am_up (am_up (am_up (am_up z 260 (0 : Int).toNat (z 240 47)) 260 (1 : Int).toNat ((am_up z 260 (0 : Int).toNat (z 240 47)) 240 45)) 260 (2 : Int).toNat ((am_up (am_up z 260 (0 : Int).toNat (z 240 47)) 260 (1 : Int).toNat ((am_up z 260 (0 : Int).toNat (z 240 47)) 240 45)) 240 42)) 260 (3 : Int).toNat ((am_up (am_up (am_up z 260 (0 : Int).toNat (z 240 47)) 260 (1 : Int).toNat ((am_up z 260 (0 : Int).toNat (z 240 47)) 240 45)) 260 (2 : Int).toNat ((am_up (am_up z 260 (0 : Int).toNat (z 240 47)) 260 (1 : Int).toNat ((am_up z 260 (0 : Int).toNat (z 240 47)) 240 45)) 240 42)) 240 43)) 240 41)) 260 (5 : Int).toNat ((am_up (am_up (am_up (am_up (am_up z 260 (0 : Int).toNat (z 240 47)) 260 (1 : Int).toNat ((am_up z 260 (0 : Int).toNat (z 240 47)) 240 45)) 260 (2 : Int).toNat ((am_up (am_up z 260 (0 : Int).toNat (z 240 47)) 260 (1 : Int).toNat ((am_up z 260 (0 : Int).toNat (z 240 47)) 240 45)) 240 42)) 260 (3 : Int).toNat ((am_up (am_up (am_up z 260 (0 : Int).toNat (z 240 47)) 260 (1 : Int).toNat ((am_up z 260 (0 : Int).toNat (z 240 47)) 240 45)) 260 (2 : Int).toNat ((am_up (am_up z 260 (0 : Int).toNat (z 240 47)) 260 (1 : Int).toNat ((am_up z 260 (0 : Int).toNat (z 240 47)) 240 45)) 240 42)) 240 43)) 260 (4 : Int).toNat ((am_up (am_up (am_up (am_up z 260 (0 : Int).toNat (z 240 47)) 260 (1 : Int).toNat ((am_up z 260 (0 : Int).toNat (z 240 47)) 240 45)) 260 (2 : Int).toNat ((am_up (am_up z 260 (0 : Int).toNat (z 240 47)) 260 (1 : Int).toNat ((am_up z 260 (0 : Int).toNat (z 240 47)) 240 45)) 240 42)) 260 (3 : Int).toNat ((am_up (am_up (am_up z 260 (0 : Int).toNat (z 240 47)) 260 (1 : Int).toNat ((am_up z 260 (0 : Int).toNat (z 240 47)) 240 45)) 260 (2 : Int).toNat ((am_up (am_up z 260 (0 : Int).toNat (z 240 47)) 260 (1 : Int).toNat ((am_up z 260 (0 : Int).toNat (z 240 47)) 240 45)) 240 42)) 240 43)) 240 41)) 240 44)) 260 (6 : Int).toNat ((am_up (am_up (am_up (am_up (am_up (am_up z 260 (0 : Int).toNat (z 240 47)) 260 (1 : Int).toNat ((am_up z 260 (0 : Int).toNat (z 240 47)) 240 45)) 260 (2 : Int).toNat ((am_up (am_up z 260 (0 : Int).toNat (z 240 47)) 260 (1 : Int).toNat ((am_up z 260 (0 : Int).toNat (z 240 47)) 240 45)) 240 42)) 260 (3 : Int).toNat ((am_up (am_up (am_up z 260 (0 : Int).toNat (z 240 47)) 260 (1 : Int).toNat ((am_up z 260 (0 : Int).toNat (z 240 47)) 240 45)) 260 (2 : Int).toNat ((am_up (am_up z 260 (0 : Int).toNat (z 240 47)) 260 (1 : Int).toNat ((am_up z 260 (0 : Int).toNat (z 240 47)) 240 45)) 240 42)) 240 43)) 260 (4 : Int).toNat ((am_up (am_up (am_up (am_up z 260 (0 : Int).toNat (z 240 47)) 260 (1 : Int).toNat ((am_up z 260 (0 : Int).toNat (z 240 47)) 240 45)) 260 (2 : Int).toNat ((am_up (am_up z 260 (0 : Int).toNat (z 240 47)) 260 (1 : Int).toNat ((am_up z 260 (0 : Int).toNat (z 240 47)) 240 45)) 240 42)) 260 (3 : Int).toNat ((am_up (am_up (am_up z 260 (0 : Int).toNat (z 240 47)) 260 (1 : Int).toNat ((am_up z 260 (0 : Int).toNat (z 240 47)) 240 45)) 260 (2 : Int).toNat ((am_up (am_up z 260 (0 : Int).toNat (z 240 47)) 260 (1 : Int).toNat ((am_up z 260 (0 : Int).toNat (z 240 47)) 240 45)) 240 42)) 240 43)) 240 41)) 260 (5 : Int).toNat ((am_up (am_up (am_up (am_up (am_up z 260 (0 : Int).toNat (z 240 47)) 260 (1 : Int).toNat ((am_up z 260 (0 : Int).toNat (z 240 47)) 240 45)) 260 (2 : Int).toNat ((am_up (am_up z 260 (0 : Int).toNat (z 240 47)) 260 (1 : Int).toNat ((am_up z 260 (0 : Int).toNat (z 240 47)) 240 45)) 240 42)) 260 (3 : Int).toNat ((am_up (am_up (am_up z 260 (0 : Int).toNat (z 240 47)) 260 (1 : Int).toNat ((am_up z 260 (0 : Int).toNat (z 240 47)) 240 45)) 260 (2 : Int).toNat ((am_up (am_up z 260 (0 : Int).toNat (z 240 47)) 260 (1 : Int).toNat ((am_up z 260 (0 : Int).toNat (z 240 47)) 240 45)) 240 42)) 240 43)) 260 (4 : Int).toNat ((am_up (am_up (am_up (am_up z 260 (0 : Int).toNat (z 240 47)) 260 (1 : Int).toNat ((am_up z 260 (0 : Int).toNat (z 240 47)) 240 45)) 260 (2 : Int).toNat ((am_up (am_up z 260 (0 : Int).toNat (z 240 47)) 260 (1 : Int).toNat ((am_up z 260 (0 : Int).toNat (z 240 47)) 240 45)) 240 42)) 260 (3 : Int).toNat ((am_up (am_up (am_up z 260 (0 : Int).toNat (z 240 47)) 260 (1 : Int).toNat ((am_up z 260 (0 : Int).toNat (z 240 47)) 240 45)) 260 (2 : Int).toNat ((am_up (am_up z 260 (0 : Int).toNat (z 240 47)) 260 (1 : Int).toNat ((am_up z 260 (0 : Int).toNat (z 240 47)) 240 45)) 240 42)) 240 43)) 240 41)) 240 44)) 240 46)) 240 47, am_up (am_up (am_up (am_up (am_up (am_up (am_up z 260 (0 : Int).toNat (z 240 47)) 260 (1 : Int).toNat ((am_up z 260 (0 : Int).toNat (z 240 47)) 240 45)) 260 (2 : Int).toNat ((am_up (am_up z 260 (0 : Int).toNat (z 240 47)) 260 (1 : Int).toNat ((am_up z 260 (0 : Int).toNat (z 240 47)) 240 45)) 240 42)) 260 (3 : Int).toNat ((am_up (am_up (am_up z 260 (0 : Int).toNat (z 240 47)) 260 (1 : Int).toNat ((am_up z 260 (0 : Int).toNat (z 240 47)) 240 45)) 260 (2 : Int).toNat ((am_up (am_up z 260 (0 : Int).toNat (z 240 47)) 260 (1 : Int).toNat ((am_up z 260 (0 : Int).toNat (z 240 47)) 240 45)) 240 42)) 240 43)) 260 (4 : Int).toNat ((am_up (am_up (am_up (am_up z 260 (0 : Int).toNat (z 240 47)) 260 (1 : Int).toNat ((am_up z 260 (0 : Int).toNat (z 240 47)) 240 45)) 260 (2 : Int).toNat ((am_up (am_up z 260 (0 : Int).toNat (z 240 47)) 260 (1 : Int).toNat ((am_up z 260 (0 : Int).toNat (z 240 47)) 240 45)) 240 42)) 260 (3 : Int).toNat ((am_up (am_up (am_up z 260 (0 : Int).toNat (z 240 47)) 260 (1 : Int).toNat ((am_up z 260 (0 : Int).toNat (z 240 47)) 240 45)) 260 (2 : Int).toNat ((am_up (am_up z 260 (0 : Int).toNat (z 240 47)) 260 (1 : Int).toNat ((am_up z 260 (0 : Int).toNat (z 240 47)) 240 45)) 240 42)) 240 43)) 240 41)) 260 (5 : Int).toNat ((am_up (am_up (am_up (am_up (am_up z 260 (0 : Int).toNat (z 240 47)) 260 (1 : Int).toNat ((am_up z 260 (0 : Int).toNat (z 240 47)) 240 45)) 260 (2 : Int).toNat ((am_up (am_up z 260 (0 : Int).toNat (z 240 47)) 260 (1 : Int).toNat ((am_up z 260 (0 : Int).toNat (z 240 47)) 240 45)) 240 42)) 260 (3 : Int).toNat ((am_up (am_up (am_up z 260 (0 : Int).toNat (z 240 47)) 260 (1 : Int).toNat ((am_up z 260 (0 : Int).toNat (z 240 47)) 240 45)) 260 (2 : Int).toNat ((am_up (am_up z 260 (0 : Int).toNat (z 240 47)) 260 (1 : Int).toNat ((am_up z 260 (0 : Int).toNat (z 240 47)) 240 45)) 240 42)) 240 43)) 260 (4 : Int).toNat ((am_up (am_up (am_up (am_up z 260 (0 : Int).toNat (z 240 47)) 260 (1 : Int).toNat ((am_up z 260 (0 : Int).toNat (z 240 47)) 240 45)) 260 (2 : Int).toNat ((am_up (am_up z 260 (0 : Int).toNat (z 240 47)) 260 (1 : Int).toNat ((am_up z 260 (0 : Int).toNat (z 240 47)) 240 45)) 240 42)) 260 (3 : Int).toNat ((am_up (am_up (am_up z 260 (0 : Int).toNat (z 240 47)) 260 (1 : Int).toNat ((am_up z 260 (0 : Int).toNat (z 240 47)) 240 45)) 260 (2 : Int).toNat ((am_up (am_up z 260 (0 : Int).toNat (z 240 47)) 260 (1 : Int).toNat ((am_up z 260 (0 : Int).toNat (z 240 47)) 240 45)) 240 42)) 240 43)) 240 41)) 240 44)) 260 (6 : Int).toNat ((am_up (am_up (am_up (am_up (am_up (am_up z 260 (0 : Int).toNat (z 240 47)) 260 (1 : Int).toNat ((am_up z 260 (0 : Int).toNat (z 240 47)) 240 45)) 260 (2 : Int).toNat ((am_up (am_up z 260 (0 : Int).toNat (z 240 47)) 260 (1 : Int).toNat ((am_up z 260 (0 : Int).toNat (z 240 47)) 240 45)) 240 42)) 260 (3 : Int).toNat ((am_up (am_up (am_up z 260 (0 : Int).toNat (z 240 47)) 260 (1 : Int).toNat ((am_up z 260 (0 : Int).toNat (z 240 47)) 240 45)) 260 (2 : Int).toNat ((am_up (am_up z 260 (0 : Int).toNat (z 240 47)) 260 (1 : Int).toNat ((am_up z 260 (0 : Int).toNat (z 240 47)) 240 45)) 240 42)) 240 43)) 260 (4 : Int).toNat ((am_up (am_up (am_up (am_up z 260 (0 : Int).toNat (z 240 47)) 260 (1 : Int).toNat ((am_up z 260 (0 : Int).toNat (z 240 47)) 240 45)) 260 (2 : Int).toNat ((am_up (am_up z 260 (0 : Int).toNat (z 240 47)) 260 (1 : Int).toNat ((am_up z 260 (0 : Int).toNat (z 240 47)) 240 45)) 240 42)) 260 (3 : Int).toNat ((am_up (am_up (am_up z 260 (0 : Int).toNat (z 240 47)) 260 (1 : Int).toNat ((am_up z 260 (0 : Int).toNat (z 240 47)) 240 45)) 260 (2 : Int).toNat ((am_up (am_up z 260 (0 : Int).toNat (z 240 47)) 260 (1 : Int).toNat ((am_up z 260 (0 : Int).toNat (z 240 47)) 240 45)) 240 42)) 240 43)) 240 41)) 260 (5 : Int).toNat ((am_up (am_up (am_up (am_up (am_up z 260 (0 : Int).toNat (z 240 47)) 260 (1 : Int).toNat ((am_up z 260 (0 : Int).toNat (z 240 47)) 240 45)) 260 (2 : Int).toNat ((am_up (am_up z 260 (0 : Int).toNat (z 240 47)) 260 (1 : Int).toNat ((am_up z 260 (0 : Int).toNat (z 240 47)) 240 45)) 240 42)) 260 (3 : Int).toNat ((am_up (am_up (am_up z 260 (0 : Int).toNat (z 240 47)) 260 (1 : Int).toNat ((am_up z 260 (0 : Int).toNat (z 240 47)) 240 45)) 260 (2 : Int).toNat ((am_up (am_up z 260 (0 : Int).toNat (z 240 47)) 260 (1 : Int).toNat ((am_up z 260 (0 : Int).toNat (z 240 47)) 240 45)) 240 42)) 240 43)) 260 (4 : Int).toNat ((am_up (am_up (am_up (am_up z 260 (0 : Int).toNat (z 240 47)) 260 (1 : Int).toNat ((am_up z 260 (0 : Int).toNat (z 240 47)) 240 45)) 260 (2 : Int).toNat ((am_up (am_up z 260 (0 : Int).toNat (z 240 47)) 260 (1 : Int).toNat ((am_up z 260 (0 : Int).toNat (z 240 47)) 240 45)) 240 42)) 260 (3 : Int).toNat ((am_up (am_up (am_up z 260 (0 : Int).toNat (z 240 47)) 260 (1 : Int).toNat ((am_up z 260 (0 : Int).toNat (z 240 47)) 240 45)) 260 (2 : Int).toNat ((am_up (am_up z 260 (0 : Int).toNat (z 240 47)) 260 (1 : Int).toNat ((am_up z 260 (0 : Int).toNat (z 240 47)) 240 45)) 240 42)) 240 43)) 240 41)) 240 44)) 240 46)) else none) else none) else none) else none) else none) else none) else none)
def dC (z : am_M) : Option (Int × am_M) := (am_op (fn226 240 (am_up z 240 0 0)) (fun z9 => (am_op (L227_119 240 am_fuel 0 (am_up (am_up z9.2 240 49 1) 240 52 ((am_up z9.2 240 49 1) 240 47))) (fun s => am_lp s (fun q1 => some q1) (fun t1 => gT t1.2)))))
def dB (z : am_M) : Option (Int × am_M) := (am_op (fn205 240 z) (fun z6 => (am_op (fn207 240 z6.2) (fun z7 => (am_op (fn216 240 z7.2) (fun z8 => (if z8.1 = 0 then (am_op (fn182 240 5 z8.2) (fun z10 => some (z10.1, z10.2))) else dC z8.2)))))))
def dA (z : am_M) : Option (Int × am_M) := (am_op (fn198 240 z) (fun z3 => (am_op (fn201 240 z3.2) (fun z4 => (if (am_up z4.2 240 47 z4.1) 240 47 < 1 then (am_op (fn182 240 4 (am_up z4.2 240 47 z4.1)) (fun z5 => some (z5.1, z5.2))) else (if 8 < (am_up z4.2 240 47 z4.1) 240 47 then (am_op (fn182 240 4 (am_up z4.2 240 47 z4.1)) (fun z11 => some (z11.1, z11.2))) else dB (am_up z4.2 240 47 z4.1)))))))
theorem fn227_e (μ : am_M) : fn227 240 μ = (am_op (fn181 240 μ) (fun z1 => (if z1.1 = 0 then (am_op (fn182 240 1 z1.2) (fun z14 => some (z14.1, z14.2))) else (if z1.2 240 14 = 0 then (am_op (fn191 240 z1.2) (fun z2 => (if z2.1 = 0 then (am_op (fn182 240 3 z2.2) (fun z12 => some (z12.1, z12.2))) else dA z2.2))) else (am_op (fn182 240 2 z1.2) (fun z13 => some (z13.1, z13.2))))))) := by
  unfold fn227
  rw [rf_16.2.2.2.2.1, rf_16.2.2.2.2.2.1]
  rfl
theorem gT_ok (z : am_M) : gT z = some (g7 z 240 47, g7 z) := by
  unfold gT
  rw [if_pos (by decide), if_pos (by decide), if_pos (by decide), if_pos (by decide), if_pos (by decide), if_pos (by decide), if_pos (by decide)]
  rfl
/-- what the reference leaves alone where it fails -/
def FRf (μ μ' : am_M) : Prop := ∀ c t, c < 240 ∨ 261 < c ∨ (c = 240 ∧ (t = 1 ∨ t = 3 ∨ t = 5 ∨ t = 6 ∨ t = 49 ∨ t = 52)) ∨ c = 241 ∨ c = 242 ∨ (259 ≤ c ∧ c ≤ 261) → μ' c t = μ c t
theorem FRf.trans {μ μ1 μ2 : am_M} (h : FRf μ μ1) (h2 : FRf μ1 μ2) : FRf μ μ2 := fun c t h3 => by rw [h2 c t h3, h c t h3]
/-! Step, first, last, how many and left, of the ends and the most ticks. -/
def s_st (lo hi tk : Int) : Int := st_v (sc_i lo hi tk)
def s_fi (lo hi tk : Int) : Int := st_a lo (sc_i lo hi tk) * st_v (sc_i lo hi tk)
def s_la (lo hi tk : Int) : Int := st_b hi (sc_i lo hi tk) * st_v (sc_i lo hi tk)
def s_n (lo hi tk : Int) : Nat := (st_b hi (sc_i lo hi tk) - st_a lo (sc_i lo hi tk) + 1).toNat
def s_L (lo hi tk : Int) : Int := 4 * mxl (s_st lo hi tk) (s_fi lo hi tk) (s_n lo hi tk) + 2
theorem RS_R3 {lo hi tk : Int} (h1 : -5000000000000000 ≤ lo) (h2 : lo < hi) (h3 : hi ≤ 5000000000000000) (ht : 3 ≤ tk ∧ tk ≤ 9) {μ : am_M} (h : RS lo hi tk μ) : R3 (s_st lo hi tk) (s_fi lo hi tk) (s_la lo hi tk) (s_n lo hi tk) μ := by
  have := (sc_SN h1 h2 h3 ht).2.1
  obtain ⟨a, b, c, d⟩ := h
  refine ⟨a, b, c, ?_⟩
  unfold s_n
  omega
section DRf
variable {fs : List (List Int)} {cols recs x : Nat} {ws : List (List Int)} {h : Int × Int × Int × Int} {s : QC}
def p_lo (fs : List (List Int)) (cols recs x : Nat) (h : Int × Int × Int × Int) (s : QC) : Int := (e_1 (e_0 h.1 (k_seg fs cols recs x h s) (k_S fs cols recs x s) (k_O fs cols recs x h s))).1
def p_hi (fs : List (List Int)) (cols recs x : Nat) (h : Int × Int × Int × Int) (s : QC) : Int := (e_1 (e_0 h.1 (k_seg fs cols recs x h s) (k_S fs cols recs x s) (k_O fs cols recs x h s))).2
def p_tk (s : QC) : Int := if s.2.2.2 = 0 then 5 else s.2.2.2
def p_L (fs : List (List Int)) (cols recs x : Nat) (h : Int × Int × Int × Int) (s : QC) : Int := s_L (p_lo fs cols recs x h s) (p_hi fs cols recs x h s) (p_tk s)
/-- it fits the canvas -/
def p_B (W : Int) (fs : List (List Int)) (cols recs x : Nat) (h : Int × Int × Int × Int) (s : QC) : Bool := decide (2 * (((k_O fs cols recs x h s).length : Nat) : Int) ≤ W - 1 - p_L fs cols recs x h s) && ftb W (k_ln fs cols recs x h s) (k_O fs cols recs x h s).length
def p_pic (W H : Int) (fs : List (List Int)) (cols recs x : Nat) (h : Int × Int × Int × Int) (s : QC) : Cv := pic W H (s_st (p_lo fs cols recs x h s) (p_hi fs cols recs x h s) (p_tk s)) (s_fi (p_lo fs cols recs x h s) (p_hi fs cols recs x h s) (p_tk s)) (s_la (p_lo fs cols recs x h s) (p_hi fs cols recs x h s) (p_tk s)) (p_L fs cols recs x h s) (W - 1 - p_L fs cols recs x h s) (s_n (p_lo fs cols recs x h s) (p_hi fs cols recs x h s) (p_tk s)) (k_S fs cols recs x s) (k_seg fs cols recs x h s) (k_O fs cols recs x h s) (k_ln fs cols recs x h s) (k_lb fs cols recs x h s) h.1
def p_f7 (W : Int) (fs : List (List Int)) (cols recs x : Nat) (h : Int × Int × Int × Int) (s : QC) (f : Nat → Int) : Prop := FG7 (k_O fs cols recs x h s).length (p_L fs cols recs x h s) (s_fi (p_lo fs cols recs x h s) (p_hi fs cols recs x h s) (p_tk s)) (s_la (p_lo fs cols recs x h s) (p_hi fs cols recs x h s) (p_tk s)) (s_st (p_lo fs cols recs x h s) (p_hi fs cols recs x h s) (p_tk s)) (s_n (p_lo fs cols recs x h s) (p_hi fs cols recs x h s) (p_tk s)) (srd W (p_L fs cols recs x h s) (W - 1 - p_L fs cols recs x h s) (k_O fs cols recs x h s).length (k_ln fs cols recs x h s)) f
def p_v (fs : List (List Int)) (cols recs x : Nat) (h : Int × Int × Int × Int) (s : QC) (j : Nat) : Int := o_divl (dsum (k_seg fs cols recs x h s ((k_O fs cols recs x h s).getD j 0)) (k_S fs cols recs x s)) 27720
theorem p_tk_rng (hH : HS fs cols recs h s x) : 3 ≤ p_tk s ∧ p_tk s ≤ 9 := by
  have := hH.2.2.2.2.2.2.2.2
  unfold p_tk
  split <;> omega
theorem p_rng (hH : HS fs cols recs h s x) (h13 : recs ≤ 13) : -5000000000000000 ≤ p_lo fs cols recs x h s ∧ p_lo fs cols recs x h s < p_hi fs cols recs x h s ∧ p_hi fs cols recs x h s ≤ 5000000000000000 := e_1_rng (k_sB hH h13) (kS_len h13) h.1
theorem p_SN (hH : HS fs cols recs h s x) (h13 : recs ≤ 13) : SN (s_st (p_lo fs cols recs x h s) (p_hi fs cols recs x h s) (p_tk s)) (s_fi (p_lo fs cols recs x h s) (p_hi fs cols recs x h s) (p_tk s)) (s_la (p_lo fs cols recs x h s) (p_hi fs cols recs x h s) (p_tk s)) (s_n (p_lo fs cols recs x h s) (p_hi fs cols recs x h s) (p_tk s)) (p_lo fs cols recs x h s) (p_hi fs cols recs x h s) := by
  obtain ⟨a, b, c⟩ := p_rng hH h13
  exact sc_SN a b c (p_tk_rng hH)
theorem p_BD {W : Int} (hW : 20 ≤ W ∧ W ≤ 96) (hO1 : 1 ≤ (k_O fs cols recs x h s).length) (hO8 : (k_O fs cols recs x h s).length ≤ 8) (hB : p_B W fs cols recs x h s = true) : BD (p_L fs cols recs x h s) (W - 1 - p_L fs cols recs x h s) (k_O fs cols recs x h s).length ∧ ∀ i, i < (k_O fs cols recs x h s).length → l_w (k_ln fs cols recs x h s) i ≤ W := by
  unfold p_B at hB
  rw [Bool.and_eq_true, decide_eq_true_iff] at hB
  have mr := mxl_rng (s_st (p_lo fs cols recs x h s) (p_hi fs cols recs x h s) (p_tk s)) (s_fi (p_lo fs cols recs x h s) (p_hi fs cols recs x h s) (p_tk s)) (s_n (p_lo fs cols recs x h s) (p_hi fs cols recs x h s) (p_tk s))
  have eL : p_L fs cols recs x h s = 4 * mxl (s_st (p_lo fs cols recs x h s) (p_hi fs cols recs x h s) (p_tk s)) (s_fi (p_lo fs cols recs x h s) (p_hi fs cols recs x h s) (p_tk s)) (s_n (p_lo fs cols recs x h s) (p_hi fs cols recs x h s) (p_tk s)) + 2 := rfl
  exact ⟨⟨by omega, by omega, hO1, hO8⟩, ftb_all _ hB.2⟩
theorem RX.f0 {μ μ' : am_M} (q : RX fs cols recs μ ws h s) (g : ∀ c t, (c = 240 ∧ 1 ≤ t ∧ t ≤ 30) ∨ (241 ≤ c ∧ c ≤ 251) → μ' c t = μ c t) : RX fs cols recs μ' ws h s := by
  obtain ⟨q1, q2, a0, a1, a2, a3, a4, a5, a6, a7, a8, a9, a10⟩ := q
  refine ⟨q1.fw (g _ _ (by omega)) (g _ _ (by omega)) (fun c t hc => g c t (by omega)), fun c hc => by rw [g _ _ (by omega)]; exact q2 c hc, a0.fr (g _ _ (by omega)) (fun c t hc => g c t (by omega)), by rw [g _ _ (by omega)]; exact a1, by rw [g _ _ (by omega)]; exact a2, by rw [g _ _ (by omega)]; exact a3, by rw [g _ _ (by omega)]; exact a4, by rw [g _ _ (by omega)]; exact a5, a6, fun j hj => ?_, by rw [g _ _ (by omega)]; exact a8, by rw [g _ _ (by omega)]; exact a9, by rw [g _ _ (by omega)]; exact a10⟩
  obtain ⟨y1, y2, y3, k, y4, y5⟩ := a7 j hj
  exact ⟨by rw [g _ _ (by omega)]; exact y1, y2, by rw [g _ _ (by omega)]; exact y3, k, by rw [g _ _ (by omega)]; exact y4, y5⟩
theorem RG.f0 {μ μ' : am_M} (q : RG fs cols recs x ws h s μ) (g : ∀ c t, (c = 240 ∧ ((1 ≤ t ∧ t ≤ 30) ∨ t = 38 ∨ t = 47)) ∨ (241 ≤ c ∧ c ≤ 257) → μ' c t = μ c t) : RG fs cols recs x ws h s μ' := by
  obtain ⟨a, b, c, d, e, f, i⟩ := q
  refine ⟨a.f0 (fun c t hc => g c t (by omega)), b.fr (fun c t hc => g c t (by omega)), by rw [g _ _ (by omega)]; exact c, by rw [g _ _ (by omega)]; exact d, fun j hj => by rw [g _ _ (by omega)]; exact e j hj, fun j hj => by rw [g _ _ (by omega)]; exact f j hj, fun j hj => by rw [g _ _ (by omega)]; exact i j hj⟩
/-- from the groups on: the reference -/
theorem dA_ok {W H : Int} (hW : 20 ≤ W ∧ W ≤ 96) (hH : 18 ≤ H ∧ H ≤ 64) (hHS : HS fs cols recs h s x) (hne : ∀ w ∈ ws, w ≠ []) (hf : ∀ c ∈ s.1, q_fit (sp_ty fs cols recs) c) {μ : am_M} (hX : RX fs cols recs μ ws h s) (h5 : μ 240 5 = W) (h6 : μ 240 6 = H) :
    (¬ (1 ≤ (k_O fs cols recs x h s).length ∧ (k_O fs cols recs x h s).length ≤ 8) → ∃ μ', dA μ = some (0, μ') ∧ μ' 240 0 = 4 ∧ FRf μ μ') ∧
    (1 ≤ (k_O fs cols recs x h s).length → (k_O fs cols recs x h s).length ≤ 8 → p_B W fs cols recs x h s = false → ∃ μ', dA μ = some (0, μ') ∧ μ' 240 0 = 5 ∧ FRf μ μ') ∧
    (1 ≤ (k_O fs cols recs x h s).length → (k_O fs cols recs x h s).length ≤ 8 → p_B W fs cols recs x h s = true → ∃ μ', dA μ = some ((((k_O fs cols recs x h s).length : Nat) : Int), μ') ∧ μ' 240 0 = 0 ∧ PR W H (p_pic W H fs cols recs x h s) μ' ∧ p_f7 W fs cols recs x h s (μ' 260) ∧ (∀ j, j < (k_O fs cols recs x h s).length → μ' 261 j = p_v fs cols recs x h s j) ∧ μ' 240 49 = 1 ∧ μ' 240 52 = (((k_O fs cols recs x h s).length : Nat) : Int) ∧ ∀ c t, c < 240 ∨ 261 < c ∨ (c = 240 ∧ (t = 1 ∨ t = 3 ∨ t = 5 ∨ t = 6)) ∨ c = 241 ∨ c = 242 → μ' c t = μ c t) := by
  have h13 := hX.1.2.2.2.2.2.1
  obtain ⟨μ1, μ2, p1, p2, p3, p4⟩ := fn201_ok hHS hne hf hX
  have F2 : ∀ c t, ¬ (c = 240 ∧ (t = 33 ∨ t = 38 ∨ t = 47)) → ¬ (252 ≤ c ∧ c ≤ 257) → am_up μ2 240 47 (((k_O fs cols recs x h s).length : Nat) : Int) c t = μ c t := fun c t a b => by rw [up_ne (by omega), p4 c t (by omega) b]
  have k47 : am_up μ2 240 47 (((k_O fs cols recs x h s).length : Nat) : Int) 240 47 = (((k_O fs cols recs x h s).length : Nat) : Int) := am_up_at _ _ _ _
  have eA : dA μ = (if (((k_O fs cols recs x h s).length : Nat) : Int) < 1 then some (0, am_up (am_up μ2 240 47 (((k_O fs cols recs x h s).length : Nat) : Int)) 240 0 4) else (if 8 < (((k_O fs cols recs x h s).length : Nat) : Int) then some (0, am_up (am_up μ2 240 47 (((k_O fs cols recs x h s).length : Nat) : Int)) 240 0 4) else dB (am_up μ2 240 47 (((k_O fs cols recs x h s).length : Nat) : Int)))) := by
    unfold dA
    rw [p1, am_op_some]
    dsimp only
    rw [p2, am_op_some]
    dsimp only
    unfold fn182
    rw [am_op_some]
    by_cases c1 : (((k_O fs cols recs x h s).length : Nat) : Int) < 1
    · rw [if_pos c1, if_pos (by rw [k47]; exact c1)]
    · rw [if_neg c1, if_neg (by rw [k47]; exact c1)]
      by_cases c2 : 8 < (((k_O fs cols recs x h s).length : Nat) : Int)
      · rw [if_pos c2, if_pos (by rw [k47]; exact c2)]
      · rw [if_neg c2, if_neg (by rw [k47]; exact c2)]
  have K4 : FRf μ (am_up (am_up μ2 240 47 (((k_O fs cols recs x h s).length : Nat) : Int)) 240 0 4) := fun c t hc => by rw [up_ne (by omega), F2 c t (by omega) (by omega)]
  refine ⟨fun hO => ⟨am_up (am_up μ2 240 47 (((k_O fs cols recs x h s).length : Nat) : Int)) 240 0 4, ?_, am_up_at _ _ _ _, K4⟩, ?_⟩
  · rw [eA]
    by_cases c1 : (((k_O fs cols recs x h s).length : Nat) : Int) < 1
    · rw [if_pos c1]
    · rw [if_neg c1, if_pos (by omega)]
  suffices hs : 1 ≤ (k_O fs cols recs x h s).length → (k_O fs cols recs x h s).length ≤ 8 → ∃ μ5 b, dA μ = (if bI b = 0 then some (0, am_up μ5 240 0 5) else dC μ5) ∧ b = p_B W fs cols recs x h s ∧ RG fs cols recs x ws h s μ5 ∧ R3 (s_st (p_lo fs cols recs x h s) (p_hi fs cols recs x h s) (p_tk s)) (s_fi (p_lo fs cols recs x h s) (p_hi fs cols recs x h s) (p_tk s)) (s_la (p_lo fs cols recs x h s) (p_hi fs cols recs x h s) (p_tk s)) (s_n (p_lo fs cols recs x h s) (p_hi fs cols recs x h s) (p_tk s)) μ5 ∧ (b = true → LYR W (p_L fs cols recs x h s) (W - 1 - p_L fs cols recs x h s) (k_O fs cols recs x h s).length (k_ln fs cols recs x h s) μ5) ∧ FRf μ μ5 from by
    refine ⟨fun hO1 hO8 hB => ?_, fun hO1 hO8 hB => ?_⟩
    · obtain ⟨μ5, b, e1, e2, e3, e4, e5, e6⟩ := hs hO1 hO8
      rw [e1, e2, hB]
      exact ⟨_, if_pos rfl, am_up_at _ _ _ _, fun c t hc => by rw [up_ne (by omega)]; exact e6 c t hc⟩
    · obtain ⟨μ5, b, e1, e2, e3, e4, e5, e6⟩ := hs hO1 hO8
      obtain ⟨hD, hfw⟩ := p_BD hW hO1 hO8 hB
      have hY := e5 (e2.trans hB)
      have hS := p_SN hHS h13
      have hz : ∀ c t, ¬ (c = 240 ∧ t = 0) → am_up μ5 240 0 0 c t = μ5 c t := fun c t hc => up_ne hc
      obtain ⟨μ6, u1, u2, u3⟩ := fn226_ok hW hH hS rfl hHS hD hfw (fun z => hV_of hS z) (fun z => hT_of hS z) (μ := am_up μ5 240 0 0) (e3.f0 (fun c t hc => hz c t (by omega))) (e4.fr (fun t _ _ => hz _ _ (by omega))) ⟨hY.1.fr (fun t _ => hz _ _ (by omega)), by rw [hz _ _ (by omega)]; exact hY.2⟩ (by rw [hz _ _ (by omega), e6 _ _ (by omega)]; exact h6)
      have V : ∀ c t, ¬ (c = 240 ∧ (t = 49 ∨ t = 52)) → am_up (am_up μ6 240 49 1) 240 52 ((am_up μ6 240 49 1) 240 47) c t = μ6 c t := fun c t hc => by rw [up_ne (by omega), up_ne (by omega)]
      have h47 : μ6 240 47 = (((k_O fs cols recs x h s).length : Nat) : Int) := by rw [u3 _ _ (by omega), hz _ _ (by omega)]; exact hY.1.2.2.1
      have v49 : am_up (am_up μ6 240 49 1) 240 52 ((am_up μ6 240 49 1) 240 47) 240 49 = 1 := by rw [up_ne (by omega), am_up_at]
      have v52 : am_up (am_up μ6 240 49 1) 240 52 ((am_up μ6 240 49 1) 240 47) 240 52 = (((k_O fs cols recs x h s).length : Nat) : Int) := by rw [am_up_at, up_ne (by omega)]; exact h47
      generalize hm7 : am_up (am_up μ6 240 49 1) 240 52 ((am_up μ6 240 49 1) 240 47) = μ7 at *
      have V5 : ∀ c t, ¬ (c = 240 ∧ (t = 0 ∨ t = 49 ∨ t = 52)) → ¬ (c = 258 ∨ c = 259) → μ7 c t = μ5 c t := fun c t a b => by rw [V c t (by omega), u3 c t b, hz c t (by omega)]
      have hG7 : RG fs cols recs x ws h s μ7 := e3.f0 (fun c t hc => V5 c t (by omega) (by omega))
      obtain ⟨y8, μ8, w1, w2, w3⟩ := L227_ok (ws := ws) hO8 (k_O fs cols recs x h s).length am_fuel 0 μ7 0 (by unfold am_fuel; omega) rfl (by omega) hG7 (fun j hj => absurd hj (by omega))
      obtain ⟨⟨f0, f1, f2, f3, f4, f5, f6⟩, gf⟩ := g7_ok μ8
      have E8 : ∀ c t, ¬ (c = 240 ∧ (t = 0 ∨ t = 49 ∨ t = 52)) → ¬ (258 ≤ c ∧ c ≤ 261) → g7 μ8 c t = μ5 c t := fun c t a b => by rw [gf c t (by omega), w3 c t (by omega), V5 c t a (by omega)]
      have e0 : μ8 240 47 = (((k_O fs cols recs x h s).length : Nat) : Int) := by rw [w3 _ _ (by omega)]; exact hG7.2.2.2.1
      have eD : dA μ = some ((((k_O fs cols recs x h s).length : Nat) : Int), g7 μ8) := by
        rw [e1, e2, hB, if_neg (show ¬ (bI true = 0) by decide)]
        unfold dC
        rw [u1, am_op_some]
        dsimp only
        rw [hm7, w1, am_op_some, am_lp_r]
        dsimp only
        rw [gT_ok, gf _ _ (show (240 : Nat) ≠ 260 by decide), e0]
      have r5 : ∀ t, 41 ≤ t → t ≤ 46 → μ8 240 t = μ5 240 t := fun t a b => by rw [w3 _ _ (by omega), V5 _ _ (by omega) (by omega)]
      refine ⟨g7 μ8, eD, ?_, ?_, ?_, fun j hj => ?_, ?_, ?_, fun c t hc => ?_⟩
      · rw [gf _ _ (by decide), w3 _ _ (by decide), V _ _ (by omega), u3 _ _ (by omega), am_up_at]
      · refine u2.fr (fun c t hc => ?_)
        rw [gf _ _ (by omega), w3 _ _ (by omega), V _ _ (by omega)]
      · refine ⟨?_, ?_, ?_, ?_, ?_, ?_, ?_⟩
        · rw [f0]; exact e0
        · rw [f1, r5 _ (by omega) (by omega)]; exact hY.1.2.1
        · rw [f2, r5 _ (by omega) (by omega)]; exact e4.2.1
        · rw [f3, r5 _ (by omega) (by omega)]; exact e4.2.2.1
        · rw [f4, r5 _ (by omega) (by omega)]; exact e4.1
        · rw [f5, r5 _ (by omega) (by omega)]; exact e4.2.2.2
        · rw [f6, r5 _ (by omega) (by omega)]; exact hY.2
      · rw [gf _ _ (by decide)]; exact w2 j hj
      · rw [gf _ _ (by decide), w3 _ _ (by decide)]; exact v49
      · rw [gf _ _ (by decide), w3 _ _ (by decide)]; exact v52
      · rw [E8 c t (by omega) (by omega)]; exact e6 c t (by omega)
  intro hO1 hO8
  have hG := p3 hO1
  have F2' : FRf μ (am_up μ2 240 47 (((k_O fs cols recs x h s).length : Nat) : Int)) := fun c t hc => F2 c t (by omega) (by omega)
  have h30 : am_up μ2 240 47 (((k_O fs cols recs x h s).length : Nat) : Int) 240 30 = p_tk s := by rw [F2 _ _ (by omega) (by omega)]; exact hX.2.2.2.2.2.2.2.2.2.2.2.2
  rw [if_neg (by omega), if_neg (by omega)] at eA
  rw [eA]
  generalize am_up μ2 240 47 (((k_O fs cols recs x h s).length : Nat) : Int) = μ3 at *
  obtain ⟨r1, r2, r3⟩ := p_rng hHS h13
  obtain ⟨μ4, a1, a2, a3, a4⟩ := fn205_ok hHS hG hG.1.2.2.2.1 hO1
  obtain ⟨μ5, b1, b2, b3⟩ := fn207_ok r1 r2 r3 (p_tk_rng hHS) a2 a3 (by rw [a4 _ _ (by omega)]; exact h30)
  have G5 : ∀ c t, ¬ (c = 240 ∧ 39 ≤ t ∧ t ≤ 44) → μ5 c t = μ3 c t := fun c t hc => by rw [b3 c t (by omega), a4 c t (by omega)]
  have hG5 : RG fs cols recs x ws h s μ5 := hG.fr (fun c t hc => G5 c t (by omega))
  have hR5 := RS_R3 r1 r2 r3 (p_tk_rng hHS) b2
  obtain ⟨b, μ6, d1, d2, d3, d4⟩ := fn216_ok (W := W) (p_SN hHS h13) hR5 hG5 hHS.1 hHS.2.1 hO1 hO8 (by rw [G5 _ _ (by omega), F2' _ _ (by omega)]; exact h5) hW.1 hW.2
  refine ⟨μ6, b, ?_, d2, hG5.fr (fun c t hc => d4 c t (by omega) (by omega)), hR5.fr (fun t _ _ => d4 _ _ (by omega) (by omega)), d3, fun c t hc => by rw [d4 c t (by omega) (by omega), G5 c t (by omega), F2' c t hc]⟩
  unfold dB fn182
  rw [a1, am_op_some]
  dsimp only
  rw [b1, am_op_some]
  dsimp only
  rw [d1, am_op_some, am_op_some]
end DRf
