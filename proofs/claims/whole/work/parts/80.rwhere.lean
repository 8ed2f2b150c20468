/-! The reference's clauses. -/
def yT (v : Int) (z : am_M) : Option (Int × am_M) := (if 0 < (am_up (am_up z 240 22 v) 240 23 ((-1))) 240 22 then (am_op (fn186 240 (am_up (am_up z 240 22 v) 240 23 ((-1)))) (fun z6 => (if (am_up z6.2 240 23 z6.1) 240 23 < 0 then some (0, am_up z6.2 240 23 z6.1) else (if (0 : Int) ≤ (am_up z6.2 240 23 z6.1) 240 23 ∧ (am_up z6.2 240 23 z6.1) 240 23 < ((5 : Nat) : Int) then (if (am_up z6.2 240 23 z6.1) 246 ((am_up z6.2 240 23 z6.1) 240 23 : Int).toNat = 1 then some (1, am_up z6.2 240 23 z6.1) else some (0, am_up z6.2 240 23 z6.1)) else none)))) else (if (am_up (am_up z 240 22 v) 240 23 ((-1))) 240 22 = 0 then some (1, am_up (am_up z 240 22 v) 240 23 ((-1))) else some (0, am_up (am_up z 240 22 v) 240 23 ((-1)))))
def wT (c sg g3 : Int) (z : am_M) : Option (Int × am_M) := (if c < 0 then some (0, z) else (if z 240 19 < z 240 16 then (if (0 : Int) ≤ c ∧ c < ((5 : Nat) : Int) then (if z 246 (c : Int).toNat = 3 then (if (0 : Int) ≤ z 240 24 ∧ z 240 24 < ((2 : Nat) : Int) then (if (0 : Int) ≤ (am_up z 249 (z 240 24 : Int).toNat c) 240 24 ∧ (am_up z 249 (z 240 24 : Int).toNat c) 240 24 < ((2 : Nat) : Int) then (if (0 : Int) ≤ (am_up (am_up z 249 (z 240 24 : Int).toNat c) 250 ((am_up z 249 (z 240 24 : Int).toNat c) 240 24 : Int).toNat sg) 240 24 ∧ (am_up (am_up z 249 (z 240 24 : Int).toNat c) 250 ((am_up z 249 (z 240 24 : Int).toNat c) 240 24 : Int).toNat sg) 240 24 < ((2 : Nat) : Int) then some (g3, am_up (am_up (am_up (am_up (am_up z 249 (z 240 24 : Int).toNat c) 250 ((am_up z 249 (z 240 24 : Int).toNat c) 240 24 : Int).toNat sg) 251 ((am_up (am_up z 249 (z 240 24 : Int).toNat c) 250 ((am_up z 249 (z 240 24 : Int).toNat c) 240 24 : Int).toNat sg) 240 24 : Int).toNat ((am_up (am_up z 249 (z 240 24 : Int).toNat c) 250 ((am_up z 249 (z 240 24 : Int).toNat c) 240 24 : Int).toNat sg) 240 19)) 240 24 (w32 (((am_up (am_up (am_up z 249 (z 240 24 : Int).toNat c) 250 ((am_up z 249 (z 240 24 : Int).toNat c) 240 24 : Int).toNat sg) 251 ((am_up (am_up z 249 (z 240 24 : Int).toNat c) 250 ((am_up z 249 (z 240 24 : Int).toNat c) 240 24 : Int).toNat sg) 240 24 : Int).toNat ((am_up (am_up z 249 (z 240 24 : Int).toNat c) 250 ((am_up z 249 (z 240 24 : Int).toNat c) 240 24 : Int).toNat sg) 240 19)) 240 24) + 1))) 240 19 (w32 (((am_up (am_up (am_up (am_up z 249 (z 240 24 : Int).toNat c) 250 ((am_up z 249 (z 240 24 : Int).toNat c) 240 24 : Int).toNat sg) 251 ((am_up (am_up z 249 (z 240 24 : Int).toNat c) 250 ((am_up z 249 (z 240 24 : Int).toNat c) 240 24 : Int).toNat sg) 240 24 : Int).toNat ((am_up (am_up z 249 (z 240 24 : Int).toNat c) 250 ((am_up z 249 (z 240 24 : Int).toNat c) 240 24 : Int).toNat sg) 240 19)) 240 24 (w32 (((am_up (am_up (am_up z 249 (z 240 24 : Int).toNat c) 250 ((am_up z 249 (z 240 24 : Int).toNat c) 240 24 : Int).toNat sg) 251 ((am_up (am_up z 249 (z 240 24 : Int).toNat c) 250 ((am_up z 249 (z 240 24 : Int).toNat c) 240 24 : Int).toNat sg) 240 24 : Int).toNat ((am_up (am_up z 249 (z 240 24 : Int).toNat c) 250 ((am_up z 249 (z 240 24 : Int).toNat c) 240 24 : Int).toNat sg) 240 19)) 240 24) + 1))) 240 19) + 1))) else none) else none) else none) else (if (0 : Int) ≤ c ∧ c < ((5 : Nat) : Int) then (if (0 : Int) ≤ z 240 19 ∧ z 240 19 < ((80 : Nat) : Int) then (if (0 : Int) ≤ z 240 19 ∧ z 240 19 < ((80 : Nat) : Int) then (am_op (fn188 240 (z 246 (c : Int).toNat) (z 247 (z 240 19 : Int).toNat) (z 248 (z 240 19 : Int).toNat) 0 z) (fun z5 => (if o_cmp z5.1 ((-9223372036854775808)) = 0 then (if (0 : Int) ≤ z5.2 240 24 ∧ z5.2 240 24 < ((2 : Nat) : Int) then (if (0 : Int) ≤ (am_up z5.2 249 (z5.2 240 24 : Int).toNat c) 240 24 ∧ (am_up z5.2 249 (z5.2 240 24 : Int).toNat c) 240 24 < ((2 : Nat) : Int) then (if (0 : Int) ≤ (am_up (am_up z5.2 249 (z5.2 240 24 : Int).toNat c) 250 ((am_up z5.2 249 (z5.2 240 24 : Int).toNat c) 240 24 : Int).toNat sg) 240 24 ∧ (am_up (am_up z5.2 249 (z5.2 240 24 : Int).toNat c) 250 ((am_up z5.2 249 (z5.2 240 24 : Int).toNat c) 240 24 : Int).toNat sg) 240 24 < ((2 : Nat) : Int) then some (0, am_up (am_up (am_up (am_up (am_up z5.2 249 (z5.2 240 24 : Int).toNat c) 250 ((am_up z5.2 249 (z5.2 240 24 : Int).toNat c) 240 24 : Int).toNat sg) 251 ((am_up (am_up z5.2 249 (z5.2 240 24 : Int).toNat c) 250 ((am_up z5.2 249 (z5.2 240 24 : Int).toNat c) 240 24 : Int).toNat sg) 240 24 : Int).toNat ((am_up (am_up z5.2 249 (z5.2 240 24 : Int).toNat c) 250 ((am_up z5.2 249 (z5.2 240 24 : Int).toNat c) 240 24 : Int).toNat sg) 240 19)) 240 24 (w32 (((am_up (am_up (am_up z5.2 249 (z5.2 240 24 : Int).toNat c) 250 ((am_up z5.2 249 (z5.2 240 24 : Int).toNat c) 240 24 : Int).toNat sg) 251 ((am_up (am_up z5.2 249 (z5.2 240 24 : Int).toNat c) 250 ((am_up z5.2 249 (z5.2 240 24 : Int).toNat c) 240 24 : Int).toNat sg) 240 24 : Int).toNat ((am_up (am_up z5.2 249 (z5.2 240 24 : Int).toNat c) 250 ((am_up z5.2 249 (z5.2 240 24 : Int).toNat c) 240 24 : Int).toNat sg) 240 19)) 240 24) + 1))) 240 19 (w32 (((am_up (am_up (am_up (am_up z5.2 249 (z5.2 240 24 : Int).toNat c) 250 ((am_up z5.2 249 (z5.2 240 24 : Int).toNat c) 240 24 : Int).toNat sg) 251 ((am_up (am_up z5.2 249 (z5.2 240 24 : Int).toNat c) 250 ((am_up z5.2 249 (z5.2 240 24 : Int).toNat c) 240 24 : Int).toNat sg) 240 24 : Int).toNat ((am_up (am_up z5.2 249 (z5.2 240 24 : Int).toNat c) 250 ((am_up z5.2 249 (z5.2 240 24 : Int).toNat c) 240 24 : Int).toNat sg) 240 19)) 240 24 (w32 (((am_up (am_up (am_up z5.2 249 (z5.2 240 24 : Int).toNat c) 250 ((am_up z5.2 249 (z5.2 240 24 : Int).toNat c) 240 24 : Int).toNat sg) 251 ((am_up (am_up z5.2 249 (z5.2 240 24 : Int).toNat c) 250 ((am_up z5.2 249 (z5.2 240 24 : Int).toNat c) 240 24 : Int).toNat sg) 240 24 : Int).toNat ((am_up (am_up z5.2 249 (z5.2 240 24 : Int).toNat c) 250 ((am_up z5.2 249 (z5.2 240 24 : Int).toNat c) 240 24 : Int).toNat sg) 240 19)) 240 24) + 1))) 240 19) + 1))) else none) else none) else none) else (if (0 : Int) ≤ z5.2 240 24 ∧ z5.2 240 24 < ((2 : Nat) : Int) then (if (0 : Int) ≤ (am_up z5.2 249 (z5.2 240 24 : Int).toNat c) 240 24 ∧ (am_up z5.2 249 (z5.2 240 24 : Int).toNat c) 240 24 < ((2 : Nat) : Int) then (if (0 : Int) ≤ (am_up (am_up z5.2 249 (z5.2 240 24 : Int).toNat c) 250 ((am_up z5.2 249 (z5.2 240 24 : Int).toNat c) 240 24 : Int).toNat sg) 240 24 ∧ (am_up (am_up z5.2 249 (z5.2 240 24 : Int).toNat c) 250 ((am_up z5.2 249 (z5.2 240 24 : Int).toNat c) 240 24 : Int).toNat sg) 240 24 < ((2 : Nat) : Int) then some (1, am_up (am_up (am_up (am_up (am_up z5.2 249 (z5.2 240 24 : Int).toNat c) 250 ((am_up z5.2 249 (z5.2 240 24 : Int).toNat c) 240 24 : Int).toNat sg) 251 ((am_up (am_up z5.2 249 (z5.2 240 24 : Int).toNat c) 250 ((am_up z5.2 249 (z5.2 240 24 : Int).toNat c) 240 24 : Int).toNat sg) 240 24 : Int).toNat ((am_up (am_up z5.2 249 (z5.2 240 24 : Int).toNat c) 250 ((am_up z5.2 249 (z5.2 240 24 : Int).toNat c) 240 24 : Int).toNat sg) 240 19)) 240 24 (w32 (((am_up (am_up (am_up z5.2 249 (z5.2 240 24 : Int).toNat c) 250 ((am_up z5.2 249 (z5.2 240 24 : Int).toNat c) 240 24 : Int).toNat sg) 251 ((am_up (am_up z5.2 249 (z5.2 240 24 : Int).toNat c) 250 ((am_up z5.2 249 (z5.2 240 24 : Int).toNat c) 240 24 : Int).toNat sg) 240 24 : Int).toNat ((am_up (am_up z5.2 249 (z5.2 240 24 : Int).toNat c) 250 ((am_up z5.2 249 (z5.2 240 24 : Int).toNat c) 240 24 : Int).toNat sg) 240 19)) 240 24) + 1))) 240 19 (w32 (((am_up (am_up (am_up (am_up z5.2 249 (z5.2 240 24 : Int).toNat c) 250 ((am_up z5.2 249 (z5.2 240 24 : Int).toNat c) 240 24 : Int).toNat sg) 251 ((am_up (am_up z5.2 249 (z5.2 240 24 : Int).toNat c) 250 ((am_up z5.2 249 (z5.2 240 24 : Int).toNat c) 240 24 : Int).toNat sg) 240 24 : Int).toNat ((am_up (am_up z5.2 249 (z5.2 240 24 : Int).toNat c) 250 ((am_up z5.2 249 (z5.2 240 24 : Int).toNat c) 240 24 : Int).toNat sg) 240 19)) 240 24 (w32 (((am_up (am_up (am_up z5.2 249 (z5.2 240 24 : Int).toNat c) 250 ((am_up z5.2 249 (z5.2 240 24 : Int).toNat c) 240 24 : Int).toNat sg) 251 ((am_up (am_up z5.2 249 (z5.2 240 24 : Int).toNat c) 250 ((am_up z5.2 249 (z5.2 240 24 : Int).toNat c) 240 24 : Int).toNat sg) 240 24 : Int).toNat ((am_up (am_up z5.2 249 (z5.2 240 24 : Int).toNat c) 250 ((am_up z5.2 249 (z5.2 240 24 : Int).toNat c) 240 24 : Int).toNat sg) 240 19)) 240 24) + 1))) 240 19) + 1))) else none) else none) else none)))) else none) else none) else none)) else none) else some (0, z)))
def tT (z : am_M) : Option (Int × am_M) := (if z 240 19 < z 240 16 then (if (0 : Int) ≤ z 240 19 ∧ z 240 19 < ((80 : Nat) : Int) then (if z 248 (z 240 19 : Int).toNat = 1 then (if (0 : Int) ≤ z 240 19 ∧ z 240 19 < ((80 : Nat) : Int) then (if (0 : Int) ≤ z 247 (z 240 19 : Int).toNat ∧ z 247 (z 240 19 : Int).toNat < ((160 : Nat) : Int) then (if (am_up (am_up z 240 30 (w32 ((z 242 (z 247 (z 240 19 : Int).toNat : Int).toNat) - 48))) 240 19 (w32 (((am_up z 240 30 (w32 ((z 242 (z 247 (z 240 19 : Int).toNat : Int).toNat) - 48))) 240 19) + 1))) 240 30 < 3 then some (0, am_up (am_up z 240 30 (w32 ((z 242 (z 247 (z 240 19 : Int).toNat : Int).toNat) - 48))) 240 19 (w32 (((am_up z 240 30 (w32 ((z 242 (z 247 (z 240 19 : Int).toNat : Int).toNat) - 48))) 240 19) + 1))) else (if 9 < (am_up (am_up z 240 30 (w32 ((z 242 (z 247 (z 240 19 : Int).toNat : Int).toNat) - 48))) 240 19 (w32 (((am_up z 240 30 (w32 ((z 242 (z 247 (z 240 19 : Int).toNat : Int).toNat) - 48))) 240 19) + 1))) 240 30 then some (0, am_up (am_up z 240 30 (w32 ((z 242 (z 247 (z 240 19 : Int).toNat : Int).toNat) - 48))) 240 19 (w32 (((am_up z 240 30 (w32 ((z 242 (z 247 (z 240 19 : Int).toNat : Int).toNat) - 48))) 240 19) + 1))) else some (1, am_up (am_up z 240 30 (w32 ((z 242 (z 247 (z 240 19 : Int).toNat : Int).toNat) - 48))) 240 19 (w32 (((am_up z 240 30 (w32 ((z 242 (z 247 (z 240 19 : Int).toNat : Int).toNat) - 48))) 240 19) + 1))))) else none) else none) else some (0, z)) else none) else some (0, z))
def mT (v : Int) (z : am_M) : Option (Int × am_M) := (if (am_up z 240 20 v) 240 20 < 0 then some (0, am_up z 240 20 v) else (am_op (fn184 240 120 1 (am_up z 240 20 v)) (fun z10 => (if z10.1 = 0 then some (0, z10.2) else (am_op (fn186 240 z10.2) (fun z11 => (if (am_up z11.2 240 21 z11.1) 240 21 < 0 then some (0, am_up z11.2 240 21 z11.1) else (am_op (fn184 240 121 1 (am_up z11.2 240 21 z11.1)) (fun z12 => (if z12.1 = 0 then some (0, z12.2) else (am_op (fn187 240 z12.2) (fun z13 => (if z13.1 = 0 then some (0, z13.2) else (am_op (L191_136 240 am_fuel 1 z13.2) (fun s => am_lp s (fun q2 => some q2) (fun t2 => (if t2.2 240 30 = 0 then (if t2.1 = 0 ∨ t2.1 = 1 then some (t2.1, am_up t2.2 240 30 5) else none) else (if t2.1 = 0 ∨ t2.1 = 1 then some (t2.1, am_up t2.2 240 30 (t2.2 240 30)) else none))))))))))))))))))
theorem u_c (μ : am_M) (o k : Nat) (x : Int) (a b : Nat) : am_up μ o k x a b = if a = o then (if b = k then x else μ a b) else μ a b := by
  by_cases h1 : a = o <;> by_cases h2 : b = k <;> simp [am_up, h1, h2]
def q_sg (w : List Int) : Int := if w = lit 18 then 0 else if w = lit 19 then -1 else 1
section RR
variable {fs : List (List Int)} {cols recs : Nat} {ty : Nat → Int}
def Rd (cols : Nat) (μ : am_M) (ws : List (List Int)) (j : Nat) (c : Nat × List Int × List Int) : Prop := μ 249 j = ((c.1 : Nat) : Int) ∧ c.1 < cols ∧ μ 250 j = q_sg c.2.1 ∧ ∃ k : Nat, μ 251 j = (k : Int) ∧ k < ws.length ∧ ws.getD k [] = c.2.2
def Rs (fs : List (List Int)) (cols recs : Nat) (ty : Nat → Int) (μ : am_M) (ws r : List (List Int)) (s : QC) : Prop :=
  RQ μ ws r ∧ RT μ fs cols recs ∧ (∀ c, c < cols → μ 246 c = ty c) ∧ μ 240 24 = ((s.1.length : Nat) : Int) ∧ s.1.length ≤ 2 ∧ (∀ j, j < s.1.length → Rd cols μ ws j (s.1.getD j (0, [], []))) ∧ μ 240 28 = s.2.1 ∧ μ 240 29 = s.2.2.1 ∧ μ 240 30 = s.2.2.2
def FR (μ μ' : am_M) : Prop := ∀ c t, ¬ (c = 240 ∧ 19 ≤ t ∧ t ≤ 30) → ¬ (249 ≤ c ∧ c ≤ 251) → μ' c t = μ c t
theorem FR.refl (μ : am_M) : FR μ μ := fun _ _ _ _ => rfl
theorem FR.trans {μ μ1 μ2 : am_M} (h : FR μ μ1) (g : FR μ1 μ2) : FR μ μ2 := fun c t c1 c2 => by rw [g c t c1 c2, h c t c1 c2]
def F19 (μ μ' : am_M) : Prop := ∀ c t, ¬ (c = 240 ∧ t = 19) → μ' c t = μ c t
theorem F19.fr {μ μ' : am_M} (h : F19 μ μ') : FR μ μ' := fun c t c1 c2 => h c t (by omega)
/-- a word taken changes the place alone -/
theorem Rs.at' {μ μ' : am_M} {ws r r' : List (List Int)} {s : QC} (h : Rs fs cols recs ty μ ws r s) (hq : RQ μ' ws r') (g : F19 μ μ') : Rs fs cols recs ty μ' ws r' s := by
  obtain ⟨h1, h2, h3, h4, h5, h6, h7, h8, h9⟩ := h
  refine ⟨hq, h2.fw (g _ _ (by omega)) (g _ _ (by omega)) (fun c t hc => g c t (by omega)), fun c hc => by rw [g _ _ (by omega)]; exact h3 c hc, by rw [g _ _ (by omega)]; exact h4, h5, fun j hj => ?_, by rw [g _ _ (by omega)]; exact h7, by rw [g _ _ (by omega)]; exact h8, by rw [g _ _ (by omega)]; exact h9⟩
  obtain ⟨y1, y2, y3, k, y4, y5⟩ := h6 j hj
  exact ⟨by rw [g _ _ (by omega)]; exact y1, y2, by rw [g _ _ (by omega)]; exact y3, k, by rw [g _ _ (by omega)]; exact y4, y5⟩
theorem Rs.takes {μ : am_M} {ws r : List (List Int)} {s : QC} (h : Rs fs cols recs ty μ ws r s) {t : Nat} (h2 : 2 ≤ t) (hs : t < 21) {P n : Int} (hP : P = pk t) (hn : n = ((am_slen t : Nat) : Int)) : (hdW r = lit t → ∃ μ', fn184 240 P n μ = some (1, μ') ∧ Rs fs cols recs ty μ' ws r.tail s ∧ F19 μ μ') ∧ (hdW r ≠ lit t → fn184 240 P n μ = some (0, μ)) := by
  obtain ⟨μ', q1, q2, q3, q4⟩ := fn184_ok h.1 h2 hs hP hn
  constructor
  · intro e
    rw [decide_eq_true e] at q1
    exact ⟨μ', q1, h.at' (q2 e) q4, q4⟩
  · intro e
    rw [decide_eq_false e, q3 e] at q1
    exact q1
theorem Rs.col {μ : am_M} {ws r : List (List Int)} {s : QC} (h : Rs fs cols recs ty μ ws r s) : ∃ μ', fn186 240 μ = some (colN fs cols (hdW r), μ') ∧ Rs fs cols recs ty μ' ws r.tail s ∧ F19 μ μ' := by
  obtain ⟨μ', q1, q2, q3⟩ := fn186_ok h.2.1 h.1
  exact ⟨μ', q1, h.at' q2 q3, q3⟩
/-- slots 20..23 may change -/
theorem Rs.up {μ : am_M} {ws r : List (List Int)} {s : QC} (h : Rs fs cols recs ty μ ws r s) {t : Nat} (ht : 20 ≤ t) (x : Int) {s' : QC} (e1 : s'.1 = s.1) (e24 : t ≠ 24) (e28 : (if t = 28 then x else μ 240 28) = s'.2.1) (e29 : (if t = 29 then x else μ 240 29) = s'.2.2.1) (e30 : (if t = 30 then x else μ 240 30) = s'.2.2.2) : Rs fs cols recs ty (am_up μ 240 t x) ws r s' := by
  obtain ⟨h1, h2, h3, h4, h5, h6, h7, h8, h9⟩ := h
  have g : ∀ c u, c ≠ 240 → am_up μ 240 t x c u = μ c u := fun c u hc => am_up_c _ _ hc
  refine ⟨h1.fr (am_up_s _ _ (by omega)) (am_up_s _ _ (by omega)) (fun c t hc => g c t (by omega)), h2.fw (am_up_s _ _ (by omega)) (am_up_s _ _ (by omega)) (fun c t hc => g c t (by omega)), fun c hc => by rw [g _ _ (by omega)]; exact h3 c hc, by rw [am_up_s _ _ (by omega), e1]; exact h4, by rw [e1]; exact h5, ?_, ?_, ?_, ?_⟩
  · rw [e1]
    intro j hj
    obtain ⟨y1, y2, y3, k, y4, y5⟩ := h6 j hj
    exact ⟨by rw [g _ _ (by omega)]; exact y1, y2, by rw [g _ _ (by omega)]; exact y3, k, by rw [g _ _ (by omega)]; exact y4, y5⟩
  · rw [← e28]; by_cases hc : t = 28
    · rw [if_pos hc, hc, am_up_at]
    · rw [if_neg hc, am_up_s _ _ (by omega)]
  · rw [← e29]; by_cases hc : t = 29
    · rw [if_pos hc, hc, am_up_at]
    · rw [if_neg hc, am_up_s _ _ (by omega)]
  · rw [← e30]; by_cases hc : t = 30
    · rw [if_pos hc, hc, am_up_at]
    · rw [if_neg hc, am_up_s _ _ (by omega)]
theorem FR.up {μ : am_M} {t : Nat} (h : 19 ≤ t) (h2 : t ≤ 30) (x : Int) : FR μ (am_up μ 240 t x) := fun c u c1 c2 => by
  by_cases hc : c = 240
  · exact am_up_s _ _ (by omega)
  · exact am_up_c _ _ hc
theorem Rs.more {μ : am_M} {ws r : List (List Int)} {s : QC} (h : Rs fs cols recs ty μ ws r s) : ∃ k : Nat, μ 240 19 = (k : Int) ∧ μ 240 16 = ((ws.length : Nat) : Int) ∧ ws.length ≤ 80 ∧ (r = [] → ¬ k < ws.length) ∧ (r ≠ [] → k < ws.length ∧ ws.getD k [] = hdW r ∧ hdW r ≠ [] ∧ ws.drop (k + 1) = r.tail ∧ ∃ p : Nat, μ 247 k = (p : Int) ∧ μ 248 k = (((hdW r).length : Nat) : Int) ∧ Sp μ 0 p (hdW r).length (sp_g (hdW r))) := by
  obtain ⟨⟨h1, hne, k, h3, h4, h5⟩, -⟩ := h
  refine ⟨k, h4, h1.1, h1.2.1, fun e => ?_, fun e => ?_⟩
  · rw [h5] at e
    have := congrArg List.length e
    simp at this
    omega
  · have hk : k < ws.length := Classical.byContradiction fun z => e (by rw [h5]; exact List.drop_eq_nil_of_le (by omega))
    have e3 : ws.drop k = ws.getD k [] :: ws.drop (k + 1) := by
      rw [List.getD_eq_getElem?_getD, List.getElem?_eq_getElem hk]
      exact List.drop_eq_getElem_cons hk
    have hm : ws.getD k [] ∈ ws := by
      rw [List.getD_eq_getElem?_getD, List.getElem?_eq_getElem hk]
      exact List.getElem_mem hk
    have eh : hdW r = ws.getD k [] := by rw [h5, e3]; rfl
    have et : r.tail = ws.drop (k + 1) := by rw [h5, e3]; rfl
    rw [eh]
    exact ⟨hk, rfl, hne _ hm, et.symm, h1.2.2 k hk⟩
theorem fn188_ok {μ : am_M} {p : Nat} {w : List Int} (hS : Sp μ 0 p w.length (sp_g w)) (hw : w ≠ []) {a b t : Int} (ha : a = p) (hb : b = ((w.length : Nat) : Int)) (ht : t = 1 ∨ t = 2) : ∃ v, fn188 240 t a b 0 μ = some (v, μ) ∧ (o_cmp v (-9223372036854775808) = 0 ↔ ¬ (if t = 1 then (sp_N w).isSome = true else (sp_D w).isSome = true)) := by
  have h0 : w.length ≠ 0 := fun e => hw (List.length_eq_zero_iff.mp e)
  unfold fn188
  by_cases h1 : t = 1
  · rw [if_pos h1, fn176_ok hS (by omega) ha hb, am_op_some, if_pos h1]
    refine ⟨_, rfl, (sp_v_N w).trans ?_⟩
    cases (sp_N w).isSome <;> simp
  · rw [if_neg h1, fn179_ok hS ha hb, am_op_some, if_neg h1]
    refine ⟨_, rfl, (sp_v_D w).trans ?_⟩
    cases (sp_D w).isSome <;> simp
def Rres (fs : List (List Int)) (cols recs : Nat) (ty : Nat → Int) (x : Option (Int × am_M)) (μ : am_M) (ws : List (List Int)) (P : QC → Prop) (o : Option (List (List Int) × QC)) : Prop :=
  ∃ μ', FR μ μ' ∧ (∀ t, 20 ≤ t → t ≤ 23 → μ' 240 t = μ 240 t) ∧ match o with | none => x = some (0, μ') | some p => (P p.2 → x = some (1, μ') ∧ Rs fs cols recs ty μ' ws p.1 p.2) ∧ (¬ P p.2 → x = some (0, μ'))
theorem Rres.pre {x : Option (Int × am_M)} {μ μ1 : am_M} {ws : List (List Int)} {P o} (hf : F19 μ μ1) (h : Rres fs cols recs ty x μ1 ws P o) : Rres fs cols recs ty x μ ws P o := by
  obtain ⟨μ', q, q2, h⟩ := h
  exact ⟨μ', hf.fr.trans q, fun t t1 t2 => by rw [q2 t t1 t2, hf _ _ (by omega)], h⟩
theorem Rres.w2 {x : Option (Int × am_M)} {μ : am_M} {ws : List (List Int)} {P o} (h : Rres fs cols recs ty x μ ws P o) : Rres fs cols recs ty (am_op x (fun z => if z.1 = 0 ∨ z.1 = 1 then some (z.1, z.2) else none)) μ ws P o := by
  obtain ⟨μ', q, q2, h⟩ := h
  refine ⟨μ', q, q2, ?_⟩
  cases o with
  | none => dsimp only at h ⊢; rw [h, am_op_some]; rfl
  | some p =>
    dsimp only at h ⊢
    exact ⟨fun z => by rw [(h.1 z).1, am_op_some]; exact ⟨rfl, (h.1 z).2⟩, fun z => by rw [h.2 z, am_op_some]; rfl⟩
theorem sp_nil : sp_N [] = none ∧ sp_D [] = none := by decide +kernel
variable {μ : am_M} {ws r : List (List Int)} {s : QC}
/-- where, from the word on -/
theorem wT_ok (h : Rs fs cols recs ty μ ws r s) (hl : s.1.length < 2) (ht : ∀ c, c < cols → ty c = 1 ∨ ty c = 2 ∨ ty c = 3) {cn sg g3 : Int} {sw : List Int} (hc : 0 ≤ cn ∧ cn < (cols : Int)) (hsg : sg = q_sg sw) (hw : sw = lit 18 ∨ sw = lit 19 ∨ sw = lit 20) (hg : g3 = if sw = lit 18 then 1 else 0) : ∃ μ', FR μ μ' ∧ (∀ t, 20 ≤ t → t ≤ 23 → μ' 240 t = μ 240 t) ∧ (q_fit ty (cn.toNat, sw, hdW r) → wT cn sg g3 μ = some (1, μ') ∧ Rs fs cols recs ty μ' ws r.tail (s.1 ++ [(cn.toNat, sw, hdW r)], s.2)) ∧ (¬ q_fit ty (cn.toNat, sw, hdW r) → wT cn sg g3 μ = some (0, μ')) := by
  have h' := h
  have hc5 := h.2.1.2.2.2.1
  obtain ⟨k, k1, k2, k3, k4, k5⟩ := h.more
  obtain ⟨h1, h2, h3, h4, h5, h6, h7, h8, h9⟩ := h
  have hty := h3 cn.toNat (by omega)
  have htt := ht cn.toNat (by omega)
  unfold wT
  rw [if_neg (by omega)]
  by_cases hr : r = []
  · rw [if_neg (by have := k4 hr; omega)]
    refine ⟨μ, FR.refl _, fun _ _ _ => rfl, fun z => ?_, fun _ => rfl⟩
    exfalso
    rw [hr] at z
    have := z.2
    dsimp only [hdW] at this
    rw [show ([] : List (List Int)).headD [] = [] from rfl, sp_nil.1, sp_nil.2] at this
    split at this
    · cases this
    · split at this
      · cases this
      · exact this.2 rfl
  · obtain ⟨k6, k7, k8, k9, p, p1, p2, p3⟩ := k5 hr
    have hl0 : (hdW r).length ≠ 0 := fun e => k8 (List.length_eq_zero_iff.mp e)
    rw [if_pos (by omega), if_pos (by omega)]
    have e247 : μ 247 (μ 240 19).toNat = (p : Int) := by rw [k1, Int.toNat_natCast]; exact p1
    have e248 : μ 248 (μ 240 19).toNat = (((hdW r).length : Nat) : Int) := by rw [k1, Int.toNat_natCast]; exact p2
    have hj : (μ 240 24).toNat = s.1.length := by omega
    have fin : ∃ μ', μ' = am_up (am_up (am_up (am_up (am_up μ 249 s.1.length cn) 250 s.1.length sg) 251 s.1.length (k : Int)) 240 24 ((s.1.length : Int) + 1)) 240 19 ((k : Int) + 1) ∧ FR μ μ' ∧ (∀ t, 20 ≤ t → t ≤ 23 → μ' 240 t = μ 240 t) ∧ Rs fs cols recs ty μ' ws r.tail (s.1 ++ [(cn.toNat, sw, hdW r)], s.2) := by
      refine ⟨_, rfl, ?_, ?_, ?_⟩
      · intro c t c1 c2
        simp only [u_c]
        rw [if_neg (show ¬ (c = 249) by omega), if_neg (show ¬ (c = 250) by omega), if_neg (show ¬ (c = 251) by omega)]
        by_cases hc : c = 240
        · rw [if_pos hc, if_pos hc, if_neg (by omega), if_neg (by omega)]
        · rw [if_neg hc, if_neg hc]
      · intro t t1 t2
        rw [am_up_s _ _ (by omega), am_up_s _ _ (by omega), am_up_c _ _ (by decide), am_up_c _ _ (by decide), am_up_c _ _ (by decide)]
      · have g : ∀ c t, ¬ (c = 240 ∧ (t = 19 ∨ t = 24)) → ¬ (249 ≤ c ∧ c ≤ 251 ∧ t = s.1.length) → (am_up (am_up (am_up (am_up (am_up μ 249 s.1.length cn) 250 s.1.length sg) 251 s.1.length (k : Int)) 240 24 ((s.1.length : Int) + 1)) 240 19 ((k : Int) + 1)) c t = μ c t := by
          intro c t c1 c2
          simp only [u_c]
          by_cases q1 : c = 240
          · rw [if_pos q1, if_neg (by omega), if_pos q1, if_neg (by omega), if_neg (by omega), if_neg (by omega), if_neg (by omega)]
          · rw [if_neg q1, if_neg q1]
            by_cases q2 : t = s.1.length
            · rw [if_neg (show ¬ (c = 251) by omega), if_neg (show ¬ (c = 250) by omega), if_neg (show ¬ (c = 249) by omega)]
            · rw [if_neg q2, if_neg q2, if_neg q2]; simp
        have g2 : ∀ c, 249 ≤ c → c ≤ 251 → (am_up (am_up (am_up (am_up (am_up μ 249 s.1.length cn) 250 s.1.length sg) 251 s.1.length (k : Int)) 240 24 ((s.1.length : Int) + 1)) 240 19 ((k : Int) + 1)) c s.1.length = if c = 249 then cn else if c = 250 then sg else (k : Int) := by
          intro c c1 c2
          simp only [u_c]
          rw [if_neg (show ¬ (c = 240) by omega), if_neg (show ¬ (c = 240) by omega)]
          by_cases q1 : c = 249
          · subst q1; simp
          · by_cases q2 : c = 250
            · subst q2; simp
            · have q3 : c = 251 := by omega
              subst q3; simp
        have g24 : (am_up (am_up (am_up (am_up (am_up μ 249 s.1.length cn) 250 s.1.length sg) 251 s.1.length (k : Int)) 240 24 ((s.1.length : Int) + 1)) 240 19 ((k : Int) + 1)) 240 24 = (s.1.length : Int) + 1 := by simp [u_c]
        have g19 : (am_up (am_up (am_up (am_up (am_up μ 249 s.1.length cn) 250 s.1.length sg) 251 s.1.length (k : Int)) 240 24 ((s.1.length : Int) + 1)) 240 19 ((k : Int) + 1)) 240 19 = (k : Int) + 1 := by simp [u_c]
        generalize (am_up (am_up (am_up (am_up (am_up μ 249 s.1.length cn) 250 s.1.length sg) 251 s.1.length (k : Int)) 240 24 ((s.1.length : Int) + 1)) 240 19 ((k : Int) + 1)) = μ' at *
        refine ⟨⟨h1.1.fr (g _ _ (by omega) (by omega)) (fun c t hc => g _ _ (by omega) (by omega)), h1.2.1, k + 1, k6, by rw [g19]; omega, k9.symm⟩, h2.fw (g _ _ (by omega) (by omega)) (g _ _ (by omega) (by omega)) (fun c t hc => g c t (by omega) (by omega)), fun c hc => by rw [g _ _ (by omega) (by omega)]; exact h3 c hc, by rw [g24]; simp, by simp; omega, fun j hj => ?_, by rw [g _ _ (by omega) (by omega)]; exact h7, by rw [g _ _ (by omega) (by omega)]; exact h8, by rw [g _ _ (by omega) (by omega)]; exact h9⟩
        rw [getD_app]
        by_cases hj2 : j < s.1.length
        · rw [if_pos hj2]
          obtain ⟨y1, y2, y3, k', y4, y5⟩ := h6 j hj2
          exact ⟨by rw [g _ _ (by omega) (by omega)]; exact y1, y2, by rw [g _ _ (by omega) (by omega)]; exact y3, k', by rw [g _ _ (by omega) (by omega)]; exact y4, y5⟩
        · simp at hj
          rw [if_neg hj2, if_pos (by omega), show j = s.1.length by omega]
          refine ⟨?_, by dsimp only; omega, ?_, k, ?_, k6, k7⟩
          · rw [g2 _ (by omega) (by omega), if_pos rfl]; dsimp only; omega
          · rw [g2 _ (by omega) (by omega), if_neg (by decide), if_pos rfl]; exact hsg
          · rw [g2 _ (by omega) (by omega), if_neg (by decide), if_neg (by decide)]
    obtain ⟨μ', em, f1, f2, f3⟩ := fin
    have e24 : w32 (μ 240 24 + 1) = (s.1.length : Int) + 1 := by rw [h4, w32_id (by omega) (by omega)]
    have e19 : w32 (μ 240 19 + 1) = (k : Int) + 1 := by rw [k1, w32_id (by omega) (by omega)]
    refine ⟨μ', f1, f2, ?_⟩
    have hb : (0 : Int) ≤ μ 240 24 ∧ μ 240 24 < ((2 : Nat) : Int) := by omega
    have hb2 : (0 : Int) ≤ μ 240 19 ∧ μ 240 19 < ((80 : Nat) : Int) := by omega
    have em' : am_up (am_up (am_up (am_up (am_up μ 249 (μ 240 24).toNat cn) 250 (μ 240 24).toNat sg) 251 (μ 240 24).toNat (μ 240 19)) 240 24 (w32 (μ 240 24 + 1))) 240 19 (w32 (μ 240 19 + 1)) = μ' := by rw [em, e24, e19, hj, k1]
    simp only [am_up_c _ _ (show (240 : Nat) ≠ 249 by decide), am_up_c _ _ (show (240 : Nat) ≠ 250 by decide), am_up_c _ _ (show (240 : Nat) ≠ 251 by decide), am_up_s _ _ (show (19 : Nat) ≠ 24 by decide), if_pos hb, if_pos hb2, em']
    rw [e247, e248]
    have c1 : 0 ≤ cn ∧ cn < ((5 : Nat) : Int) := by omega
    simp only [if_pos c1]
    unfold q_fit
    dsimp only
    rw [hty]
    by_cases t3 : ty cn.toNat = 3
    · rw [if_pos t3, if_neg (show ¬ (ty cn.toNat = 1) by omega), if_neg (show ¬ (ty cn.toNat = 2) by omega), hg]
      by_cases c18 : sw = lit 18
      · rw [if_pos c18]
        exact ⟨fun _ => ⟨rfl, f3⟩, fun z => absurd ⟨hw, c18, hl0⟩ z⟩
      · rw [if_neg c18]
        exact ⟨fun z => absurd z.2.1 c18, fun _ => rfl⟩
    · obtain ⟨v, v1, v2⟩ := fn188_ok p3 k8 (t := ty cn.toNat) rfl rfl (by omega)
      rw [if_neg t3, v1, am_op_some]
      dsimp only
      simp only [am_up_c _ _ (show (240 : Nat) ≠ 249 by decide), am_up_c _ _ (show (240 : Nat) ≠ 250 by decide), am_up_c _ _ (show (240 : Nat) ≠ 251 by decide), am_up_s _ _ (show (19 : Nat) ≠ 24 by decide), if_pos hb, if_pos hb2, em']
      have ew : (if ty cn.toNat = 1 then (sp_N (hdW r)).isSome = true else if ty cn.toNat = 2 then (sp_D (hdW r)).isSome = true else sw = lit 18 ∧ (hdW r).length ≠ 0) ↔ (if ty cn.toNat = 1 then (sp_N (hdW r)).isSome = true else (sp_D (hdW r)).isSome = true) := by
        by_cases t1 : ty cn.toNat = 1
        · rw [if_pos t1, if_pos t1]
        · rw [if_neg t1, if_neg t1, if_pos (by omega)]
      rw [ew]
      by_cases hv : o_cmp v (-9223372036854775808) = 0
      · rw [if_pos hv]
        exact ⟨fun z => absurd z.2 (v2.mp hv), fun _ => rfl⟩
      · rw [if_neg hv]
        exact ⟨fun _ => ⟨rfl, f3⟩, fun z => absurd ⟨hw, Classical.byContradiction fun y => hv (v2.mpr y)⟩ z⟩
end RR
