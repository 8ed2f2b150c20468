/-! What the abstract machine's values, memory and stretches mean on the machine. -/
abbrev am_C : Type := va_G × (Nat → ClassId) × (Nat → Nat) × (Nat → Prop) × (Nat → Nat → Nat)
abbrev am_K : Type := Program × Launch × Env × Room × State × MethodId × Array Value × List Frame × Method × Code
def am_ra (C : am_C) (t o : Nat) : Nat := if t < 30 then C.2.2.1 o else C.2.2.2.2 t o
def am_v (C : am_C) (v : am_V) : Value := match v with
  | .inl x => .int (Int32.ofInt x)
  | .inr (.inl x) => .long (Int64.ofInt x)
  | .inr (.inr q) => .ref (am_ra C q.1 q.2)
def am_ok (v : am_V) : Prop := match v with
  | .inl x => am_inI x
  | .inr (.inl x) => am_inJ x
  | .inr (.inr q) => if q.1 < 30 then q.2 < am_N ∧ am_cls q.2 = q.1 else am_cok q.1 q.2
def am_inT (ty : Nat) (x : Int) : Prop := match ty with
  | 0 => am_inI x
  | 1 => am_inJ x
  | 2 => x = 0 ∨ x = 1
  | 3 => 0 ≤ x ∧ x ≤ 65535
  | 4 => -128 ≤ x ∧ x ≤ 127
  | _ => True
def am_okM (μ : am_M) : Prop := ∀ o k, am_inT (am_ft (am_cls o) k) (μ o k)
def am_fv (C : am_C) (μ : am_M) (o t k : Nat) : Value := match am_ft t k with
  | 1 => .long (Int64.ofInt (μ o k))
  | 5 => .ref (C.2.2.1 (am_ref o k))
  | _ => .int (Int32.ofInt (μ o k))
def am_arr (C : am_C) (μ : am_M) (o ty : Nat) : (Nat → Int32) ⊕ (Nat → Int64) ⊕ (Nat → UInt32) ⊕ (Nat → UInt64) ⊕ (Nat → Option Nat) := match ty with
  | 1 => .inr (.inl (fun i => Int64.ofInt (μ o i)))
  | 5 => .inr (.inr (.inr (.inr (fun i => some (C.2.2.1 (am_ref o i))))))
  | _ => .inl (fun i => Int32.ofInt (μ o i))
def am_fs (C : am_C) (μ : am_M) (o t : Nat) : List Value := (List.range (am_nf t)).map (am_fv C μ o t)
def am_cell (C : am_C) (μ : am_M) (o : Nat) : va_E := if am_cls o < 16 then .inr (am_cls o, am_fs C μ o (am_cls o)) else .inl (C.2.1 (am_cls o), am_len o, am_arr C μ o (am_ft (am_cls o) 0))
def am_ws (C : am_C) (μ : am_M) : va_W := (List.range am_N).map (fun o => (C.2.2.1 o, am_cell C μ o))
def am_tys (C : am_C) : List (ClassId × FieldType) := [(C.2.1 16, .int), (C.2.1 17, .long), (C.2.1 18, .char), (C.2.1 19, .byte), (C.2.1 20, .boolean), (C.2.1 21, .object RA3), (C.2.1 22, .object RA5)]
theorem am_ws_at (C : am_C) (μ : am_M) {o : Nat} (h : o < am_N) : (am_ws C μ)[o]? = some (C.2.2.1 o, am_cell C μ o) := by
  unfold am_ws
  rw [List.getElem?_map, List.getElem?_range h]
  rfl
theorem am_cell_o (C : am_C) (μ : am_M) {o t : Nat} (h : am_cls o = t) (ht : t < 16) : am_cell C μ o = .inr (t, am_fs C μ o t) := by
  unfold am_cell
  rw [h, if_pos ht]
theorem am_cell_a (C : am_C) (μ : am_M) {o t : Nat} (h : am_cls o = t) (ht : ¬ t < 16) : am_cell C μ o = .inl (C.2.1 t, am_len o, am_arr C μ o (am_ft t 0)) := by
  unfold am_cell
  rw [h, if_neg ht]
theorem am_fs_at (C : am_C) (μ : am_M) (o t : Nat) {k : Nat} (h : k < am_nf t) : (am_fs C μ o t)[k]? = some (am_fv C μ o t k) := by
  unfold am_fs
  rw [List.getElem?_map, List.getElem?_range h]
  rfl
theorem am_up_self (μ : am_M) (o k : Nat) (x : Int) : am_up μ o k x o k = x := by simp [am_up]
theorem am_up_o (μ : am_M) {o k a b : Nat} (x : Int) (h : a ≠ o) : am_up μ o k x a b = μ a b := by simp [am_up, h]
theorem am_up_k (μ : am_M) {o k a b : Nat} (x : Int) (h : b ≠ k) : am_up μ o k x a b = μ a b := by simp [am_up, h]
theorem am_cell_up (C : am_C) (μ : am_M) {o k a : Nat} (x : Int) (h : a ≠ o) : am_cell C (am_up μ o k x) a = am_cell C μ a := by
  unfold am_cell am_fs am_fv am_arr
  simp only [am_up_o μ x h]
/-- a write to cell o leaves the others -/
theorem am_ws_set (C : am_C) (μ : am_M) {o k : Nat} {x : Int} {e : va_E} (h : o < am_N) (he : e = am_cell C (am_up μ o k x) o) : (am_ws C μ).set o (C.2.2.1 o, e) = am_ws C (am_up μ o k x) := by
  subst he
  apply List.ext_getElem?
  intro i
  rw [List.getElem?_set]
  by_cases hi : o = i
  · subst hi
    have hl : o < (am_ws C μ).length := by unfold am_ws; simpa using h
    rw [if_pos rfl, if_pos hl, am_ws_at C _ h]
  · rw [if_neg hi]
    by_cases h2 : i < am_N
    · rw [am_ws_at C _ h2, am_ws_at C _ h2, am_cell_up C μ x (fun q => hi q.symm)]
    · have a1 : (am_ws C μ)[i]? = none := by unfold am_ws; simp; omega
      have a2 : (am_ws C (am_up μ o k x))[i]? = none := by unfold am_ws; simp; omega
      rw [a1, a2]
theorem am_fs_set (C : am_C) (μ : am_M) {o t k : Nat} {x : Int} {v : Value} (hv : am_fv C (am_up μ o k x) o t k = v) : (am_fs C μ o t).set k v = am_fs C (am_up μ o k x) o t := by
  subst hv
  apply List.ext_getElem?
  intro i
  rw [List.getElem?_set]
  by_cases hi : k = i
  · subst hi
    rw [if_pos rfl]
    by_cases h2 : k < am_nf t
    · rw [if_pos (by unfold am_fs; simpa using h2), am_fs_at C _ o t h2]
    · have a2 : (am_fs C (am_up μ o k x) o t)[k]? = none := by unfold am_fs; simp; omega
      rw [a2, if_neg (by unfold am_fs; simpa using h2)]
  · rw [if_neg hi]
    by_cases h2 : i < am_nf t
    · rw [am_fs_at C _ o t h2, am_fs_at C _ o t h2]
      unfold am_fv
      simp only [am_up_k μ x (fun q => hi q.symm)]
    · have a1 : (am_fs C μ o t)[i]? = none := by unfold am_fs; simp; omega
      have a2 : (am_fs C (am_up μ o k x) o t)[i]? = none := by unfold am_fs; simp; omega
      rw [a1, a2]
theorem am_i_of {x : Int} (h : am_inI x) : (Int32.ofInt x).toInt = x := by
  rw [Int32.toInt_ofInt]
  unfold am_inI at h
  show Int.bmod x 4294967296 = x
  unfold Int.bmod
  dsimp only
  split <;> omega
theorem am_j_of {x : Int} (h : am_inJ x) : (Int64.ofInt x).toInt = x := by
  rw [Int64.toInt_ofInt]
  unfold am_inJ at h
  show Int.bmod x 18446744073709551616 = x
  unfold Int.bmod
  dsimp only
  split <;> omega
theorem am_i_in (x : Int32) : am_inI x.toInt := by
  have h1 := Int32.le_toInt x
  have h2 := Int32.toInt_lt x
  unfold am_inI
  omega
theorem am_j_in (x : Int64) : am_inJ x.toInt := by
  have h1 := Int64.le_toInt x
  have h2 := Int64.toInt_lt x
  unfold am_inJ
  omega
theorem am_i_eq (x : Int32) : Int32.ofInt x.toInt = x := Int32.ofInt_toInt x
theorem am_j_eq (x : Int64) : Int64.ofInt x.toInt = x := Int64.ofInt_toInt x
theorem am_w_in (x : Int) : am_inI (w32 x) := am_i_in _
theorem am_w_inl (x : Int) : am_inJ (w64 x) := am_j_in _
theorem am_w_of (x : Int) : Int32.ofInt (w32 x) = Int32.ofInt x := am_i_eq _
theorem am_w_ofl (x : Int) : Int64.ofInt (w64 x) = Int64.ofInt x := am_j_eq _
theorem am_v_cat (C : am_C) (v : am_V) : (am_v C v).category = am_cat v := by
  rcases v with x | x | q <;> rfl
