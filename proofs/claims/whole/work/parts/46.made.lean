/-! The constructors: a machine that makes the cells in their order. -/
abbrev zc_S : Type := Nat × Nat × (Nat → Nat → Bool) × am_M
def zc_us (σ : Nat → Nat → Bool) (o k : Nat) : Nat → Nat → Bool := fun a b => if a = o then (if b = k then true else σ a b) else σ a b
def zc_up (C : am_C) (n q : Nat) : am_C := (C.1, C.2.1, (fun o => if o = n then q else C.2.2.1 o), C.2.2.2.1, C.2.2.2.2)
def zc_fv (C : am_C) (σ : Nat → Nat → Bool) (μ : am_M) (o t k : Nat) : Value := match am_ft t k with
  | 1 => .long (Int64.ofInt (μ o k))
  | 5 => if σ o k = true then .ref (C.2.2.1 (am_ref o k)) else .null
  | _ => .int (Int32.ofInt (μ o k))
def zc_arr (C : am_C) (σ : Nat → Nat → Bool) (μ : am_M) (o ty : Nat) : (Nat → Int32) ⊕ (Nat → Int64) ⊕ (Nat → UInt32) ⊕ (Nat → UInt64) ⊕ (Nat → Option Nat) := match ty with
  | 1 => .inr (.inl (fun i => Int64.ofInt (μ o i)))
  | 5 => .inr (.inr (.inr (.inr (fun i => if σ o i = true then some (C.2.2.1 (am_ref o i)) else none))))
  | _ => .inl (fun i => Int32.ofInt (μ o i))
def zc_fs (C : am_C) (σ : Nat → Nat → Bool) (μ : am_M) (o t : Nat) : List Value := (List.range (am_nf t)).map (zc_fv C σ μ o t)
def zc_cell (C : am_C) (σ : Nat → Nat → Bool) (μ : am_M) (o : Nat) : va_E := if am_cls o < 16 then .inr (am_cls o, zc_fs C σ μ o (am_cls o)) else .inl (C.2.1 (am_cls o), am_len o, zc_arr C σ μ o (am_ft (am_cls o) 0))
def zc_ws (C : am_C) (S : zc_S) : va_W := (List.range S.1).map (fun o => (C.2.2.1 o, zc_cell C S.2.2.1 S.2.2.2 o))
/-- what holds of the machine's state: what is set leads to cells that are there; nothing is said yet of those to come -/
def zc_I (S : zc_S) : Prop := (∀ o k, S.2.2.1 o k = true → o < S.1 ∧ am_ref o k < S.1) ∧ (∀ o k, S.1 ≤ o → S.2.2.2 o k = 0) ∧ (∀ o k, 16 ≤ am_cls o → S.2.2.2 o k = 0)
theorem zc_ws_at (C : am_C) (S : zc_S) {o : Nat} (h : o < S.1) : (zc_ws C S)[o]? = some (C.2.2.1 o, zc_cell C S.2.2.1 S.2.2.2 o) := by
  unfold zc_ws
  rw [List.getElem?_map, List.getElem?_range h]
  rfl
theorem zc_ws_no (C : am_C) (S : zc_S) {o : Nat} (h : S.1 ≤ o) : (zc_ws C S)[o]? = none := by
  unfold zc_ws; simp; omega
theorem zc_cell_o (C : am_C) (σ : Nat → Nat → Bool) (μ : am_M) {o t : Nat} (h : am_cls o = t) (ht : t < 16) : zc_cell C σ μ o = .inr (t, zc_fs C σ μ o t) := by
  unfold zc_cell
  rw [h, if_pos ht]
theorem zc_cell_a (C : am_C) (σ : Nat → Nat → Bool) (μ : am_M) {o t : Nat} (h : am_cls o = t) (ht : ¬ t < 16) : zc_cell C σ μ o = .inl (C.2.1 t, am_len o, zc_arr C σ μ o (am_ft t 0)) := by
  unfold zc_cell
  rw [h, if_neg ht]
theorem zc_fs_at (C : am_C) (σ : Nat → Nat → Bool) (μ : am_M) (o t : Nat) {k : Nat} (h : k < am_nf t) : (zc_fs C σ μ o t)[k]? = some (zc_fv C σ μ o t k) := by
  unfold zc_fs
  rw [List.getElem?_map, List.getElem?_range h]
  rfl
/-- a cell is made: the others stand -/
theorem zc_cell_up (C : am_C) {S : zc_S} (hI : zc_I S) (n q o : Nat) (hn : S.1 ≤ n) : zc_cell (zc_up C n q) S.2.2.1 S.2.2.2 o = zc_cell C S.2.2.1 S.2.2.2 o := by
  have h : ∀ k, S.2.2.1 o k = true → (zc_up C n q).2.2.1 (am_ref o k) = C.2.2.1 (am_ref o k) := fun k hk => by
    have := (hI.1 o k hk).2
    show (if am_ref o k = n then q else _) = _
    rw [if_neg (by omega)]
  unfold zc_cell
  split
  · congr 2
    unfold zc_fs
    refine List.map_congr_left (fun k _ => ?_)
    unfold zc_fv
    split
    · rfl
    · split
      · rw [h k (by assumption)]
      · rfl
    · rfl
  · congr 2
    show (am_len o, zc_arr (zc_up C n q) S.2.2.1 S.2.2.2 o _) = (am_len o, zc_arr C S.2.2.1 S.2.2.2 o _)
    congr 1
    unfold zc_arr
    split
    · rfl
    · congr 4
      funext i
      split
      · rw [h i (by assumption)]
      · rfl
    · rfl
theorem zc_ws_push (C : am_C) {S : zc_S} (hI : zc_I S) {q k : Nat} {e : va_E} (he : e = zc_cell (zc_up C S.1 q) S.2.2.1 S.2.2.2 S.1) : zc_ws C S ++ [(q, e)] = zc_ws (zc_up C S.1 q) (S.1 + 1, k, S.2.2) := by
  subst he
  unfold zc_ws
  rw [List.range_succ, List.map_append]
  congr 1
  · refine List.map_congr_left (fun o ho => ?_)
    have ho : o < S.1 := List.mem_range.mp ho
    show (C.2.2.1 o, _) = ((if o = S.1 then q else C.2.2.1 o), zc_cell (zc_up C S.1 q) S.2.2.1 S.2.2.2 o)
    rw [if_neg (by omega), zc_cell_up C hI _ _ _ (Nat.le_refl _)]
  · show [(q, _)] = [((if S.1 = S.1 then q else _), _)]
    rw [if_pos rfl]
theorem zc_I_push {S : zc_S} (hI : zc_I S) (k : Nat) : zc_I (S.1 + 1, k, S.2.2) := by
  refine ⟨fun o x h => ?_, fun o x h => hI.2.1 o x (by have h : S.1 + 1 ≤ o := h; omega), hI.2.2⟩
  have z := hI.1 o x h
  show o < S.1 + 1 ∧ am_ref o x < S.1 + 1
  omega
theorem zc_I_us {S : zc_S} (hI : zc_I S) {o k : Nat} (ho : o < S.1) (hr : am_ref o k < S.1) : zc_I (S.1, S.2.1, zc_us S.2.2.1 o k, S.2.2.2) := by
  refine ⟨fun a b h => ?_, hI.2⟩
  have h : (if a = o then (if b = k then true else S.2.2.1 a b) else S.2.2.1 a b) = true := h
  show a < S.1 ∧ am_ref a b < S.1
  split at h
  · rename_i ea
    split at h
    · rename_i eb
      rw [ea, eb]
      exact ⟨ho, hr⟩
    · exact hI.1 a b h
  · exact hI.1 a b h
theorem zc_I_up {S : zc_S} (hI : zc_I S) {o k : Nat} {x : Int} (ho : o < S.1) (hc : am_cls o < 16) : zc_I (S.1, S.2.1, S.2.2.1, am_up S.2.2.2 o k x) := by
  refine ⟨hI.1, fun a b h => ?_, fun a b h => ?_⟩
  · have h : S.1 ≤ a := h
    show am_up S.2.2.2 o k x a b = 0
    rw [am_up_o _ _ (by omega)]
    exact hI.2.1 a b h
  · show am_up S.2.2.2 o k x a b = 0
    rw [am_up_o _ _ (fun e => by rw [e] at h; omega)]
    exact hI.2.2 a b h
/-- a write to cell o leaves the others -/
theorem zc_ws_set (C : am_C) {S S' : zc_S} {o : Nat} {e : va_E} (h1 : S'.1 = S.1) (h : o < S.1) (he : e = zc_cell C S'.2.2.1 S'.2.2.2 o) (hr : ∀ a, a ≠ o → zc_cell C S'.2.2.1 S'.2.2.2 a = zc_cell C S.2.2.1 S.2.2.2 a) : (zc_ws C S).set o (C.2.2.1 o, e) = zc_ws C S' := by
  subst he
  apply List.ext_getElem?
  intro i
  rw [List.getElem?_set]
  by_cases hi : o = i
  · subst hi
    have hl : o < (zc_ws C S).length := by unfold zc_ws; simpa using h
    rw [if_pos rfl, if_pos hl, zc_ws_at C _ (by omega)]
  · rw [if_neg hi]
    by_cases h2 : i < S.1
    · rw [zc_ws_at C _ h2, zc_ws_at C _ (by omega), hr i (fun q => hi q.symm)]
    · rw [zc_ws_no C _ (by omega), zc_ws_no C _ (by omega)]
theorem zc_cell_us (C : am_C) (σ : Nat → Nat → Bool) (μ : am_M) {o k a : Nat} (h : a ≠ o) : zc_cell C (zc_us σ o k) μ a = zc_cell C σ μ a := by
  have e : ∀ b, zc_us σ o k a b = σ a b := fun b => by unfold zc_us; rw [if_neg h]
  unfold zc_cell zc_fs zc_fv zc_arr
  simp only [e]
theorem zc_cell_um (C : am_C) (σ : Nat → Nat → Bool) (μ : am_M) {o k a : Nat} {x : Int} (h : a ≠ o) : zc_cell C σ (am_up μ o k x) a = zc_cell C σ μ a := by
  unfold zc_cell zc_fs zc_fv zc_arr
  simp only [am_up_o μ x h]
theorem zc_fs_set (C : am_C) {σ σ' : Nat → Nat → Bool} {μ μ' : am_M} {o t k : Nat} {v : Value} (hv : zc_fv C σ' μ' o t k = v) (hr : ∀ i, i ≠ k → zc_fv C σ' μ' o t i = zc_fv C σ μ o t i) : (zc_fs C σ μ o t).set k v = zc_fs C σ' μ' o t := by
  subst hv
  apply List.ext_getElem?
  intro i
  rw [List.getElem?_set]
  have hno : ∀ (σ : Nat → Nat → Bool) (μ : am_M) (i : Nat), ¬ i < am_nf t → (zc_fs C σ μ o t)[i]? = none := fun σ μ i h => by unfold zc_fs; simp; omega
  by_cases hi : k = i
  · subst hi
    rw [if_pos rfl]
    by_cases h2 : k < am_nf t
    · rw [if_pos (by unfold zc_fs; simpa using h2), zc_fs_at C _ _ o t h2]
    · rw [if_neg (by unfold zc_fs; simpa using h2), hno _ _ k h2]
  · rw [if_neg hi]
    by_cases h2 : i < am_nf t
    · rw [zc_fs_at C _ _ o t h2, zc_fs_at C _ _ o t h2, hr i (fun q => hi q.symm)]
    · rw [hno _ _ i h2, hno _ _ i h2]
theorem zc_fv_us (C : am_C) (σ : Nat → Nat → Bool) (μ : am_M) {o t k i : Nat} (h : i ≠ k) : zc_fv C (zc_us σ o k) μ o t i = zc_fv C σ μ o t i := by
  have e : zc_us σ o k o i = σ o i := by unfold zc_us; rw [if_pos rfl, if_neg h]
  unfold zc_fv
  rw [e]
theorem zc_fv_um (C : am_C) (σ : Nat → Nat → Bool) (μ : am_M) {o t k i : Nat} {x : Int} (h : i ≠ k) : zc_fv C σ (am_up μ o k x) o t i = zc_fv C σ μ o t i := by
  unfold zc_fv
  rw [am_up_k μ x h]
theorem zc_us_at (σ : Nat → Nat → Bool) (o k : Nat) : zc_us σ o k o k = true := by unfold zc_us; rw [if_pos rfl, if_pos rfl]
theorem zc_fv_r (C : am_C) (σ : Nat → Nat → Bool) (μ : am_M) {o t k : Nat} (h : am_ft t k = 5) (hs : σ o k = true) : zc_fv C σ μ o t k = .ref (C.2.2.1 (am_ref o k)) := by
  unfold zc_fv
  rw [h]
  exact if_pos hs
theorem zc_fv_n (C : am_C) (σ : Nat → Nat → Bool) (μ : am_M) {o t k : Nat} (h1 : am_ft t k ≠ 1) (h5 : am_ft t k ≠ 5) : zc_fv C σ μ o t k = .int (Int32.ofInt (μ o k)) := by
  unfold zc_fv
  split
  · contradiction
  · contradiction
  · rfl
/-- the field's value in an object that was made just now -/
def zc_dv (t k : Nat) : Value := match am_ft t k with
  | 1 => .long 0
  | 5 => .null
  | _ => .int 0
theorem zc_fv_0 (C : am_C) {S : zc_S} (hI : zc_I S) (t k : Nat) : zc_fv C S.2.2.1 S.2.2.2 S.1 t k = zc_dv t k := by
  have e1 : S.2.2.2 S.1 k = 0 := hI.2.1 _ _ (Nat.le_refl _)
  have e2 : ¬ S.2.2.1 S.1 k = true := fun h => absurd (hI.1 _ _ h).1 (Nat.lt_irrefl _)
  unfold zc_fv zc_dv
  rw [e1]
  split
  · rfl
  · exact if_neg e2
  · rfl
def zk_dv (t k : Nat) : Bool := match am_cl[t]? with
  | some q => match parseFieldDescriptor (q.2.1 k).2.2.1 with
    | some .long => decide (am_ft t k = 1)
    | some (.object _) => decide (am_ft t k = 5)
    | some (.array _) => decide (am_ft t k = 5)
    | some .int => decide (am_ft t k ≠ 1) && decide (am_ft t k ≠ 5)
    | some .boolean => decide (am_ft t k ≠ 1) && decide (am_ft t k ≠ 5)
    | _ => false
  | none => false
theorem zk_dv_all : ((List.range 12).all fun t => (List.range (am_nf t)).all fun k => zk_dv t k) = true := by decide +kernel
theorem zc_dv_ok {t : Nat} {Cn : String} {T : u_T} {N : Nat} {ty : Nat → FieldType} (ht : t < 12) (h : am_CO t Cn T N ty) {k : Nat} (hk : k < N) : defaultValue (ty k) = zc_dv t k := by
  obtain ⟨h1, h2, -, h4, -⟩ := h
  have z := List.all_eq_true.mp (List.all_eq_true.mp zk_dv_all t (List.mem_range.mpr ht)) k (List.mem_range.mpr (by omega))
  unfold zk_dv at z
  rw [h1] at z
  dsimp only at z
  rw [h4 k hk] at z
  unfold zc_dv
  generalize ty k = y at z
  cases y <;> simp only [decide_eq_true_eq, Bool.and_eq_true] at z <;> first | (rw [z]; rfl) | (cases z; done) | skip
  all_goals (split <;> first | rfl | (exfalso; omega))
