/-! The abstract machine: values are an int, a long, or a reference (tag, number); memory is numbers by cell and slot; references never change. -/
abbrev am_V : Type := Int ⊕ (Int ⊕ (Nat × Nat))
abbrev am_M : Type := Nat → Nat → Int
abbrev am_L : Type := List (Nat × am_V)
abbrev am_F : Type := List am_V → am_M → Option (Int × am_M)
def am_up (μ : am_M) (o k : Nat) (x : Int) : am_M := fun a b => if a = o then (if b = k then x else μ a b) else μ a b
def am_cat (v : am_V) : Nat := match v with
  | .inr (.inl _) => 2
  | _ => 1
def am_inI (x : Int) : Prop := -2147483648 ≤ x ∧ x ≤ 2147483647
def am_inJ (x : Int) : Prop := -9223372036854775808 ≤ x ∧ x ≤ 9223372036854775807
def w32 (x : Int) : Int := (Int32.ofInt x).toInt
def w64 (x : Int) : Int := (Int64.ofInt x).toInt
def o_2 (f : Int32 → Int32 → Int32) (a b : Int) : Int := (f (Int32.ofInt a) (Int32.ofInt b)).toInt
def o_2l (f : Int64 → Int64 → Int64) (a b : Int) : Int := (f (Int64.ofInt a) (Int64.ofInt b)).toInt
def o_and (a b : Int) : Int := o_2 (fun x y => x &&& y) a b
def o_or (a b : Int) : Int := o_2 (fun x y => x ||| y) a b
def o_xor (a b : Int) : Int := o_2 (fun x y => x ^^^ y) a b
def o_shl (a b : Int) : Int := o_2 (fun x y => x <<< (y &&& 31)) a b
def o_shr (a b : Int) : Int := o_2 (fun x y => x >>> (y &&& 31)) a b
def o_rem (a b : Int) : Int := o_2 (fun x y => x - x / y * y) a b
def o_div (a b : Int) : Int := o_2 (fun x y => x / y) a b
def o_landl (a b : Int) : Int := o_2l (fun x y => x &&& y) a b
def o_lorl (a b : Int) : Int := o_2l (fun x y => x ||| y) a b
def o_reml (a b : Int) : Int := o_2l (fun x y => x - x / y * y) a b
def o_divl (a b : Int) : Int := o_2l (fun x y => x / y) a b
def o_ushrl (a b : Int) : Int := ((Int64.ofInt a).toUInt64 >>> ((Int32.ofInt b).toInt64.toUInt64 &&& Int64.toUInt64 63)).toInt64.toInt
def o_shll (a b : Int) : Int := (Int64.ofInt a <<< ((Int32.ofInt b).toInt64 &&& 63)).toInt
def o_l2i (a : Int) : Int := (Int64.ofInt a).toInt32.toInt
def o_i2b (a : Int) : Int := (Int32.ofInt a).toInt8.toInt32.toInt
def o_i2c (a : Int) : Int := ((Int32.ofInt a).toUInt32 % 65536).toInt32.toInt
def o_nar (ty : FieldType) (a : Int) : Int := (vp_nar ty (Int32.ofInt a)).toInt
def o_cmp (a b : Int) : Int := if b < a then 1 else if a = b then 0 else -1
section AM0
variable {β : Type}
def am_i1 (st : List am_V) (f : Int → List am_V → Option β) : Option β := match st with
  | .inl a :: r => f a r
  | _ => none
def am_i2 (st : List am_V) (f : Int → Int → List am_V → Option β) : Option β := match st with
  | .inl b :: .inl a :: r => f a b r
  | _ => none
def am_l1 (st : List am_V) (f : Int → List am_V → Option β) : Option β := match st with
  | .inr (.inl a) :: r => f a r
  | _ => none
def am_l2 (st : List am_V) (f : Int → Int → List am_V → Option β) : Option β := match st with
  | .inr (.inl b) :: .inr (.inl a) :: r => f a b r
  | _ => none
def am_li (st : List am_V) (f : Int → Int → List am_V → Option β) : Option β := match st with
  | .inl b :: .inr (.inl a) :: r => f a b r
  | _ => none
def am_r1 (st : List am_V) (f : Nat → Nat → List am_V → Option β) : Option β := match st with
  | .inr (.inr (t, o)) :: r => f t o r
  | _ => none
def am_ri (st : List am_V) (f : Nat → Nat → Int → List am_V → Option β) : Option β := match st with
  | .inl i :: .inr (.inr (t, o)) :: r => f t o i r
  | _ => none
def am_rii (st : List am_V) (f : Nat → Nat → Int → Int → List am_V → Option β) : Option β := match st with
  | .inl x :: .inl i :: .inr (.inr (t, o)) :: r => f t o i x r
  | _ => none
def am_ril (st : List am_V) (f : Nat → Nat → Int → Int → List am_V → Option β) : Option β := match st with
  | .inr (.inl x) :: .inl i :: .inr (.inr (t, o)) :: r => f t o i x r
  | _ => none
def am_rl (st : List am_V) (f : Nat → Nat → Int → List am_V → Option β) : Option β := match st with
  | .inr (.inl x) :: .inr (.inr (t, o)) :: r => f t o x r
  | _ => none
theorem am_i1_s {st : List am_V} {f : Int → List am_V → Option β} {b : β} (h : am_i1 st f = some b) : ∃ x r, st = .inl x :: r ∧ f x r = some b := by
  unfold am_i1 at h; split at h
  · exact ⟨_, _, rfl, h⟩
  · cases h
theorem am_i2_s {st : List am_V} {f : Int → Int → List am_V → Option β} {b : β} (h : am_i2 st f = some b) : ∃ x y r, st = .inl y :: .inl x :: r ∧ f x y r = some b := by
  unfold am_i2 at h; split at h
  · exact ⟨_, _, _, rfl, h⟩
  · cases h
theorem am_l1_s {st : List am_V} {f : Int → List am_V → Option β} {b : β} (h : am_l1 st f = some b) : ∃ x r, st = .inr (.inl x) :: r ∧ f x r = some b := by
  unfold am_l1 at h; split at h
  · exact ⟨_, _, rfl, h⟩
  · cases h
theorem am_l2_s {st : List am_V} {f : Int → Int → List am_V → Option β} {b : β} (h : am_l2 st f = some b) : ∃ x y r, st = .inr (.inl y) :: .inr (.inl x) :: r ∧ f x y r = some b := by
  unfold am_l2 at h; split at h
  · exact ⟨_, _, _, rfl, h⟩
  · cases h
theorem am_li_s {st : List am_V} {f : Int → Int → List am_V → Option β} {b : β} (h : am_li st f = some b) : ∃ x y r, st = .inl y :: .inr (.inl x) :: r ∧ f x y r = some b := by
  unfold am_li at h; split at h
  · exact ⟨_, _, _, rfl, h⟩
  · cases h
theorem am_r1_s {st : List am_V} {f : Nat → Nat → List am_V → Option β} {b : β} (h : am_r1 st f = some b) : ∃ t o r, st = .inr (.inr (t, o)) :: r ∧ f t o r = some b := by
  unfold am_r1 at h; split at h
  · exact ⟨_, _, _, rfl, h⟩
  · cases h
theorem am_ri_s {st : List am_V} {f : Nat → Nat → Int → List am_V → Option β} {b : β} (h : am_ri st f = some b) : ∃ t o i r, st = .inl i :: .inr (.inr (t, o)) :: r ∧ f t o i r = some b := by
  unfold am_ri at h; split at h
  · exact ⟨_, _, _, _, rfl, h⟩
  · cases h
theorem am_rii_s {st : List am_V} {f : Nat → Nat → Int → Int → List am_V → Option β} {b : β} (h : am_rii st f = some b) : ∃ t o i x r, st = .inl x :: .inl i :: .inr (.inr (t, o)) :: r ∧ f t o i x r = some b := by
  unfold am_rii at h; split at h
  · exact ⟨_, _, _, _, _, rfl, h⟩
  · cases h
theorem am_ril_s {st : List am_V} {f : Nat → Nat → Int → Int → List am_V → Option β} {b : β} (h : am_ril st f = some b) : ∃ t o i x r, st = .inr (.inl x) :: .inl i :: .inr (.inr (t, o)) :: r ∧ f t o i x r = some b := by
  unfold am_ril at h; split at h
  · exact ⟨_, _, _, _, _, rfl, h⟩
  · cases h
theorem am_rl_s {st : List am_V} {f : Nat → Nat → Int → List am_V → Option β} {b : β} (h : am_rl st f = some b) : ∃ t o x r, st = .inr (.inl x) :: .inr (.inr (t, o)) :: r ∧ f t o x r = some b := by
  unfold am_rl at h; split at h
  · exact ⟨_, _, _, _, rfl, h⟩
  · cases h
/-- a guard -/
def am_g (c : Prop) (hc : Decidable c) (b : Option β) : Option β := match hc with
  | .isTrue _ => b
  | .isFalse _ => none
theorem am_if_s {c : Prop} {hc : Decidable c} {b : Option β} {x : β} (h : (@ite _ c hc b none) = some x) : c ∧ b = some x := by
  by_cases hh : c
  · rw [if_pos hh] at h; exact ⟨hh, h⟩
  · rw [if_neg hh] at h; cases h
end AM0
def am_lk (lv : am_L) (i : Nat) : Option am_V := match lv with
  | [] => none
  | q :: r => if q.1 = i then some q.2 else am_lk r i
theorem am_lk_mem {i : Nat} {v : am_V} : ∀ {lv : am_L}, am_lk lv i = some v → (i, v) ∈ lv
  | [], h => by cases h
  | q :: r, h => by
    unfold am_lk at h
    split at h
    · rename_i e
      cases h
      rw [← e]
      exact List.mem_cons_self
    · exact List.mem_cons_of_mem _ (am_lk_mem h)
def am_s1 (lv : am_L) (i : Nat) (v : am_V) : am_L := (i, v) :: lv.filter (fun q => !(q.1 == i) && !(q.1 + 1 == i && am_cat q.2 == 2))
def am_s2 (lv : am_L) (i : Nat) (v : am_V) : am_L := (i, v) :: lv.filter (fun q => !(q.1 == i) && (!(q.1 == i + 1) && !(q.1 + 1 == i && am_cat q.2 == 2)))
