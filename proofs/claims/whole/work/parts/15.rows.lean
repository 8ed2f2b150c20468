/-! Rows for proofs written by program: a method as a function (nested ifs, calls by am_op), its walk beside it. -/
section A0
variable {β : Type}
def am_aR (t : Nat) (vs : List am_V) (f : Nat → List am_V → Option β) : Option β := match vs with
  | .inr (.inr (t', o)) :: r => if t' = t then f o r else none
  | _ => none
def am_aI (vs : List am_V) (f : Int → List am_V → Option β) : Option β := match vs with
  | .inl a :: r => f a r
  | _ => none
def am_aJ (vs : List am_V) (f : Int → List am_V → Option β) : Option β := match vs with
  | .inr (.inl a) :: r => f a r
  | _ => none
def am_a0 (vs : List am_V) (b : Option β) : Option β := match vs with
  | [] => b
  | _ => none
theorem am_aR_s {t : Nat} {vs : List am_V} {f : Nat → List am_V → Option β} {b : β} (h : am_aR t vs f = some b) : ∃ o r, vs = .inr (.inr (t, o)) :: r ∧ f o r = some b := by
  unfold am_aR at h
  split at h
  · obtain ⟨h1, h⟩ := am_if_s h
    exact ⟨_, _, by rw [h1], h⟩
  · cases h
theorem am_aI_s {vs : List am_V} {f : Int → List am_V → Option β} {b : β} (h : am_aI vs f = some b) : ∃ o r, vs = .inl o :: r ∧ f o r = some b := by
  unfold am_aI at h
  split at h
  · exact ⟨_, _, rfl, h⟩
  · cases h
theorem am_aJ_s {vs : List am_V} {f : Int → List am_V → Option β} {b : β} (h : am_aJ vs f = some b) : ∃ o r, vs = .inr (.inl o) :: r ∧ f o r = some b := by
  unfold am_aJ at h
  split at h
  · exact ⟨_, _, rfl, h⟩
  · cases h
theorem am_a0_s {vs : List am_V} {x : Option β} {b : β} (h : am_a0 vs x = some b) : vs = [] ∧ x = some b := by
  unfold am_a0 at h
  split at h
  · exact ⟨rfl, h⟩
  · cases h
theorem am_aR_c {t o : Nat} {r : List am_V} {f : Nat → List am_V → Option β} : am_aR t (.inr (.inr (t, o)) :: r) f = f o r := if_pos rfl
theorem am_aI_c {a : Int} {r : List am_V} {f : Int → List am_V → Option β} : am_aI (.inl a :: r) f = f a r := rfl
theorem am_aJ_c {a : Int} {r : List am_V} {f : Int → List am_V → Option β} : am_aJ (.inr (.inl a) :: r) f = f a r := rfl
theorem am_a0_c {b : Option β} : am_a0 [] b = b := rfl
end A0
theorem am_d {j pc : Nat} {i : Instr} (hj : j < 235) (h1 : j ≠ 57 ∧ j ≠ 232 ∧ j ≠ 233) (h : tb_ins j pc = some i) (hs : am_isw i = false) {n : Nat} (hn : am_il i = n) : decode (am_mc j) pc = .ok (i, n) := by
  rw [← hn]
  exact am_dec1 hj h1 h hs
theorem am_d2 {j pc k : Nat} {i : Instr} {l : List (Nat × Instr)} (hj : j < 235) (h1 : j ≠ 57 ∧ j ≠ 232 ∧ j ≠ 233) (hl : tb_cd j = l) (h : l[k]? = some (pc, i)) (hs : am_isw i = false) {n : Nat} (hn : am_il i = n) : decode (am_mc j) pc = .ok (i, n) := by
  have z := List.all_eq_true.mp (ck_d_all hj h1) (pc, i) (by rw [hl]; exact List.mem_of_getElem? h)
  unfold ck_i at z
  simp only [Bool.and_eq_true] at z
  obtain ⟨⟨z1, z2⟩, z3⟩ := z
  split at z1
  · rename_i i2 len e
    simp only [Bool.and_eq_true, Bool.or_eq_true, decide_eq_true_eq] at z1
    obtain ⟨rfl, z4 | z4⟩ := z1
    · rw [e, z4, hn]
    · rw [hs] at z4; cases z4
  · cases z1
section X
variable {β : Type} {X : am_K} {C : am_C} {j cells slots : Nat} {sc : Nat × (Nat → Int)} {Q : State → Prop} {pc : Nat} {lv lv' : am_L} {st : List am_V} {μ : am_M} {b : β}
theorem x_istore_n (hG : am_G X C j cells slots sc) {n : Fin 4} {x : Int} (hd : decode (am_mc j) pc = .ok (.istore_n n, 1)) (hn : (n : Nat) < am_ml j) (hl : am_s1 lv n (.inl x) = lv') (hk : am_W X C j Q cells slots (pc + 1) lv' st μ) : am_W X C j Q cells slots pc lv (.inl x :: st) μ := am_c_istore_n hG hd hn (by rw [hl]; exact hk)
theorem x_istore (hG : am_G X C j cells slots sc) {n : Nat} {x : Int} (hd : decode (am_mc j) pc = .ok (.istore n, 2)) (hn : (n : Nat) < am_ml j) (hl : am_s1 lv n (.inl x) = lv') (hk : am_W X C j Q cells slots (pc + 2) lv' st μ) : am_W X C j Q cells slots pc lv (.inl x :: st) μ := am_c_istore hG hd hn (by rw [hl]; exact hk)
theorem x_lstore_n (hG : am_G X C j cells slots sc) {n : Fin 4} {x : Int} (hd : decode (am_mc j) pc = .ok (.lstore_n n, 1)) (hn : (n : Nat) + 1 < am_ml j) (hl : am_s2 lv n (.inr (.inl x)) = lv') (hk : am_W X C j Q cells slots (pc + 1) lv' st μ) : am_W X C j Q cells slots pc lv (.inr (.inl x) :: st) μ := am_c_lstore_n hG hd hn (by rw [hl]; exact hk)
theorem x_lstore (hG : am_G X C j cells slots sc) {n : Nat} {x : Int} (hd : decode (am_mc j) pc = .ok (.lstore n, 2)) (hn : (n : Nat) + 1 < am_ml j) (hl : am_s2 lv n (.inr (.inl x)) = lv') (hk : am_W X C j Q cells slots (pc + 2) lv' st μ) : am_W X C j Q cells slots pc lv (.inr (.inl x) :: st) μ := am_c_lstore hG hd hn (by rw [hl]; exact hk)
theorem x_astore_n (hG : am_G X C j cells slots sc) {n : Fin 4} {t o : Nat} (hd : decode (am_mc j) pc = .ok (.astore_n n, 1)) (hn : (n : Nat) < am_ml j) (hl : am_s1 lv n (.inr (.inr (t, o))) = lv') (hk : am_W X C j Q cells slots (pc + 1) lv' st μ) : am_W X C j Q cells slots pc lv (.inr (.inr (t, o)) :: st) μ := am_c_astore_n hG hd hn (by rw [hl]; exact hk)
theorem x_astore (hG : am_G X C j cells slots sc) {n : Nat} {t o : Nat} (hd : decode (am_mc j) pc = .ok (.astore n, 2)) (hn : (n : Nat) < am_ml j) (hl : am_s1 lv n (.inr (.inr (t, o))) = lv') (hk : am_W X C j Q cells slots (pc + 2) lv' st μ) : am_W X C j Q cells slots pc lv (.inr (.inr (t, o)) :: st) μ := am_c_astore hG hd hn (by rw [hl]; exact hk)
theorem x_iinc (hG : am_G X C j cells slots sc) {n : Nat} {d x : Int} (hd : decode (am_mc j) pc = .ok (.iinc n d, 3)) (hx0 : am_lk lv n = some (.inl x)) (hn : n < am_ml j) (hl : am_s1 lv n (.inl (w32 (x + d))) = lv') (hk : am_W X C j Q cells slots (pc + 3) lv' st μ) : am_W X C j Q cells slots pc lv st μ := am_c_iinc hG hd hx0 hn (by rw [hl]; exact hk)
theorem x_iaload (hG : am_G X C j cells slots sc) {o : Nat} {i : Int} {T : Option β} (hd : decode (am_mc j) pc = .ok (.iaload, 1)) (h : (if 0 ≤ i ∧ i < ((am_len o : Nat) : Int) then T else none) = some b) (hk : T = some b → am_W X C j Q cells slots (pc + 1) lv (.inl (μ o i.toNat) :: st) μ) : am_W X C j Q cells slots pc lv (.inl i :: .inr (.inr (16, o)) :: st) μ := am_c_iaload hG hd (am_if_s h).1 (hk (am_if_s h).2)
theorem x_laload (hG : am_G X C j cells slots sc) {o : Nat} {i : Int} {T : Option β} (hd : decode (am_mc j) pc = .ok (.laload, 1)) (h : (if 0 ≤ i ∧ i < ((am_len o : Nat) : Int) then T else none) = some b) (hk : T = some b → am_W X C j Q cells slots (pc + 1) lv (.inr (.inl (μ o i.toNat)) :: st) μ) : am_W X C j Q cells slots pc lv (.inl i :: .inr (.inr (17, o)) :: st) μ := am_c_laload hG hd (am_if_s h).1 (hk (am_if_s h).2)
theorem x_caload (hG : am_G X C j cells slots sc) {o : Nat} {i : Int} {T : Option β} (hd : decode (am_mc j) pc = .ok (.caload, 1)) (h : (if 0 ≤ i ∧ i < ((am_len o : Nat) : Int) then T else none) = some b) (hk : T = some b → am_W X C j Q cells slots (pc + 1) lv (.inl (μ o i.toNat) :: st) μ) : am_W X C j Q cells slots pc lv (.inl i :: .inr (.inr (18, o)) :: st) μ := am_c_caload hG hd (am_if_s h).1 (hk (am_if_s h).2)
theorem x_baload (hG : am_G X C j cells slots sc) {o : Nat} {i : Int} {T : Option β} (hd : decode (am_mc j) pc = .ok (.baload, 1)) (h : (if 0 ≤ i ∧ i < ((am_len o : Nat) : Int) then T else none) = some b) (hk : T = some b → am_W X C j Q cells slots (pc + 1) lv (.inl (μ o i.toNat) :: st) μ) : am_W X C j Q cells slots pc lv (.inl i :: .inr (.inr (19, o)) :: st) μ := am_c_baload hG hd (am_if_s h).1 (hk (am_if_s h).2)
theorem x_zaload (hG : am_G X C j cells slots sc) {o : Nat} {i : Int} {T : Option β} (hd : decode (am_mc j) pc = .ok (.baload, 1)) (h : (if 0 ≤ i ∧ i < ((am_len o : Nat) : Int) then T else none) = some b) (hk : T = some b → am_W X C j Q cells slots (pc + 1) lv (.inl (μ o i.toNat) :: st) μ) : am_W X C j Q cells slots pc lv (.inl i :: .inr (.inr (20, o)) :: st) μ := am_c_zaload hG hd (am_if_s h).1 (hk (am_if_s h).2)
theorem x_aaload_L (hG : am_G X C j cells slots sc) {o : Nat} {i : Int} {T : Option β} (hd : decode (am_mc j) pc = .ok (.aaload, 1)) (h : (if 0 ≤ i ∧ i < ((am_len o : Nat) : Int) then T else none) = some b) (hk : T = some b → am_W X C j Q cells slots (pc + 1) lv (.inr (.inr (3, am_ref o i.toNat)) :: st) μ) : am_W X C j Q cells slots pc lv (.inl i :: .inr (.inr (21, o)) :: st) μ := am_c_aaload_L hG hd (am_if_s h).1 (hk (am_if_s h).2)
theorem x_aaload_C (hG : am_G X C j cells slots sc) {o : Nat} {i : Int} {T : Option β} (hd : decode (am_mc j) pc = .ok (.aaload, 1)) (h : (if 0 ≤ i ∧ i < ((am_len o : Nat) : Int) then T else none) = some b) (hk : T = some b → am_W X C j Q cells slots (pc + 1) lv (.inr (.inr (5, am_ref o i.toNat)) :: st) μ) : am_W X C j Q cells slots pc lv (.inl i :: .inr (.inr (22, o)) :: st) μ := am_c_aaload_C hG hd (am_if_s h).1 (hk (am_if_s h).2)
theorem x_kaload (hG : am_G X C j cells slots sc) {o : Nat} {i : Int} {T : Option β} (hd : decode (am_mc j) pc = .ok (.iaload, 1)) (h : (if 0 ≤ i ∧ i < ((am_clen o : Nat) : Int) then T else none) = some b) (hk : T = some b → am_W X C j Q cells slots (pc + 1) lv (.inl (am_cst o i.toNat) :: st) μ) : am_W X C j Q cells slots pc lv (.inl i :: .inr (.inr (30, o)) :: st) μ := am_c_kaload hG hd (am_if_s h).1 (hk (am_if_s h).2)
theorem x_saload (hG : am_G X C j cells slots sc) {o : Nat} {i : Int} {T : Option β} (hd : decode (am_mc j) pc = .ok (.baload, 1)) (h : (if 0 ≤ i ∧ i < ((am_slen o : Nat) : Int) then T else none) = some b) (hk : T = some b → am_W X C j Q cells slots (pc + 1) lv (.inl (am_schr o i.toNat) :: st) μ) : am_W X C j Q cells slots pc lv (.inl i :: .inr (.inr (32, o)) :: st) μ := am_c_saload hG hd (am_if_s h).1 (hk (am_if_s h).2)
theorem x_iastore (hG : am_G X C j cells slots sc) {o : Nat} {i x : Int} {T : Option β} (hd : decode (am_mc j) pc = .ok (.iastore, 1)) (h : (if 0 ≤ i ∧ i < ((am_len o : Nat) : Int) then T else none) = some b) (hk : T = some b → am_W X C j Q cells slots (pc + 1) lv st (am_up μ o i.toNat (x))) : am_W X C j Q cells slots pc lv (.inl x :: .inl i :: .inr (.inr (16, o)) :: st) μ := am_c_iastore hG hd (am_if_s h).1 (hk (am_if_s h).2)
theorem x_lastore (hG : am_G X C j cells slots sc) {o : Nat} {i x : Int} {T : Option β} (hd : decode (am_mc j) pc = .ok (.lastore, 1)) (h : (if 0 ≤ i ∧ i < ((am_len o : Nat) : Int) then T else none) = some b) (hk : T = some b → am_W X C j Q cells slots (pc + 1) lv st (am_up μ o i.toNat (x))) : am_W X C j Q cells slots pc lv (.inr (.inl x) :: .inl i :: .inr (.inr (17, o)) :: st) μ := am_c_lastore hG hd (am_if_s h).1 (hk (am_if_s h).2)
theorem x_castore (hG : am_G X C j cells slots sc) {o : Nat} {i x : Int} {T : Option β} (hd : decode (am_mc j) pc = .ok (.castore, 1)) (h : (if 0 ≤ i ∧ i < ((am_len o : Nat) : Int) then T else none) = some b) (hk : T = some b → am_W X C j Q cells slots (pc + 1) lv st (am_up μ o i.toNat (o_nar .char x))) : am_W X C j Q cells slots pc lv (.inl x :: .inl i :: .inr (.inr (18, o)) :: st) μ := am_c_castore hG hd (am_if_s h).1 (hk (am_if_s h).2)
theorem x_bastore (hG : am_G X C j cells slots sc) {o : Nat} {i x : Int} {T : Option β} (hd : decode (am_mc j) pc = .ok (.bastore, 1)) (h : (if 0 ≤ i ∧ i < ((am_len o : Nat) : Int) then T else none) = some b) (hk : T = some b → am_W X C j Q cells slots (pc + 1) lv st (am_up μ o i.toNat (o_nar .byte x))) : am_W X C j Q cells slots pc lv (.inl x :: .inl i :: .inr (.inr (19, o)) :: st) μ := am_c_bastore hG hd (am_if_s h).1 (hk (am_if_s h).2)
theorem x_zastore (hG : am_G X C j cells slots sc) {o : Nat} {i x : Int} {T : Option β} (hd : decode (am_mc j) pc = .ok (.bastore, 1)) (h : (if 0 ≤ i ∧ i < ((am_len o : Nat) : Int) then T else none) = some b) (hk : T = some b → am_W X C j Q cells slots (pc + 1) lv st (am_up μ o i.toNat (o_nar .boolean x))) : am_W X C j Q cells slots pc lv (.inl x :: .inl i :: .inr (.inr (20, o)) :: st) μ := am_c_zastore hG hd (am_if_s h).1 (hk (am_if_s h).2)
theorem x_idiv (hG : am_G X C j cells slots sc) {x y : Int} {T : Option β} (hd : decode (am_mc j) pc = .ok (.idiv, 1)) (h : (if y = 0 then none else T) = some b) (hk : T = some b → am_W X C j Q cells slots (pc + 1) lv (.inl (o_div x y) :: st) μ) : am_W X C j Q cells slots pc lv (.inl y :: .inl x :: st) μ := am_c_idiv hG hd (am_ifn_s h).1 (hk (am_ifn_s h).2)
theorem x_irem (hG : am_G X C j cells slots sc) {x y : Int} {T : Option β} (hd : decode (am_mc j) pc = .ok (.irem, 1)) (h : (if y = 0 then none else T) = some b) (hk : T = some b → am_W X C j Q cells slots (pc + 1) lv (.inl (o_rem x y) :: st) μ) : am_W X C j Q cells slots pc lv (.inl y :: .inl x :: st) μ := am_c_irem hG hd (am_ifn_s h).1 (hk (am_ifn_s h).2)
theorem x_ldiv (hG : am_G X C j cells slots sc) {x y : Int} {T : Option β} (hd : decode (am_mc j) pc = .ok (.ldiv, 1)) (h : (if y = 0 then none else T) = some b) (hk : T = some b → am_W X C j Q cells slots (pc + 1) lv (.inr (.inl (o_divl x y)) :: st) μ) : am_W X C j Q cells slots pc lv (.inr (.inl y) :: .inr (.inl x) :: st) μ := am_c_ldiv hG hd (am_ifn_s h).1 (hk (am_ifn_s h).2)
theorem x_lrem (hG : am_G X C j cells slots sc) {x y : Int} {T : Option β} (hd : decode (am_mc j) pc = .ok (.lrem, 1)) (h : (if y = 0 then none else T) = some b) (hk : T = some b → am_W X C j Q cells slots (pc + 1) lv (.inr (.inl (o_reml x y)) :: st) μ) : am_W X C j Q cells slots pc lv (.inr (.inl y) :: .inr (.inl x) :: st) μ := am_c_lrem hG hd (am_ifn_s h).1 (hk (am_ifn_s h).2)
theorem x_icmp_eq (hG : am_G X C j cells slots sc) {x y off : Int} {tgt : Nat} {T F : Option β} (hd : decode (am_mc j) pc = .ok (.if_icmp .eq off, 3)) (hp : (pc : Int) + off = (tgt : Int)) (h : (if x = y then T else F) = some b) (ht : T = some b → am_W X C j Q cells slots tgt lv st μ) (hf : F = some b → am_W X C j Q cells slots (pc + 3) lv st μ) : am_W X C j Q cells slots pc lv (.inl y :: .inl x :: st) μ := am_c_icmp (cd := .eq) hG hd (by omega) h (fun z => by rw [show am_to pc off = tgt from by unfold am_to; omega]; exact ht z) hf
theorem y_icmp_eq (hG : am_G X C j cells slots sc) {x y off : Int} {tgt : Nat} (hd : decode (am_mc j) pc = .ok (.if_icmp .eq off, 3)) (hp : (pc : Int) + off = (tgt : Int)) (hc : x = y) (hk : am_W X C j Q cells slots (tgt) lv st μ) : am_W X C j Q cells slots pc lv (.inl y :: .inl x :: st) μ := x_icmp_eq (b := ()) (T := some ()) (F := none) hG hd hp (by rw [if_pos hc]) (fun z => by exact hk) (fun z => by cases z)
theorem n_icmp_eq (hG : am_G X C j cells slots sc) {x y off : Int} {tgt : Nat} (hd : decode (am_mc j) pc = .ok (.if_icmp .eq off, 3)) (hp : (pc : Int) + off = (tgt : Int)) (hc : ¬ (x = y)) (hk : am_W X C j Q cells slots (pc + 3) lv st μ) : am_W X C j Q cells slots pc lv (.inl y :: .inl x :: st) μ := x_icmp_eq (b := ()) (T := none) (F := some ()) hG hd hp (by rw [if_neg hc]) (fun z => by cases z) (fun z => by exact hk)
theorem x_if_eq (hG : am_G X C j cells slots sc) {x off : Int} {tgt : Nat} {T F : Option β} (hd : decode (am_mc j) pc = .ok (.ifCond .eq off, 3)) (hp : (pc : Int) + off = (tgt : Int)) (h : (if x = 0 then T else F) = some b) (ht : T = some b → am_W X C j Q cells slots tgt lv st μ) (hf : F = some b → am_W X C j Q cells slots (pc + 3) lv st μ) : am_W X C j Q cells slots pc lv (.inl x :: st) μ := am_c_if (cd := .eq) hG hd (by omega) h (fun z => by rw [show am_to pc off = tgt from by unfold am_to; omega]; exact ht z) hf
theorem y_if_eq (hG : am_G X C j cells slots sc) {x off : Int} {tgt : Nat} (hd : decode (am_mc j) pc = .ok (.ifCond .eq off, 3)) (hp : (pc : Int) + off = (tgt : Int)) (hc : x = 0) (hk : am_W X C j Q cells slots (tgt) lv st μ) : am_W X C j Q cells slots pc lv (.inl x :: st) μ := x_if_eq (b := ()) (T := some ()) (F := none) hG hd hp (by rw [if_pos hc]) (fun z => by exact hk) (fun z => by cases z)
theorem n_if_eq (hG : am_G X C j cells slots sc) {x off : Int} {tgt : Nat} (hd : decode (am_mc j) pc = .ok (.ifCond .eq off, 3)) (hp : (pc : Int) + off = (tgt : Int)) (hc : ¬ (x = 0)) (hk : am_W X C j Q cells slots (pc + 3) lv st μ) : am_W X C j Q cells slots pc lv (.inl x :: st) μ := x_if_eq (b := ()) (T := none) (F := some ()) hG hd hp (by rw [if_neg hc]) (fun z => by cases z) (fun z => by exact hk)
theorem x_icmp_ne (hG : am_G X C j cells slots sc) {x y off : Int} {tgt : Nat} {T F : Option β} (hd : decode (am_mc j) pc = .ok (.if_icmp .ne off, 3)) (hp : (pc : Int) + off = (tgt : Int)) (h : (if x = y then F else T) = some b) (ht : T = some b → am_W X C j Q cells slots tgt lv st μ) (hf : F = some b → am_W X C j Q cells slots (pc + 3) lv st μ) : am_W X C j Q cells slots pc lv (.inl y :: .inl x :: st) μ := am_c_icmp (cd := .ne) hG hd (by omega) h (fun z => by rw [show am_to pc off = tgt from by unfold am_to; omega]; exact ht z) hf
theorem y_icmp_ne (hG : am_G X C j cells slots sc) {x y off : Int} {tgt : Nat} (hd : decode (am_mc j) pc = .ok (.if_icmp .ne off, 3)) (hp : (pc : Int) + off = (tgt : Int)) (hc : x = y) (hk : am_W X C j Q cells slots (pc + 3) lv st μ) : am_W X C j Q cells slots pc lv (.inl y :: .inl x :: st) μ := x_icmp_ne (b := ()) (T := none) (F := some ()) hG hd hp (by rw [if_pos hc]) (fun z => by cases z) (fun z => by exact hk)
theorem n_icmp_ne (hG : am_G X C j cells slots sc) {x y off : Int} {tgt : Nat} (hd : decode (am_mc j) pc = .ok (.if_icmp .ne off, 3)) (hp : (pc : Int) + off = (tgt : Int)) (hc : ¬ (x = y)) (hk : am_W X C j Q cells slots (tgt) lv st μ) : am_W X C j Q cells slots pc lv (.inl y :: .inl x :: st) μ := x_icmp_ne (b := ()) (T := some ()) (F := none) hG hd hp (by rw [if_neg hc]) (fun z => by exact hk) (fun z => by cases z)
theorem x_if_ne (hG : am_G X C j cells slots sc) {x off : Int} {tgt : Nat} {T F : Option β} (hd : decode (am_mc j) pc = .ok (.ifCond .ne off, 3)) (hp : (pc : Int) + off = (tgt : Int)) (h : (if x = 0 then F else T) = some b) (ht : T = some b → am_W X C j Q cells slots tgt lv st μ) (hf : F = some b → am_W X C j Q cells slots (pc + 3) lv st μ) : am_W X C j Q cells slots pc lv (.inl x :: st) μ := am_c_if (cd := .ne) hG hd (by omega) h (fun z => by rw [show am_to pc off = tgt from by unfold am_to; omega]; exact ht z) hf
theorem y_if_ne (hG : am_G X C j cells slots sc) {x off : Int} {tgt : Nat} (hd : decode (am_mc j) pc = .ok (.ifCond .ne off, 3)) (hp : (pc : Int) + off = (tgt : Int)) (hc : x = 0) (hk : am_W X C j Q cells slots (pc + 3) lv st μ) : am_W X C j Q cells slots pc lv (.inl x :: st) μ := x_if_ne (b := ()) (T := none) (F := some ()) hG hd hp (by rw [if_pos hc]) (fun z => by cases z) (fun z => by exact hk)
theorem n_if_ne (hG : am_G X C j cells slots sc) {x off : Int} {tgt : Nat} (hd : decode (am_mc j) pc = .ok (.ifCond .ne off, 3)) (hp : (pc : Int) + off = (tgt : Int)) (hc : ¬ (x = 0)) (hk : am_W X C j Q cells slots (tgt) lv st μ) : am_W X C j Q cells slots pc lv (.inl x :: st) μ := x_if_ne (b := ()) (T := some ()) (F := none) hG hd hp (by rw [if_neg hc]) (fun z => by exact hk) (fun z => by cases z)
theorem x_icmp_lt (hG : am_G X C j cells slots sc) {x y off : Int} {tgt : Nat} {T F : Option β} (hd : decode (am_mc j) pc = .ok (.if_icmp .lt off, 3)) (hp : (pc : Int) + off = (tgt : Int)) (h : (if x < y then T else F) = some b) (ht : T = some b → am_W X C j Q cells slots tgt lv st μ) (hf : F = some b → am_W X C j Q cells slots (pc + 3) lv st μ) : am_W X C j Q cells slots pc lv (.inl y :: .inl x :: st) μ := am_c_icmp (cd := .lt) hG hd (by omega) h (fun z => by rw [show am_to pc off = tgt from by unfold am_to; omega]; exact ht z) hf
theorem y_icmp_lt (hG : am_G X C j cells slots sc) {x y off : Int} {tgt : Nat} (hd : decode (am_mc j) pc = .ok (.if_icmp .lt off, 3)) (hp : (pc : Int) + off = (tgt : Int)) (hc : x < y) (hk : am_W X C j Q cells slots (tgt) lv st μ) : am_W X C j Q cells slots pc lv (.inl y :: .inl x :: st) μ := x_icmp_lt (b := ()) (T := some ()) (F := none) hG hd hp (by rw [if_pos hc]) (fun z => by exact hk) (fun z => by cases z)
theorem n_icmp_lt (hG : am_G X C j cells slots sc) {x y off : Int} {tgt : Nat} (hd : decode (am_mc j) pc = .ok (.if_icmp .lt off, 3)) (hp : (pc : Int) + off = (tgt : Int)) (hc : ¬ (x < y)) (hk : am_W X C j Q cells slots (pc + 3) lv st μ) : am_W X C j Q cells slots pc lv (.inl y :: .inl x :: st) μ := x_icmp_lt (b := ()) (T := none) (F := some ()) hG hd hp (by rw [if_neg hc]) (fun z => by cases z) (fun z => by exact hk)
theorem x_if_lt (hG : am_G X C j cells slots sc) {x off : Int} {tgt : Nat} {T F : Option β} (hd : decode (am_mc j) pc = .ok (.ifCond .lt off, 3)) (hp : (pc : Int) + off = (tgt : Int)) (h : (if x < 0 then T else F) = some b) (ht : T = some b → am_W X C j Q cells slots tgt lv st μ) (hf : F = some b → am_W X C j Q cells slots (pc + 3) lv st μ) : am_W X C j Q cells slots pc lv (.inl x :: st) μ := am_c_if (cd := .lt) hG hd (by omega) h (fun z => by rw [show am_to pc off = tgt from by unfold am_to; omega]; exact ht z) hf
theorem y_if_lt (hG : am_G X C j cells slots sc) {x off : Int} {tgt : Nat} (hd : decode (am_mc j) pc = .ok (.ifCond .lt off, 3)) (hp : (pc : Int) + off = (tgt : Int)) (hc : x < 0) (hk : am_W X C j Q cells slots (tgt) lv st μ) : am_W X C j Q cells slots pc lv (.inl x :: st) μ := x_if_lt (b := ()) (T := some ()) (F := none) hG hd hp (by rw [if_pos hc]) (fun z => by exact hk) (fun z => by cases z)
theorem n_if_lt (hG : am_G X C j cells slots sc) {x off : Int} {tgt : Nat} (hd : decode (am_mc j) pc = .ok (.ifCond .lt off, 3)) (hp : (pc : Int) + off = (tgt : Int)) (hc : ¬ (x < 0)) (hk : am_W X C j Q cells slots (pc + 3) lv st μ) : am_W X C j Q cells slots pc lv (.inl x :: st) μ := x_if_lt (b := ()) (T := none) (F := some ()) hG hd hp (by rw [if_neg hc]) (fun z => by cases z) (fun z => by exact hk)
theorem x_icmp_ge (hG : am_G X C j cells slots sc) {x y off : Int} {tgt : Nat} {T F : Option β} (hd : decode (am_mc j) pc = .ok (.if_icmp .ge off, 3)) (hp : (pc : Int) + off = (tgt : Int)) (h : (if x < y then F else T) = some b) (ht : T = some b → am_W X C j Q cells slots tgt lv st μ) (hf : F = some b → am_W X C j Q cells slots (pc + 3) lv st μ) : am_W X C j Q cells slots pc lv (.inl y :: .inl x :: st) μ := am_c_icmp (cd := .ge) hG hd (by omega) h (fun z => by rw [show am_to pc off = tgt from by unfold am_to; omega]; exact ht z) hf
theorem y_icmp_ge (hG : am_G X C j cells slots sc) {x y off : Int} {tgt : Nat} (hd : decode (am_mc j) pc = .ok (.if_icmp .ge off, 3)) (hp : (pc : Int) + off = (tgt : Int)) (hc : x < y) (hk : am_W X C j Q cells slots (pc + 3) lv st μ) : am_W X C j Q cells slots pc lv (.inl y :: .inl x :: st) μ := x_icmp_ge (b := ()) (T := none) (F := some ()) hG hd hp (by rw [if_pos hc]) (fun z => by cases z) (fun z => by exact hk)
theorem n_icmp_ge (hG : am_G X C j cells slots sc) {x y off : Int} {tgt : Nat} (hd : decode (am_mc j) pc = .ok (.if_icmp .ge off, 3)) (hp : (pc : Int) + off = (tgt : Int)) (hc : ¬ (x < y)) (hk : am_W X C j Q cells slots (tgt) lv st μ) : am_W X C j Q cells slots pc lv (.inl y :: .inl x :: st) μ := x_icmp_ge (b := ()) (T := some ()) (F := none) hG hd hp (by rw [if_neg hc]) (fun z => by exact hk) (fun z => by cases z)
theorem x_if_ge (hG : am_G X C j cells slots sc) {x off : Int} {tgt : Nat} {T F : Option β} (hd : decode (am_mc j) pc = .ok (.ifCond .ge off, 3)) (hp : (pc : Int) + off = (tgt : Int)) (h : (if x < 0 then F else T) = some b) (ht : T = some b → am_W X C j Q cells slots tgt lv st μ) (hf : F = some b → am_W X C j Q cells slots (pc + 3) lv st μ) : am_W X C j Q cells slots pc lv (.inl x :: st) μ := am_c_if (cd := .ge) hG hd (by omega) h (fun z => by rw [show am_to pc off = tgt from by unfold am_to; omega]; exact ht z) hf
theorem y_if_ge (hG : am_G X C j cells slots sc) {x off : Int} {tgt : Nat} (hd : decode (am_mc j) pc = .ok (.ifCond .ge off, 3)) (hp : (pc : Int) + off = (tgt : Int)) (hc : x < 0) (hk : am_W X C j Q cells slots (pc + 3) lv st μ) : am_W X C j Q cells slots pc lv (.inl x :: st) μ := x_if_ge (b := ()) (T := none) (F := some ()) hG hd hp (by rw [if_pos hc]) (fun z => by cases z) (fun z => by exact hk)
theorem n_if_ge (hG : am_G X C j cells slots sc) {x off : Int} {tgt : Nat} (hd : decode (am_mc j) pc = .ok (.ifCond .ge off, 3)) (hp : (pc : Int) + off = (tgt : Int)) (hc : ¬ (x < 0)) (hk : am_W X C j Q cells slots (tgt) lv st μ) : am_W X C j Q cells slots pc lv (.inl x :: st) μ := x_if_ge (b := ()) (T := some ()) (F := none) hG hd hp (by rw [if_neg hc]) (fun z => by exact hk) (fun z => by cases z)
theorem x_icmp_gt (hG : am_G X C j cells slots sc) {x y off : Int} {tgt : Nat} {T F : Option β} (hd : decode (am_mc j) pc = .ok (.if_icmp .gt off, 3)) (hp : (pc : Int) + off = (tgt : Int)) (h : (if y < x then T else F) = some b) (ht : T = some b → am_W X C j Q cells slots tgt lv st μ) (hf : F = some b → am_W X C j Q cells slots (pc + 3) lv st μ) : am_W X C j Q cells slots pc lv (.inl y :: .inl x :: st) μ := am_c_icmp (cd := .gt) hG hd (by omega) h (fun z => by rw [show am_to pc off = tgt from by unfold am_to; omega]; exact ht z) hf
theorem y_icmp_gt (hG : am_G X C j cells slots sc) {x y off : Int} {tgt : Nat} (hd : decode (am_mc j) pc = .ok (.if_icmp .gt off, 3)) (hp : (pc : Int) + off = (tgt : Int)) (hc : y < x) (hk : am_W X C j Q cells slots (tgt) lv st μ) : am_W X C j Q cells slots pc lv (.inl y :: .inl x :: st) μ := x_icmp_gt (b := ()) (T := some ()) (F := none) hG hd hp (by rw [if_pos hc]) (fun z => by exact hk) (fun z => by cases z)
theorem n_icmp_gt (hG : am_G X C j cells slots sc) {x y off : Int} {tgt : Nat} (hd : decode (am_mc j) pc = .ok (.if_icmp .gt off, 3)) (hp : (pc : Int) + off = (tgt : Int)) (hc : ¬ (y < x)) (hk : am_W X C j Q cells slots (pc + 3) lv st μ) : am_W X C j Q cells slots pc lv (.inl y :: .inl x :: st) μ := x_icmp_gt (b := ()) (T := none) (F := some ()) hG hd hp (by rw [if_neg hc]) (fun z => by cases z) (fun z => by exact hk)
theorem x_if_gt (hG : am_G X C j cells slots sc) {x off : Int} {tgt : Nat} {T F : Option β} (hd : decode (am_mc j) pc = .ok (.ifCond .gt off, 3)) (hp : (pc : Int) + off = (tgt : Int)) (h : (if 0 < x then T else F) = some b) (ht : T = some b → am_W X C j Q cells slots tgt lv st μ) (hf : F = some b → am_W X C j Q cells slots (pc + 3) lv st μ) : am_W X C j Q cells slots pc lv (.inl x :: st) μ := am_c_if (cd := .gt) hG hd (by omega) h (fun z => by rw [show am_to pc off = tgt from by unfold am_to; omega]; exact ht z) hf
theorem y_if_gt (hG : am_G X C j cells slots sc) {x off : Int} {tgt : Nat} (hd : decode (am_mc j) pc = .ok (.ifCond .gt off, 3)) (hp : (pc : Int) + off = (tgt : Int)) (hc : 0 < x) (hk : am_W X C j Q cells slots (tgt) lv st μ) : am_W X C j Q cells slots pc lv (.inl x :: st) μ := x_if_gt (b := ()) (T := some ()) (F := none) hG hd hp (by rw [if_pos hc]) (fun z => by exact hk) (fun z => by cases z)
theorem n_if_gt (hG : am_G X C j cells slots sc) {x off : Int} {tgt : Nat} (hd : decode (am_mc j) pc = .ok (.ifCond .gt off, 3)) (hp : (pc : Int) + off = (tgt : Int)) (hc : ¬ (0 < x)) (hk : am_W X C j Q cells slots (pc + 3) lv st μ) : am_W X C j Q cells slots pc lv (.inl x :: st) μ := x_if_gt (b := ()) (T := none) (F := some ()) hG hd hp (by rw [if_neg hc]) (fun z => by cases z) (fun z => by exact hk)
theorem x_icmp_le (hG : am_G X C j cells slots sc) {x y off : Int} {tgt : Nat} {T F : Option β} (hd : decode (am_mc j) pc = .ok (.if_icmp .le off, 3)) (hp : (pc : Int) + off = (tgt : Int)) (h : (if y < x then F else T) = some b) (ht : T = some b → am_W X C j Q cells slots tgt lv st μ) (hf : F = some b → am_W X C j Q cells slots (pc + 3) lv st μ) : am_W X C j Q cells slots pc lv (.inl y :: .inl x :: st) μ := am_c_icmp (cd := .le) hG hd (by omega) h (fun z => by rw [show am_to pc off = tgt from by unfold am_to; omega]; exact ht z) hf
theorem y_icmp_le (hG : am_G X C j cells slots sc) {x y off : Int} {tgt : Nat} (hd : decode (am_mc j) pc = .ok (.if_icmp .le off, 3)) (hp : (pc : Int) + off = (tgt : Int)) (hc : y < x) (hk : am_W X C j Q cells slots (pc + 3) lv st μ) : am_W X C j Q cells slots pc lv (.inl y :: .inl x :: st) μ := x_icmp_le (b := ()) (T := none) (F := some ()) hG hd hp (by rw [if_pos hc]) (fun z => by cases z) (fun z => by exact hk)
theorem n_icmp_le (hG : am_G X C j cells slots sc) {x y off : Int} {tgt : Nat} (hd : decode (am_mc j) pc = .ok (.if_icmp .le off, 3)) (hp : (pc : Int) + off = (tgt : Int)) (hc : ¬ (y < x)) (hk : am_W X C j Q cells slots (tgt) lv st μ) : am_W X C j Q cells slots pc lv (.inl y :: .inl x :: st) μ := x_icmp_le (b := ()) (T := some ()) (F := none) hG hd hp (by rw [if_neg hc]) (fun z => by exact hk) (fun z => by cases z)
theorem x_if_le (hG : am_G X C j cells slots sc) {x off : Int} {tgt : Nat} {T F : Option β} (hd : decode (am_mc j) pc = .ok (.ifCond .le off, 3)) (hp : (pc : Int) + off = (tgt : Int)) (h : (if 0 < x then F else T) = some b) (ht : T = some b → am_W X C j Q cells slots tgt lv st μ) (hf : F = some b → am_W X C j Q cells slots (pc + 3) lv st μ) : am_W X C j Q cells slots pc lv (.inl x :: st) μ := am_c_if (cd := .le) hG hd (by omega) h (fun z => by rw [show am_to pc off = tgt from by unfold am_to; omega]; exact ht z) hf
theorem y_if_le (hG : am_G X C j cells slots sc) {x off : Int} {tgt : Nat} (hd : decode (am_mc j) pc = .ok (.ifCond .le off, 3)) (hp : (pc : Int) + off = (tgt : Int)) (hc : 0 < x) (hk : am_W X C j Q cells slots (pc + 3) lv st μ) : am_W X C j Q cells slots pc lv (.inl x :: st) μ := x_if_le (b := ()) (T := none) (F := some ()) hG hd hp (by rw [if_pos hc]) (fun z => by cases z) (fun z => by exact hk)
theorem n_if_le (hG : am_G X C j cells slots sc) {x off : Int} {tgt : Nat} (hd : decode (am_mc j) pc = .ok (.ifCond .le off, 3)) (hp : (pc : Int) + off = (tgt : Int)) (hc : ¬ (0 < x)) (hk : am_W X C j Q cells slots (tgt) lv st μ) : am_W X C j Q cells slots pc lv (.inl x :: st) μ := x_if_le (b := ()) (T := some ()) (F := none) hG hd hp (by rw [if_neg hc]) (fun z => by exact hk) (fun z => by cases z)
theorem x_goto (hG : am_G X C j cells slots sc) {off : Int} {tgt : Nat} (hd : decode (am_mc j) pc = .ok (.goto off, 3)) (hp : (pc : Int) + off = (tgt : Int)) (hk : am_W X C j Q cells slots tgt lv st μ) : am_W X C j Q cells slots pc lv st μ := am_c_goto hG hd (by omega) (by rw [show am_to pc off = tgt from by unfold am_to; omega]; exact hk)
theorem x_put_i (hG : am_G X C j cells slots sc) {x t o kk rt : Nat} {v : Int} (hd : decode (am_mc j) pc = .ok (.putfield x, 3)) {own : Nat} (ho : am_mo j = own) (hq : tb_f own x = some (t, kk, 0, rt)) (hfn : am_fn t kk = false) (hk : am_W X C j Q cells slots (pc + 3) lv st (am_up μ o kk v)) : am_W X C j Q cells slots pc lv (.inl v :: .inr (.inr (t, o)) :: st) μ := am_c_putfield_i hG hd (by rw [ho]; exact hq) hfn rfl rfl hk
theorem x_put_l (hG : am_G X C j cells slots sc) {x t o kk rt : Nat} {v : Int} (hd : decode (am_mc j) pc = .ok (.putfield x, 3)) {own : Nat} (ho : am_mo j = own) (hq : tb_f own x = some (t, kk, 1, rt)) (hfn : am_fn t kk = false) (hk : am_W X C j Q cells slots (pc + 3) lv st (am_up μ o kk v)) : am_W X C j Q cells slots pc lv (.inr (.inl v) :: .inr (.inr (t, o)) :: st) μ := am_c_putfield_l hG hd (by rw [ho]; exact hq) hfn rfl rfl hk
theorem x_put_z (hG : am_G X C j cells slots sc) {x t o kk rt : Nat} {v : Int} {T : Option β} (hd : decode (am_mc j) pc = .ok (.putfield x, 3)) {own : Nat} (ho : am_mo j = own) (hq : tb_f own x = some (t, kk, 2, rt)) (hfn : am_fn t kk = false) (h : (if v = 0 ∨ v = 1 then T else none) = some b) (hk : T = some b → am_W X C j Q cells slots (pc + 3) lv st (am_up μ o kk v)) : am_W X C j Q cells slots pc lv (.inl v :: .inr (.inr (t, o)) :: st) μ := am_c_putfield_z hG hd (by rw [ho]; exact hq) hfn rfl rfl (am_if_s h).1 (hk (am_if_s h).2)
theorem x_put_0 (hG : am_G X C j cells slots sc) {x t o kk rt : Nat} (hd : decode (am_mc j) pc = .ok (.putfield x, 3)) {own : Nat} (ho : am_mo j = own) (hq : tb_f own x = some (t, kk, 2, rt)) (hfn : am_fn t kk = false) (hk : am_W X C j Q cells slots (pc + 3) lv st (am_up μ o kk 0)) : am_W X C j Q cells slots pc lv (.inl 0 :: .inr (.inr (t, o)) :: st) μ := am_c_putfield_z hG hd (by rw [ho]; exact hq) hfn rfl rfl (Or.inl rfl) hk
theorem x_put_1 (hG : am_G X C j cells slots sc) {x t o kk rt : Nat} (hd : decode (am_mc j) pc = .ok (.putfield x, 3)) {own : Nat} (ho : am_mo j = own) (hq : tb_f own x = some (t, kk, 2, rt)) (hfn : am_fn t kk = false) (hk : am_W X C j Q cells slots (pc + 3) lv st (am_up μ o kk 1)) : am_W X C j Q cells slots pc lv (.inl 1 :: .inr (.inr (t, o)) :: st) μ := am_c_putfield_z hG hd (by rw [ho]; exact hq) hfn rfl rfl (Or.inr rfl) hk
theorem x_get_n (hG : am_G X C j cells slots sc) {x t o kk ty rt : Nat} {v : am_V} (hd : decode (am_mc j) pc = .ok (.getfield x, 3)) {own : Nat} (ho : am_mo j = own) (hq : tb_f own x = some (t, kk, ty, rt)) (hv : am_rd ty rt μ o kk = v) (hk : am_W X C j Q cells slots (pc + 3) lv (v :: st) μ) : am_W X C j Q cells slots pc lv (.inr (.inr (t, o)) :: st) μ := am_c_getfield hG hd (by rw [ho]; exact hq) rfl (by rw [hv]; exact hk)
theorem x_static_v (hG : am_G X C j cells slots sc) {x jj n rt : Nat} {f : am_F} {as rest : List am_V} {T : Int × am_M → Option β} {res : Option (Int × am_M)} (hd : decode (am_mc j) pc = .ok (.invokestatic x, 3)) {own : Nat} (ho : am_mo j = own) (hq : tb_m own x = some (jj, n, 0, rt)) (hj2 : jj < am_nm) (hdep : am_md jj + 1 ≤ am_md j ∧ 8 + (am_ml jj + 11) + am_lr jj ≤ am_lr j) (ha : (st.take n).reverse = as) (hr : st.drop n = rest) (hn : n ≤ st.length) (hcat : (rest.map am_cat).sum ≤ 8) (hs : am_rcg jj = 0) (hSd : am_Sd jj f) (hres : f (as) μ = res) (h : am_op res T = some b) (hk : ∀ z : Int × am_M, T z = some b → am_W X C j Q cells slots (pc + 3) lv (rest) z.2) : am_W X C j Q cells slots pc lv st μ := by
  obtain ⟨z, h1, h2⟩ := am_op_s h
  have hz := hk z h2
  subst ho
  subst hr
  rw [← hres, ← ha] at h1
  exact am_c_invokestatic (q := (jj, n, 0, rt)) hG hj2 hd hq hdep hs hn hcat hSd h1 hz
theorem x_virtual_v (hG : am_G X C j cells slots sc) {x jj n rt : Nat} {f : am_F} {rest : List am_V} {t o : Nat} {as2 : List am_V} {T : Int × am_M → Option β} {res : Option (Int × am_M)} (hd : decode (am_mc j) pc = .ok (.invokevirtual x, 3)) {own : Nat} (ho : am_mo j = own) (hq : tb_m own x = some (jj, n, 0, rt)) (hj2 : jj < am_nm) (hdep : am_md jj + 1 ≤ am_md j ∧ 8 + (am_ml jj + 11) + am_lr jj ≤ am_lr j) (ha : (st.take n).reverse = .inr (.inr (t, o)) :: as2) (hr : st.drop n = rest) (hn : n ≤ st.length) (hcat : (rest.map am_cat).sum ≤ 8) (hg : am_rcg jj = t + 1) (hSd : am_Sd jj f) (hres : f (.inr (.inr (t, o)) :: as2) μ = res) (h : am_op res T = some b) (hk : ∀ z : Int × am_M, T z = some b → am_W X C j Q cells slots (pc + 3) lv (rest) z.2) : am_W X C j Q cells slots pc lv st μ := by
  obtain ⟨z, h1, h2⟩ := am_op_s h
  have hz := hk z h2
  subst ho
  subst hr
  rw [← hres, ← ha] at h1
  exact am_c_invokevirtual (q := (jj, n, 0, rt)) hG hj2 hd hq hdep (by show am_rcg jj ≠ 0; omega) hn hcat (by show am_rcv (am_rcg jj) (st.take n).reverse = true; rw [ha, hg]; exact beq_self_eq_true t) hSd h1 hz
theorem x_static_i (hG : am_G X C j cells slots sc) {x jj n rt : Nat} {f : am_F} {as rest : List am_V} {T : Int × am_M → Option β} {res : Option (Int × am_M)} (hd : decode (am_mc j) pc = .ok (.invokestatic x, 3)) {own : Nat} (ho : am_mo j = own) (hq : tb_m own x = some (jj, n, 1, rt)) (hj2 : jj < am_nm) (hdep : am_md jj + 1 ≤ am_md j ∧ 8 + (am_ml jj + 11) + am_lr jj ≤ am_lr j) (ha : (st.take n).reverse = as) (hr : st.drop n = rest) (hn : n ≤ st.length) (hcat : (rest.map am_cat).sum ≤ 8) (hs : am_rcg jj = 0) (hSd : am_Sd jj f) (hres : f (as) μ = res) (h : am_op res T = some b) (hk : ∀ z : Int × am_M, T z = some b → am_W X C j Q cells slots (pc + 3) lv (.inl z.1 :: rest) z.2) : am_W X C j Q cells slots pc lv st μ := by
  obtain ⟨z, h1, h2⟩ := am_op_s h
  have hz := hk z h2
  subst ho
  subst hr
  rw [← hres, ← ha] at h1
  exact am_c_invokestatic (q := (jj, n, 1, rt)) hG hj2 hd hq hdep hs hn hcat hSd h1 hz
theorem x_virtual_i (hG : am_G X C j cells slots sc) {x jj n rt : Nat} {f : am_F} {rest : List am_V} {t o : Nat} {as2 : List am_V} {T : Int × am_M → Option β} {res : Option (Int × am_M)} (hd : decode (am_mc j) pc = .ok (.invokevirtual x, 3)) {own : Nat} (ho : am_mo j = own) (hq : tb_m own x = some (jj, n, 1, rt)) (hj2 : jj < am_nm) (hdep : am_md jj + 1 ≤ am_md j ∧ 8 + (am_ml jj + 11) + am_lr jj ≤ am_lr j) (ha : (st.take n).reverse = .inr (.inr (t, o)) :: as2) (hr : st.drop n = rest) (hn : n ≤ st.length) (hcat : (rest.map am_cat).sum ≤ 8) (hg : am_rcg jj = t + 1) (hSd : am_Sd jj f) (hres : f (.inr (.inr (t, o)) :: as2) μ = res) (h : am_op res T = some b) (hk : ∀ z : Int × am_M, T z = some b → am_W X C j Q cells slots (pc + 3) lv (.inl z.1 :: rest) z.2) : am_W X C j Q cells slots pc lv st μ := by
  obtain ⟨z, h1, h2⟩ := am_op_s h
  have hz := hk z h2
  subst ho
  subst hr
  rw [← hres, ← ha] at h1
  exact am_c_invokevirtual (q := (jj, n, 1, rt)) hG hj2 hd hq hdep (by show am_rcg jj ≠ 0; omega) hn hcat (by show am_rcv (am_rcg jj) (st.take n).reverse = true; rw [ha, hg]; exact beq_self_eq_true t) hSd h1 hz
theorem x_static_l (hG : am_G X C j cells slots sc) {x jj n rt : Nat} {f : am_F} {as rest : List am_V} {T : Int × am_M → Option β} {res : Option (Int × am_M)} (hd : decode (am_mc j) pc = .ok (.invokestatic x, 3)) {own : Nat} (ho : am_mo j = own) (hq : tb_m own x = some (jj, n, 2, rt)) (hj2 : jj < am_nm) (hdep : am_md jj + 1 ≤ am_md j ∧ 8 + (am_ml jj + 11) + am_lr jj ≤ am_lr j) (ha : (st.take n).reverse = as) (hr : st.drop n = rest) (hn : n ≤ st.length) (hcat : (rest.map am_cat).sum ≤ 8) (hs : am_rcg jj = 0) (hSd : am_Sd jj f) (hres : f (as) μ = res) (h : am_op res T = some b) (hk : ∀ z : Int × am_M, T z = some b → am_W X C j Q cells slots (pc + 3) lv (.inr (.inl z.1) :: rest) z.2) : am_W X C j Q cells slots pc lv st μ := by
  obtain ⟨z, h1, h2⟩ := am_op_s h
  have hz := hk z h2
  subst ho
  subst hr
  rw [← hres, ← ha] at h1
  exact am_c_invokestatic (q := (jj, n, 2, rt)) hG hj2 hd hq hdep hs hn hcat hSd h1 hz
theorem x_virtual_l (hG : am_G X C j cells slots sc) {x jj n rt : Nat} {f : am_F} {rest : List am_V} {t o : Nat} {as2 : List am_V} {T : Int × am_M → Option β} {res : Option (Int × am_M)} (hd : decode (am_mc j) pc = .ok (.invokevirtual x, 3)) {own : Nat} (ho : am_mo j = own) (hq : tb_m own x = some (jj, n, 2, rt)) (hj2 : jj < am_nm) (hdep : am_md jj + 1 ≤ am_md j ∧ 8 + (am_ml jj + 11) + am_lr jj ≤ am_lr j) (ha : (st.take n).reverse = .inr (.inr (t, o)) :: as2) (hr : st.drop n = rest) (hn : n ≤ st.length) (hcat : (rest.map am_cat).sum ≤ 8) (hg : am_rcg jj = t + 1) (hSd : am_Sd jj f) (hres : f (.inr (.inr (t, o)) :: as2) μ = res) (h : am_op res T = some b) (hk : ∀ z : Int × am_M, T z = some b → am_W X C j Q cells slots (pc + 3) lv (.inr (.inl z.1) :: rest) z.2) : am_W X C j Q cells slots pc lv st μ := by
  obtain ⟨z, h1, h2⟩ := am_op_s h
  have hz := hk z h2
  subst ho
  subst hr
  rw [← hres, ← ha] at h1
  exact am_c_invokevirtual (q := (jj, n, 2, rt)) hG hj2 hd hq hdep (by show am_rcg jj ≠ 0; omega) hn hcat (by show am_rcv (am_rcg jj) (st.take n).reverse = true; rw [ha, hg]; exact beq_self_eq_true t) hSd h1 hz
theorem x_static_r (hG : am_G X C j cells slots sc) {x jj n rt : Nat} {f : am_F} {as rest : List am_V} {T : Int × am_M → Option β} {res : Option (Int × am_M)} (hd : decode (am_mc j) pc = .ok (.invokestatic x, 3)) {own : Nat} (ho : am_mo j = own) (hq : tb_m own x = some (jj, n, 3, rt)) (hj2 : jj < am_nm) (hdep : am_md jj + 1 ≤ am_md j ∧ 8 + (am_ml jj + 11) + am_lr jj ≤ am_lr j) (ha : (st.take n).reverse = as) (hr : st.drop n = rest) (hn : n ≤ st.length) (hcat : (rest.map am_cat).sum ≤ 8) (hs : am_rcg jj = 0) (hSd : am_Sd jj f) (hres : f (as) μ = res) (h : am_op res T = some b) (hk : ∀ z : Int × am_M, T z = some b → am_W X C j Q cells slots (pc + 3) lv (.inr (.inr (rt, z.1.toNat)) :: rest) z.2) : am_W X C j Q cells slots pc lv st μ := by
  obtain ⟨z, h1, h2⟩ := am_op_s h
  have hz := hk z h2
  subst ho
  subst hr
  rw [← hres, ← ha] at h1
  exact am_c_invokestatic (q := (jj, n, 3, rt)) hG hj2 hd hq hdep hs hn hcat hSd h1 hz
theorem x_virtual_r (hG : am_G X C j cells slots sc) {x jj n rt : Nat} {f : am_F} {rest : List am_V} {t o : Nat} {as2 : List am_V} {T : Int × am_M → Option β} {res : Option (Int × am_M)} (hd : decode (am_mc j) pc = .ok (.invokevirtual x, 3)) {own : Nat} (ho : am_mo j = own) (hq : tb_m own x = some (jj, n, 3, rt)) (hj2 : jj < am_nm) (hdep : am_md jj + 1 ≤ am_md j ∧ 8 + (am_ml jj + 11) + am_lr jj ≤ am_lr j) (ha : (st.take n).reverse = .inr (.inr (t, o)) :: as2) (hr : st.drop n = rest) (hn : n ≤ st.length) (hcat : (rest.map am_cat).sum ≤ 8) (hg : am_rcg jj = t + 1) (hSd : am_Sd jj f) (hres : f (.inr (.inr (t, o)) :: as2) μ = res) (h : am_op res T = some b) (hk : ∀ z : Int × am_M, T z = some b → am_W X C j Q cells slots (pc + 3) lv (.inr (.inr (rt, z.1.toNat)) :: rest) z.2) : am_W X C j Q cells slots pc lv st μ := by
  obtain ⟨z, h1, h2⟩ := am_op_s h
  have hz := hk z h2
  subst ho
  subst hr
  rw [← hres, ← ha] at h1
  exact am_c_invokevirtual (q := (jj, n, 3, rt)) hG hj2 hd hq hdep (by show am_rcg jj ≠ 0; omega) hn hcat (by show am_rcv (am_rcg jj) (st.take n).reverse = true; rw [ha, hg]; exact beq_self_eq_true t) hSd h1 hz
theorem am_q0 {x y : Int} {μ' : am_M} (h : some (x, μ) = some (y, μ')) : am_E X C j y μ' = am_E X C j x μ := by
  cases h
  rfl
theorem xq_iret (hG : am_G X C j 0 0 sc) (hj : j < 235) (hr : match X with | (_, _, _, _, _, _, _, _, meth, _) => meth.sig.returnType = am_mr j ∧ meth.locks = false) {x : Int} (hd : decode (am_mc j) pc = .ok (.ireturn, 1)) (ht : am_mr j = some .int) (hQ : Q = am_E X C j x μ) : am_W X C j Q 0 0 pc lv [.inl x] μ := by
  subst hQ
  exact am_c_ireturn hG hj hr hd ht rfl (Or.inl rfl)
theorem xq_zret (hG : am_G X C j 0 0 sc) (hj : j < 235) (hr : match X with | (_, _, _, _, _, _, _, _, meth, _) => meth.sig.returnType = am_mr j ∧ meth.locks = false) {x : Int} {T : Option β} (hd : decode (am_mc j) pc = .ok (.ireturn, 1)) (ht : am_mr j = some .boolean) (h : (if x = 0 ∨ x = 1 then T else none) = some b) (hQ : T = some b → Q = am_E X C j x μ) : am_W X C j Q 0 0 pc lv [.inl x] μ := by
  obtain ⟨h1, h2⟩ := am_if_s h
  rw [hQ h2]
  exact am_c_ireturn hG hj hr hd ht (by rcases h1 with rfl | rfl <;> rfl) (Or.inr (Or.inl rfl))
theorem xq_zret0 (hG : am_G X C j 0 0 sc) (hj : j < 235) (hr : match X with | (_, _, _, _, _, _, _, _, meth, _) => meth.sig.returnType = am_mr j ∧ meth.locks = false) (hd : decode (am_mc j) pc = .ok (.ireturn, 1)) (ht : am_mr j = some .boolean) (hQ : Q = am_E X C j 0 μ) : am_W X C j Q 0 0 pc lv [.inl 0] μ := by
  subst hQ
  exact am_c_ireturn hG hj hr hd ht rfl (Or.inr (Or.inl rfl))
theorem xq_zret1 (hG : am_G X C j 0 0 sc) (hj : j < 235) (hr : match X with | (_, _, _, _, _, _, _, _, meth, _) => meth.sig.returnType = am_mr j ∧ meth.locks = false) (hd : decode (am_mc j) pc = .ok (.ireturn, 1)) (ht : am_mr j = some .boolean) (hQ : Q = am_E X C j 1 μ) : am_W X C j Q 0 0 pc lv [.inl 1] μ := by
  subst hQ
  exact am_c_ireturn hG hj hr hd ht rfl (Or.inr (Or.inl rfl))
theorem xq_cret (hG : am_G X C j 0 0 sc) (hj : j < 235) (hr : match X with | (_, _, _, _, _, _, _, _, meth, _) => meth.sig.returnType = am_mr j ∧ meth.locks = false) {x : Int} {T : Option β} (hd : decode (am_mc j) pc = .ok (.ireturn, 1)) (ht : am_mr j = some .char) (h : (if (0 : Int) ≤ x ∧ x ≤ 65535 then T else none) = some b) (hQ : T = some b → Q = am_E X C j x μ) : am_W X C j Q 0 0 pc lv [.inl x] μ := by
  obtain ⟨h1, t, h2, h3, h4⟩ := am_rt_s (ty := some .char) (x := x) (b := T) h
  cases h2
  rw [hQ h1]
  exact am_c_ireturn hG hj hr hd ht h3 h4
theorem xq_cret0 (hG : am_G X C j 0 0 sc) (hj : j < 235) (hr : match X with | (_, _, _, _, _, _, _, _, meth, _) => meth.sig.returnType = am_mr j ∧ meth.locks = false) (hd : decode (am_mc j) pc = .ok (.ireturn, 1)) (ht : am_mr j = some .char) (hQ : Q = am_E X C j 0 μ) : am_W X C j Q 0 0 pc lv [.inl 0] μ := by
  subst hQ
  exact am_c_ireturn hG hj hr hd ht rfl (Or.inr (Or.inr (Or.inl rfl)))
theorem xq_bret (hG : am_G X C j 0 0 sc) (hj : j < 235) (hr : match X with | (_, _, _, _, _, _, _, _, meth, _) => meth.sig.returnType = am_mr j ∧ meth.locks = false) {x : Int} {T : Option β} (hd : decode (am_mc j) pc = .ok (.ireturn, 1)) (ht : am_mr j = some .byte) (h : (if (-128 : Int) ≤ x ∧ x ≤ 127 then T else none) = some b) (hQ : T = some b → Q = am_E X C j x μ) : am_W X C j Q 0 0 pc lv [.inl x] μ := by
  obtain ⟨h1, t, h2, h3, h4⟩ := am_rt_s (ty := some .byte) (x := x) (b := T) h
  cases h2
  rw [hQ h1]
  exact am_c_ireturn hG hj hr hd ht h3 h4
theorem xq_lret (hG : am_G X C j 0 0 sc) (hj : j < 235) (hr : match X with | (_, _, _, _, _, _, _, _, meth, _) => meth.sig.returnType = am_mr j ∧ meth.locks = false) {x : Int} (hd : decode (am_mc j) pc = .ok (.lreturn, 1)) (e1 : am_rk j = 2) (hQ : Q = am_E X C j x μ) : am_W X C j Q 0 0 pc lv [.inr (.inl x)] μ := by
  subst hQ
  exact am_c_lreturn hG hj hr hd e1
theorem xq_vret (hG : am_G X C j 0 0 sc) (hj : j < 235) (hr : match X with | (_, _, _, _, _, _, _, _, meth, _) => meth.sig.returnType = am_mr j ∧ meth.locks = false) (hd : decode (am_mc j) pc = .ok (.return_, 1)) (e1 : am_rk j = 0) (hQ : Q = am_E X C j 0 μ) : am_W X C j Q 0 0 pc lv [] μ := by
  subst hQ
  exact am_c_vreturn hG hj hr hd e1
theorem xq_aret (hG : am_G X C j 0 0 sc) (hj : j < 235) (hr : match X with | (_, _, _, _, _, _, _, _, meth, _) => meth.sig.returnType = am_mr j ∧ meth.locks = false) {o t : Nat} (hd : decode (am_mc j) pc = .ok (.areturn, 1)) (e1 : am_rk j = 3) (e2 : am_rtg j = t) (hQ : Q = am_E X C j (o : Int) μ) : am_W X C j Q 0 0 pc lv [.inr (.inr (t, o))] μ := by
  subst hQ
  subst e2
  exact am_c_areturn hG hj hr hd e1
/-- a switch of four -/
theorem x_tsw4 {t0 t1 t2 t3 t4 k : Nat} {l : List (Nat × Instr)} {x d a0 a1 a2 a3 : Int} {T0 T1 T2 T3 T4 : Option β} (hG : am_G X C j cells slots sc) (hj : j < 235) (h1 : j ≠ 57 ∧ j ≠ 232 ∧ j ≠ 233) (hl : tb_cd j = l) (hi : l[k]? = some (pc, .tableswitch d 0 3 #[a0, a1, a2, a3])) (p0 : (pc : Int) + a0 = (t0 : Int)) (p1 : (pc : Int) + a1 = (t1 : Int)) (p2 : (pc : Int) + a2 = (t2 : Int)) (p3 : (pc : Int) + a3 = (t3 : Int)) (p4 : (pc : Int) + d = (t4 : Int)) (h : (if x = 0 then T0 else (if x = 1 then T1 else (if x = 2 then T2 else (if x = 3 then T3 else T4)))) = some b) (k0 : T0 = some b → am_W X C j Q cells slots t0 lv st μ) (k1 : T1 = some b → am_W X C j Q cells slots t1 lv st μ) (k2 : T2 = some b → am_W X C j Q cells slots t2 lv st μ) (k3 : T3 = some b → am_W X C j Q cells slots t3 lv st μ) (k4 : T4 = some b → am_W X C j Q cells slots t4 lv st μ) : am_W X C j Q cells slots pc lv (.inl x :: st) μ := by
  have z := List.all_eq_true.mp (ck_d_all hj h1) (pc, .tableswitch d 0 3 #[a0, a1, a2, a3]) (by rw [hl]; exact List.mem_of_getElem? hi)
  unfold ck_i at z
  simp only [Bool.and_eq_true] at z
  obtain ⟨⟨z1, z2⟩, z3⟩ := z
  split at z1
  · rename_i i2 len e
    simp only [Bool.and_eq_true, decide_eq_true_eq] at z1
    obtain ⟨rfl, -⟩ := z1
    have go : ∀ (i : Nat) (off : Int) (t : Nat), (pc : Int) + off = (t : Int) → am_sw x (fun o => if o = off then some () else none) d 0 [a0, a1, a2, a3] = some () → am_W X C j Q cells slots t lv st μ → am_W X C j Q cells slots pc lv (.inl x :: st) μ := by
      intro i off t hp hs hk
      refine am_c_tableswitch hG e rfl (by omega) (fun o ho => ?_) hs (fun o ho => ?_)
      · simp at ho
        omega
      · have eo := (am_if_s ho).1
        subst eo
        rw [show am_to pc o = t from by unfold am_to; omega]
        exact hk
    by_cases e0 : x = 0
    · rw [if_pos e0] at h
      exact go 0 a0 t0 p0 (by subst e0; simp [am_sw]) (k0 h)
    rw [if_neg e0] at h
    by_cases e1 : x = 1
    · rw [if_pos e1] at h
      exact go 1 a1 t1 p1 (by subst e1; simp [am_sw]) (k1 h)
    rw [if_neg e1] at h
    by_cases e2 : x = 2
    · rw [if_pos e2] at h
      exact go 2 a2 t2 p2 (by subst e2; simp [am_sw]) (k2 h)
    rw [if_neg e2] at h
    by_cases e3 : x = 3
    · rw [if_pos e3] at h
      exact go 3 a3 t3 p3 (by subst e3; simp [am_sw]) (k3 h)
    rw [if_neg e3] at h
    exact go 4 d t4 p4 (by simp [am_sw, e0, e1, e2, e3]) (k4 h)
  · cases z1
/-- fewer locals suffice -/
theorem am_lvw {lv2 : am_L} (is : List Nat) (hs : is.map (fun i => lv[i]?) = lv2.map some) (hk : am_W X C j Q cells slots pc lv2 st μ) : am_W X C j Q cells slots pc lv st μ := by
  have hsub : ∀ q ∈ lv2, q ∈ lv := by
    intro q hq
    have h1 : some q ∈ lv2.map some := List.mem_map.mpr ⟨q, hq, rfl⟩
    rw [← hs] at h1
    obtain ⟨i, -, hi⟩ := List.mem_map.mp h1
    exact List.mem_of_getElem? hi
  obtain ⟨p, l, e, R, s, m, args, below, meth, c⟩ := X
  intro o1 o2 o3 H locs ls hP hD hS hl
  refine hk (fun q hq => o1 q (hsub q hq)) o2 o3 H locs ls hP hD hS ⟨hl.1, hl.2.1, fun q hq => ?_⟩
  obtain ⟨z, hz, rfl⟩ := List.mem_map.mp hq
  exact hl.2.2 _ (List.mem_map.mpr ⟨z, hsub z hz, rfl⟩)
end X
def am_fuel : Nat := 10000
def am_lp {α β γ : Type} (s : α ⊕ β) (f : α → Option γ) (g : β → Option γ) : Option γ := match s with
  | .inl a => f a
  | .inr b => g b
theorem x_lp {α γ : Type} {P : Prop} {x : Option α} {F : α → Option γ} {b : γ} (h : am_op x F = some b) (k : ∀ r, x = some r → F r = some b → P) : P := by
  obtain ⟨r, h1, h2⟩ := am_op_s h
  exact k r h1 h2
theorem am_q1 {α β γ : Type} {P : Prop} {s : α ⊕ β} {f : α → Option γ} {g : β → Option γ} {b : γ} {a : α} (e : s = .inl a) (h : am_lp s f g = some b) (k : f a = some b → P) : P := by
  subst e
  exact k h
theorem am_q2 {α β γ : Type} {P : Prop} {s : α ⊕ β} {f : α → Option γ} {g : β → Option γ} {b : γ} {a : β} (e : s = .inr a) (h : am_lp s f g = some b) (k : g a = some b → P) : P := by
  subst e
  exact k h
