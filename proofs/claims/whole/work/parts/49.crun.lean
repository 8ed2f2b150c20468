def zc_len : Instr → Nat
  | .bipush _ => 2
  | .sipush _ => 3
  | .iinc _ _ => 3
  | .goto _ => 3
  | .if_icmp _ _ => 3
  | .getfield _ => 3
  | .putfield _ => 3
  | .new _ => 3
  | .newarray _ => 2
  | .anewarray _ => 3
  | .invokespecial _ => 3
  | _ => 1
def zc_op (x : Option Nat) (f : Nat → Option zc_S) : Option zc_S := match x with
  | some t => f t
  | none => none
theorem zc_op_s {x : Option Nat} {f : Nat → Option zc_S} {b : zc_S} (h : zc_op x f = some b) : ∃ t, x = some t ∧ f t = some b := by
  unfold zc_op at h; split at h
  · exact ⟨_, rfl, h⟩
  · cases h
def zc_spl (n : Nat) (st : List am_V) (f : List am_V → Nat → Nat → List am_V → Option zc_S) : Option zc_S := match st.drop n with
  | .inr (.inr (t, o)) :: r => f (st.take n).reverse t o r
  | _ => none
theorem zc_spl_s {n : Nat} {st : List am_V} {f : List am_V → Nat → Nat → List am_V → Option zc_S} {b : zc_S} (h : zc_spl n st f = some b) : ∃ as t o r, st = as.reverse ++ .inr (.inr (t, o)) :: r ∧ as.length = n ∧ f as t o r = some b := by
  unfold zc_spl at h
  split at h
  · rename_i t o r hd
    refine ⟨(st.take n).reverse, t, o, r, ?_, ?_, h⟩
    · rw [List.reverse_reverse, ← hd, List.take_append_drop]
    · have z := congrArg List.length hd
      rw [List.length_drop, List.length_cons] at z
      rw [List.length_reverse, List.length_take]
      omega
  · cases h
def zc_step (k : Nat → am_L → List am_V → zc_S → Option zc_S) (call : Nat → List am_V → zc_S → Option zc_S) (j : Nat) (i : Instr) (pc : Nat) (lv : am_L) (st : List am_V) (S : zc_S) : Option zc_S := match i with
  | .iconst n => if -128 ≤ n ∧ n ≤ 127 then k (pc + 1) lv (.inl n :: st) S else none
  | .bipush n => if -128 ≤ n ∧ n ≤ 127 then k (pc + 2) lv (.inl n :: st) S else none
  | .sipush n => if -32768 ≤ n ∧ n ≤ 32767 then k (pc + 3) lv (.inl n :: st) S else none
  | .iload_n n => am_lkI lv n fun x => k (pc + 1) lv (.inl x :: st) S
  | .aload_n n => am_lkR lv n fun t o => if t < 30 then k (pc + 1) lv (.inr (.inr (t, o)) :: st) S else none
  | .istore_n n => am_i1 st fun x r => if (n : Nat) < zc_l j then k (pc + 1) (am_s1 lv n (.inl x)) r S else none
  | .iinc n d => am_lkI lv n fun x => if n < zc_l j then k (pc + 3) (am_s1 lv n (.inl (w32 (x + d)))) st S else none
  | .dup => am_r1 st fun t o r => k (pc + 1) lv (.inr (.inr (t, o)) :: .inr (.inr (t, o)) :: r) S
  | .goto off => if 0 ≤ (pc : Int) + off then k (am_to pc off) lv st S else none
  | .if_icmp .ge off => am_i2 st fun x y r => if 0 ≤ (pc : Int) + off then (if x < y then k (pc + 3) lv r S else k (am_to pc off) lv r S) else none
  | .getfield x => am_r1 st fun t o r => am_op (tb_f j x) fun q => if t = q.1 ∧ q.2.2.1 = 5 ∧ S.2.2.1 o q.2.1 = true ∧ am_cls (am_ref o q.2.1) = q.2.2.2 then k (pc + 3) lv (.inr (.inr (q.2.2.2, am_ref o q.2.1)) :: r) S else none
  | .putfield x => am_op (tb_f j x) fun q => if q.2.2.1 = 5 then (zc_rr st fun _ v t o r => if t = q.1 ∧ q.1 = j ∧ v = am_ref o q.2.1 ∧ am_fn q.1 q.2.1 = true then k (pc + 3) lv r (S.1, S.2.1, zc_us S.2.2.1 o q.2.1, S.2.2.2) else none) else am_ri st fun t o v r => if t = q.1 ∧ q.1 = j ∧ (q.2.2.1 = 0 ∨ (q.2.2.1 = 2 ∧ (v = 0 ∨ v = 1))) then k (pc + 3) lv r (S.1, S.2.1, S.2.2.1, am_up S.2.2.2 o q.2.1 v) else none
  | .arraylength => am_r1 st fun t o r => if 16 ≤ t ∧ t ≤ 22 then k (pc + 1) lv (.inl (am_len o) :: r) S else none
  | .aastore => zc_rir st fun tv v i t o r => if ((t = 21 ∧ tv = 3) ∨ (t = 22 ∧ tv = 5)) ∧ (0 ≤ i ∧ i < am_len o) ∧ v = am_ref o i.toNat then k (pc + 1) lv r (S.1, S.2.1, zc_us S.2.2.1 o i.toNat, S.2.2.2) else none
  | .new x => zc_op (zc_fd zc_newL j x) fun t => if t < 12 ∧ am_cls S.1 = t then zc_ge (S.1 + 1) (S.2.1 + am_nf t) (k (pc + 3) lv (.inr (.inr (t, S.1)) :: st) (S.1 + 1, S.2.1 + am_nf t, S.2.2)) else none
  | .newarray y => am_i1 st fun x r => if zc_at y < 21 ∧ am_cls S.1 = zc_at y ∧ x = am_len S.1 then zc_ge (S.1 + 1) (S.2.1 + am_len S.1) (k (pc + 2) lv (.inr (.inr (zc_at y, S.1)) :: r) (S.1 + 1, S.2.1 + am_len S.1, S.2.2)) else none
  | .anewarray x => am_i1 st fun n r => zc_op (zc_fd zc_newL j x) fun t2 => if ((am_cls S.1 = 21 ∧ t2 = 3) ∨ (am_cls S.1 = 22 ∧ t2 = 5)) ∧ n = am_len S.1 then zc_ge (S.1 + 1) (S.2.1 + am_len S.1) (k (pc + 3) lv (.inr (.inr (am_cls S.1, S.1)) :: r) (S.1 + 1, S.2.1 + am_len S.1, S.2.2)) else none
  | .invokespecial x => match zc_fd zc_objL j x with
    | some _ => am_r1 st fun t o r => match r with
      | [] => k (pc + 3) lv [] S
      | _ => none
    | none => zc_op (match zc_fd zc_invL j x with | some t => some t | none => zc_fd zc_nstL j x) fun t => zc_spl (zc_na t) st fun as t' o r => if t' = t ∧ (zc_d t + 1 ≤ zc_d j ∧ 8 + (zc_l t + 11) + zc_r t ≤ zc_r j) ∧ r.length ≤ 8 then (match call t (.inr (.inr (t, o)) :: as) S with
      | some S1 => zc_ge S1.1 S1.2.1 (k (pc + 3) lv r S1)
      | none => none) else none
  | .return_ => match st with
    | [] => some S
    | _ => none
  | _ => none
def zc_ex : Nat → Nat → Nat → am_L → List am_V → zc_S → Option zc_S
  | 0, _, _, _, _, _ => none
  | f + 1, j, pc, lv, st, S => match decode (zc_c j) pc with
    | .ok (i, n) => if n = zc_len i then zc_step (fun pc lv st S => zc_ex f j pc lv st S) (fun t vs S => if am_slots vs ≤ zc_l t then zc_ge S.1 S.2.1 (zc_ex f t 0 (am_args 0 vs) [] S) else none) j i pc lv st S else none
    | .error _ => none
theorem zc_dr : ∀ j, j < 12 → 1 ≤ zc_d j ∧ 12 ≤ zc_r j := by decide +kernel
theorem zc_step_ok {k : Nat → am_L → List am_V → zc_S → Option zc_S} {call : Nat → List am_V → zc_S → Option zc_S} {X : am_K} {C : am_C} {j n0 k0 : Nat} {S' S : zc_S} {i : Instr} {pc : Nat} {lv : am_L} {st : List am_V} (hj : j < 12) (hG : zc_G X C j n0 k0 S') (hd : decode (zc_c j) pc = .ok (i, zc_len i)) (h : zc_step k call j i pc lv st S = some S')
    (hk : ∀ pc lv st S, k pc lv st S = some S' → zc_W X C j n0 k0 (zc_E X C n0 k0 S') S' pc lv st S) (hc : ∀ t vs S S1, call t vs S = some S1 → t < 12 → zc_Sd t vs S S1 ∧ S.1 ≤ S1.1 ∧ S.2.1 ≤ S1.2.1) : zc_W X C j n0 k0 (zc_E X C n0 k0 S') S' pc lv st S := by
  unfold zc_step at h
  split at h
  · obtain ⟨h1, h⟩ := am_if_s h
    exact zc_c_iconst hG hd h1 (hk _ _ _ _ h)
  · obtain ⟨h1, h⟩ := am_if_s h
    exact zc_c_bipush hG hd h1 (hk _ _ _ _ h)
  · obtain ⟨h1, h⟩ := am_if_s h
    exact zc_c_sipush hG hd h1 (hk _ _ _ _ h)
  · obtain ⟨x, h1, h⟩ := am_lkI_s h
    exact zc_c_iload_n hG hd h1 (hk _ _ _ _ h)
  · obtain ⟨t, o, h1, h⟩ := am_lkR_s h
    obtain ⟨h2, h⟩ := am_if_s h
    exact zc_c_aload_n hG hd h1 h2 (hk _ _ _ _ h)
  · obtain ⟨x, r, rfl, h⟩ := am_i1_s h
    obtain ⟨h1, h⟩ := am_if_s h
    exact zc_c_istore_n hG hd h1 (hk _ _ _ _ h)
  · obtain ⟨x, h0, h⟩ := am_lkI_s h
    obtain ⟨h1, h⟩ := am_if_s h
    exact zc_c_iinc hG hd h0 h1 (hk _ _ _ _ h)
  · obtain ⟨t, o, r, rfl, h⟩ := am_r1_s h
    exact zc_c_dup hG hd rfl (hk _ _ _ _ h)
  · obtain ⟨h1, h⟩ := am_if_s h
    exact zc_c_goto hG hd h1 (hk _ _ _ _ h)
  · obtain ⟨x, y, r, rfl, h⟩ := am_i2_s h
    obtain ⟨h1, h⟩ := am_if_s h
    refine zc_c_ge hG hd h1 ?_
    split at h
    · rename_i hxy
      rw [if_pos hxy]
      exact hk _ _ _ _ h
    · rename_i hxy
      rw [if_neg hxy]
      exact hk _ _ _ _ h
  · obtain ⟨t, o, r, rfl, h⟩ := am_r1_s h
    obtain ⟨q, hq, h⟩ := am_op_s h
    obtain ⟨⟨h1, h2, h3, h4⟩, h⟩ := am_if_s h
    exact zc_c_getfield hG hd hq h1 h2 h3 h4 (hk _ _ _ _ h)
  · obtain ⟨q, hq, h⟩ := am_op_s h
    split at h
    · rename_i h5
      obtain ⟨tv, v, t, o, r, rfl, h⟩ := zc_rr_s h
      obtain ⟨⟨h1, h2, h3, h4⟩, h⟩ := am_if_s h
      exact zc_c_putref hG hd hq h1 h2 h5 h3 h4 (hk _ _ _ _ h)
    · obtain ⟨t, o, v, r, rfl, h⟩ := am_ri_s h
      obtain ⟨⟨h1, h2, h3⟩, h⟩ := am_if_s h
      exact zc_c_putint hG hd hq h1 h2 h3 (hk _ _ _ _ h)
  · obtain ⟨t, o, r, rfl, h⟩ := am_r1_s h
    obtain ⟨h1, h⟩ := am_if_s h
    exact zc_c_alen hG hd h1 (hk _ _ _ _ h)
  · obtain ⟨tv, v, i, t, o, r, rfl, h⟩ := zc_rir_s h
    obtain ⟨⟨h1, h2, h3⟩, h⟩ := am_if_s h
    exact zc_c_aastore hG hd h1 h2 h3 (hk _ _ _ _ h)
  · obtain ⟨t, h0, h⟩ := zc_op_s h
    obtain ⟨⟨h1, h2⟩, h⟩ := am_if_s h
    obtain ⟨h, h3, h4⟩ := zc_ge_s h
    exact zc_c_new hG hd h0 h1 h2 h3 h4 (hk _ _ _ _ h)
  · obtain ⟨x, r, rfl, h⟩ := am_i1_s h
    obtain ⟨⟨h1, h2, h7⟩, h⟩ := am_if_s h
    obtain ⟨h, h3, h4⟩ := zc_ge_s h
    rw [h7]
    exact zc_c_newarray hG hd h1 h2 h3 h4 (hk _ _ _ _ h)
  · obtain ⟨n, r, rfl, h⟩ := am_i1_s h
    obtain ⟨t2, h0, h⟩ := zc_op_s h
    obtain ⟨⟨h1, h7⟩, h⟩ := am_if_s h
    obtain ⟨h, h3, h4⟩ := zc_ge_s h
    rw [h7]
    exact zc_c_anew hG hd h0 h1 rfl h3 h4 (hk _ _ _ _ h)
  · rename_i x
    split at h
    · rename_i u hu
      obtain ⟨t, o, r, h7, h⟩ := am_r1_s h
      rw [h7]
      split at h
      · exact zc_c_object hG (zc_dr j hj) hd hu (hk _ _ _ _ h)
      · cases h
    · obtain ⟨t, h0, h⟩ := zc_op_s h
      obtain ⟨as, t', o, r, hst, hl, h⟩ := zc_spl_s h
      obtain ⟨⟨h7, h1, h2⟩, h⟩ := am_if_s h
      rw [h7] at hst
      have hn : zc_fd zc_invL j x = some t ∨ (zc_fd zc_invL j x = none ∧ zc_fd zc_nstL j x = some t) := by
        split at h0
        · rename_i e; cases h0; exact Or.inl e
        · rename_i e; exact Or.inr ⟨e, h0⟩
      have ht : t < 12 := by
        rcases hn with e | ⟨-, e⟩
        · exact (zc_inv_ok e).2
        · obtain ⟨pp, hp⟩ := zc_fd_s e
          have z := of_decide_eq_true (List.all_eq_true.mp zc_nst_all _ hp)
          rcases z with z | z <;> (cases z; decide)
      split at h
      · rename_i S1 e1
        obtain ⟨h, h3, h4⟩ := zc_ge_s h
        obtain ⟨c1, c2, c3⟩ := hc _ _ _ _ e1 ht
        exact zc_c_call hG hd hn h1 hst hl h2 c1 c2 c3 h3 h4 (hk _ _ _ _ h)
      · cases h
  · split at h
    · cases h
      exact zc_c_return hj hG hd
    · cases h
  · cases h
theorem zc_plain : ∀ t, t < 12 → plainFor (zc_y t) = true := by decide +kernel
theorem zc_ex_ok : ∀ (f j pc : Nat) (lv : am_L) (st : List am_V) (S S' : zc_S), zc_ex f j pc lv st S = some S' → j < 12 → ∀ (X : am_K) (C : am_C) (n0 k0 : Nat), zc_G X C j n0 k0 S' → zc_W X C j n0 k0 (zc_E X C n0 k0 S') S' pc lv st S
  | 0, _, _, _, _, _, _, h, _, _, _, _, _, _ => by cases h
  | f + 1, j, pc, lv, st, S, S', h, hj, X, C, n0, k0, hG => by
    rw [zc_ex] at h
    split at h
    · rename_i i n hd
      obtain ⟨h7, h⟩ := am_if_s h
      rw [h7] at hd
      refine zc_step_ok hj hG hd h (fun pc lv st S e => zc_ex_ok f j pc lv st S S' e hj X C n0 k0 hG) (fun t vs S S1 e ht => ?_)
      obtain ⟨hsl, e⟩ := am_if_s e
      obtain ⟨e, g1, g2⟩ := zc_ge_s e
      refine ⟨fun hI hv l C => ?_, g1, g2⟩
      refine am_ofW (cc := zc_c t) (maxL := zc_l t) (ret := none) (zc_plain t ht) rfl ?_
      intro p e2 s m args below meth c s₁ B hml hv2
      obtain ⟨rfl, hP, hD, hK, hx, hA⟩ := hv2
      have hts := atoms_spec (ws := zc_w t) B.pre
      have hown : s.vm.findClass (am_cn t) = some m.cls := findClass_of_methodNamed B.named
      have hin : meth.name = "<init>" := (name_of_methodNamed B.named B.method).1
      have hl := lv_entry (vs.map (am_v C)) (n := zc_l t) (by rw [am_sl_len]; exact hsl)
      rw [lg_entry_eq]
      rw [am_args_map C 0 vs] at hl
      have z := zc_ex_ok f t 0 (am_args 0 vs) [] S S1 e ht (p, l, e2, (headSpec (zc_w t) ({ frames := zc_d t, cells := S1.1 - S.1, slots := S1.2.1 - S.2.1, locals := zc_r t } : Room)).room, s, m, (vs.map (am_v C)).toArray, below, meth, c) C S.1 S.2.1 ⟨B.exec, B.bytes, hml, hown, fun w hw => hts w (List.mem_cons_of_mem _ hw), hK, hx, hA, Nat.le_refl _, Nat.le_refl _, (fun _ => hin), (fun _ => B.returns), B.notSynchronized, Nat.le_refl _, Nat.le_refl _⟩ C s.heap [] _ ⟨zc_eq_rf C _, Nat.le_refl _, Nat.le_refl _, g1, g2, hI, zc_args_ok 0 vs hv, (fun v h => by cases h), hP, hD, va_S.rf⟩ hl
      rw [Nat.sub_self, Nat.sub_self] at z
      exact z
    · cases h
theorem zc_sd {f t : Nat} {vs : List am_V} {S S1 : zc_S} (e : zc_ex f t 0 (am_args 0 vs) [] S = some S1) (ht : t < 12) (hsl : am_slots vs ≤ zc_l t) (g1 : S.1 ≤ S1.1) (g2 : S.2.1 ≤ S1.2.1) : zc_Sd t vs S S1 := by
  intro hI hv l C
  refine am_ofW (cc := zc_c t) (maxL := zc_l t) (ret := none) (zc_plain t ht) rfl ?_
  intro p e2 s m args below meth c s₁ B hml hv2
  obtain ⟨rfl, hP, hD, hK, hx, hA⟩ := hv2
  have hts := atoms_spec (ws := zc_w t) B.pre
  have hown : s.vm.findClass (am_cn t) = some m.cls := findClass_of_methodNamed B.named
  have hin : meth.name = "<init>" := (name_of_methodNamed B.named B.method).1
  have hl := lv_entry (vs.map (am_v C)) (n := zc_l t) (by rw [am_sl_len]; exact hsl)
  rw [lg_entry_eq]
  rw [am_args_map C 0 vs] at hl
  have z := zc_ex_ok f t 0 (am_args 0 vs) [] S S1 e ht (p, l, e2, (headSpec (zc_w t) ({ frames := zc_d t, cells := S1.1 - S.1, slots := S1.2.1 - S.2.1, locals := zc_r t } : Room)).room, s, m, (vs.map (am_v C)).toArray, below, meth, c) C S.1 S.2.1 ⟨B.exec, B.bytes, hml, hown, fun w hw => hts w (List.mem_cons_of_mem _ hw), hK, hx, hA, Nat.le_refl _, Nat.le_refl _, (fun _ => hin), (fun _ => B.returns), B.notSynchronized, Nat.le_refl _, Nat.le_refl _⟩ C s.heap [] _ ⟨zc_eq_rf C _, Nat.le_refl _, Nat.le_refl _, g1, g2, hI, zc_args_ok 0 vs hv, (fun v h => by cases h), hP, hD, va_S.rf⟩ hl
  rw [Nat.sub_self, Nat.sub_self] at z
  exact z
