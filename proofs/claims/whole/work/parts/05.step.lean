/-! One instruction of the abstract machine, and a stretch of them. -/
section AM1
variable {β : Type}
def am_br (c : ClassFile.Cond) (x y : Int) (t e : Option β) : Option β := match c with
  | .eq => if x = y then t else e
  | .ne => if x = y then e else t
  | .lt => if x < y then t else e
  | .ge => if x < y then e else t
  | .gt => if y < x then t else e
  | .le => if y < x then e else t
def am_sw (x : Int) (k : Int → Option β) (d : Int) : Int → List Int → Option β
  | _, [] => k d
  | l, o :: r => if x = l then k o else am_sw x k d (l + 1) r
def am_rd (ty rt : Nat) (μ : am_M) (o kk : Nat) : am_V := match ty with
  | 1 => .inr (.inl (μ o kk))
  | 5 => .inr (.inr (rt, am_ref o kk))
  | _ => .inl (μ o kk)
def am_rv (rk rt : Nat) (x : Int) : List am_V := match rk with
  | 0 => []
  | 1 => [.inl x]
  | 2 => [.inr (.inl x)]
  | _ => [.inr (.inr (rt, x.toNat))]
def am_lkI (lv : am_L) (i : Nat) (f : Int → Option β) : Option β := match am_lk lv i with
  | some (.inl x) => f x
  | _ => none
def am_lkJ (lv : am_L) (i : Nat) (f : Int → Option β) : Option β := match am_lk lv i with
  | some (.inr (.inl x)) => f x
  | _ => none
def am_lkR (lv : am_L) (i : Nat) (f : Nat → Nat → Option β) : Option β := match am_lk lv i with
  | some (.inr (.inr (t, o))) => f t o
  | _ => none
def am_op {α : Type} (x : Option α) (f : α → Option β) : Option β := match x with
  | some a => f a
  | none => none
def am_d1 (st : List am_V) (f : am_V → List am_V → Option β) : Option β := match st with
  | v :: r => if am_cat v = 1 then f v r else none
  | _ => none
def am_to (pc : Nat) (off : Int) : Nat := ((pc : Int) + off).toNat
/-- may such a number be given back as this type -/
def am_rt (ty : Option FieldType) (x : Int) (b : Option β) : Option β := match ty with
  | some .int => b
  | some .boolean => if x = 0 ∨ x = 1 then b else none
  | some .char => if 0 ≤ x ∧ x ≤ 65535 then b else none
  | some .byte => if -128 ≤ x ∧ x ≤ 127 then b else none
  | _ => none
def am_rcv (g : Nat) (as : List am_V) : Bool := match g, as with
  | 0, _ => true
  | t + 1, .inr (.inr (t', _)) :: _ => t' == t
  | _, _ => false
def am_call (E : Nat → am_F) (st : List am_V) (q : Nat × Nat × Nat × Nat) (μ : am_M) (f : Int → List am_V → am_M → Option β) : Option β :=
  if q.2.1 ≤ st.length ∧ (((st.drop q.2.1).map am_cat).sum ≤ 8) ∧ am_rcv (am_rcg q.1) (st.take q.2.1).reverse = true then am_op (E q.1 (st.take q.2.1).reverse μ) (fun z => f z.1 (am_rv q.2.2.1 q.2.2.2 z.1 ++ st.drop q.2.1) z.2) else none
def am_step (E : Nat → am_F) (sc : Nat × (Nat → Int)) (j : Nat) (k : Nat → am_L → List am_V → am_M → Option β) (kr : Int → am_M → Option β) (i : Instr) (pc : Nat) (lv : am_L) (st : List am_V) (μ : am_M) : Option β := match i with
  | .iconst n => if -128 ≤ n ∧ n ≤ 127 then k (pc + 1) lv (.inl n :: st) μ else none
  | .bipush n => if -128 ≤ n ∧ n ≤ 127 then k (pc + 2) lv (.inl n :: st) μ else none
  | .sipush n => if -32768 ≤ n ∧ n ≤ 32767 then k (pc + 3) lv (.inl n :: st) μ else none
  | .lconst n => k (pc + 1) lv (.inr (.inl ((n : Nat) : Int)) :: st) μ
  | .ldc x => am_op (tb_k (am_mo j) x) fun v => k (pc + 2) lv (v :: st) μ
  | .ldc2_w x => am_op (tb_kl (am_mo j) x) fun v => k (pc + 3) lv (.inr (.inl v) :: st) μ
  | .iload_n n => am_lkI lv n fun x => k (pc + 1) lv (.inl x :: st) μ
  | .iload n => am_lkI lv n fun x => k (pc + 2) lv (.inl x :: st) μ
  | .lload_n n => am_lkJ lv n fun x => k (pc + 1) lv (.inr (.inl x) :: st) μ
  | .lload n => am_lkJ lv n fun x => k (pc + 2) lv (.inr (.inl x) :: st) μ
  | .aload_n n => am_lkR lv n fun t o => k (pc + 1) lv (.inr (.inr (t, o)) :: st) μ
  | .aload n => am_lkR lv n fun t o => k (pc + 2) lv (.inr (.inr (t, o)) :: st) μ
  | .istore_n n => am_i1 st fun x r => if (n : Nat) < am_ml j then k (pc + 1) (am_s1 lv n (.inl x)) r μ else none
  | .istore n => am_i1 st fun x r => if n < am_ml j then k (pc + 2) (am_s1 lv n (.inl x)) r μ else none
  | .lstore_n n => am_l1 st fun x r => if (n : Nat) + 1 < am_ml j then k (pc + 1) (am_s2 lv n (.inr (.inl x))) r μ else none
  | .lstore n => am_l1 st fun x r => if n + 1 < am_ml j then k (pc + 2) (am_s2 lv n (.inr (.inl x))) r μ else none
  | .astore_n n => am_r1 st fun t o r => if (n : Nat) < am_ml j then k (pc + 1) (am_s1 lv n (.inr (.inr (t, o)))) r μ else none
  | .astore n => am_r1 st fun t o r => if n < am_ml j then k (pc + 2) (am_s1 lv n (.inr (.inr (t, o)))) r μ else none
  | .iinc n d => am_lkI lv n fun x => if n < am_ml j then k (pc + 3) (am_s1 lv n (.inl (w32 (x + d)))) st μ else none
  | .iadd => am_i2 st fun a b r => k (pc + 1) lv (.inl (w32 (a + b)) :: r) μ
  | .isub => am_i2 st fun a b r => k (pc + 1) lv (.inl (w32 (a - b)) :: r) μ
  | .imul => am_i2 st fun a b r => k (pc + 1) lv (.inl (w32 (a * b)) :: r) μ
  | .idiv => am_i2 st fun a b r => if b = 0 then none else k (pc + 1) lv (.inl (o_div a b) :: r) μ
  | .irem => am_i2 st fun a b r => if b = 0 then none else k (pc + 1) lv (.inl (o_rem a b) :: r) μ
  | .ineg => am_i1 st fun a r => k (pc + 1) lv (.inl (w32 (-a)) :: r) μ
  | .iand => am_i2 st fun a b r => k (pc + 1) lv (.inl (o_and a b) :: r) μ
  | .ior => am_i2 st fun a b r => k (pc + 1) lv (.inl (o_or a b) :: r) μ
  | .ixor => am_i2 st fun a b r => k (pc + 1) lv (.inl (o_xor a b) :: r) μ
  | .ishl => am_i2 st fun a b r => k (pc + 1) lv (.inl (o_shl a b) :: r) μ
  | .ishr => am_i2 st fun a b r => k (pc + 1) lv (.inl (o_shr a b) :: r) μ
  | .ladd => am_l2 st fun a b r => k (pc + 1) lv (.inr (.inl (w64 (a + b))) :: r) μ
  | .lsub => am_l2 st fun a b r => k (pc + 1) lv (.inr (.inl (w64 (a - b))) :: r) μ
  | .lmul => am_l2 st fun a b r => k (pc + 1) lv (.inr (.inl (w64 (a * b))) :: r) μ
  | .ldiv => am_l2 st fun a b r => if b = 0 then none else k (pc + 1) lv (.inr (.inl (o_divl a b)) :: r) μ
  | .lrem => am_l2 st fun a b r => if b = 0 then none else k (pc + 1) lv (.inr (.inl (o_reml a b)) :: r) μ
  | .lneg => am_l1 st fun a r => k (pc + 1) lv (.inr (.inl (w64 (-a))) :: r) μ
  | .land => am_l2 st fun a b r => k (pc + 1) lv (.inr (.inl (o_landl a b)) :: r) μ
  | .lor => am_l2 st fun a b r => k (pc + 1) lv (.inr (.inl (o_lorl a b)) :: r) μ
  | .lxor => am_l2 st fun a b r => k (pc + 1) lv (.inr (.inl (o_2l (fun x y => x ^^^ y) a b)) :: r) μ
  | .lushr => am_li st fun a b r => k (pc + 1) lv (.inr (.inl (o_ushrl a b)) :: r) μ
  | .lshl => am_li st fun a b r => k (pc + 1) lv (.inr (.inl (o_shll a b)) :: r) μ
  | .lcmp => am_l2 st fun a b r => k (pc + 1) lv (.inl (o_cmp a b) :: r) μ
  | .i2l => am_i1 st fun a r => k (pc + 1) lv (.inr (.inl a) :: r) μ
  | .l2i => am_l1 st fun a r => k (pc + 1) lv (.inl (o_l2i a) :: r) μ
  | .i2b => am_i1 st fun a r => k (pc + 1) lv (.inl (o_i2b a) :: r) μ
  | .i2c => am_i1 st fun a r => k (pc + 1) lv (.inl (o_i2c a) :: r) μ
  | .dup => am_d1 st fun v r => k (pc + 1) lv (v :: v :: r) μ
  | .pop => am_d1 st fun _ r => k (pc + 1) lv r μ
  | .dup_x1 => am_d1 st fun v r => am_d1 r fun w r2 => k (pc + 1) lv (v :: w :: v :: r2) μ
  | .dup2 => am_d1 st fun v r => am_d1 r fun w r2 => k (pc + 1) lv (v :: w :: v :: w :: r2) μ
  | .ifCond c off => am_i1 st fun x r => am_br c x 0 (k (am_to pc off) lv r μ) (k (pc + 3) lv r μ)
  | .if_icmp c off => am_i2 st fun x y r => am_br c x y (k (am_to pc off) lv r μ) (k (pc + 3) lv r μ)
  | .goto off => k (am_to pc off) lv st μ
  | .tableswitch d lo hi offs => am_i1 st fun x r => if hi + 1 = lo + (offs.size : Int) then am_sw x (fun off => k (am_to pc off) lv r μ) d lo offs.toList else none
  | .getfield x => if am_mo j = 15 then (am_r1 st fun t o r => if t = 31 then (if x = 9 then k (pc + 3) lv (.inr (.inr (32, o)) :: r) μ else if x = 15 then k (pc + 3) lv (.inl 0 :: r) μ else none) else none) else am_r1 st fun t o r => am_op (tb_f (am_mo j) x) fun q => if t = q.1 then k (pc + 3) lv (am_rd q.2.2.1 q.2.2.2 μ o q.2.1 :: r) μ else none
  | .putfield x => am_op (tb_f (am_mo j) x) fun q => if am_fn q.1 q.2.1 = false then match q.2.2.1 with
    | 0 => am_ri st fun t o v r => if t = q.1 then k (pc + 3) lv r (am_up μ o q.2.1 v) else none
    | 1 => am_rl st fun t o v r => if t = q.1 then k (pc + 3) lv r (am_up μ o q.2.1 v) else none
    | 2 => am_ri st fun t o v r => if t = q.1 then (if v = 0 ∨ v = 1 then k (pc + 3) lv r (am_up μ o q.2.1 v) else none) else none
    | _ => none
    else none
  | .iaload => am_ri st fun t o i r => if t = 16 then (if 0 ≤ i ∧ i < am_len o then k (pc + 1) lv (.inl (μ o i.toNat) :: r) μ else none) else if t = 30 then (if 0 ≤ i ∧ i < am_clen o then k (pc + 1) lv (.inl (am_cst o i.toNat) :: r) μ else none) else if t = 33 ∧ o = 0 ∧ j = am_jl then (if 0 ≤ i ∧ i < sc.1 then k (pc + 1) lv (.inl (sc.2 i.toNat) :: r) μ else none) else none
  | .laload => am_ri st fun t o i r => if t = 17 then (if 0 ≤ i ∧ i < am_len o then k (pc + 1) lv (.inr (.inl (μ o i.toNat)) :: r) μ else none) else none
  | .caload => am_ri st fun t o i r => if t = 18 then (if 0 ≤ i ∧ i < am_len o then k (pc + 1) lv (.inl (μ o i.toNat) :: r) μ else none) else none
  | .baload => am_ri st fun t o i r => if t = 19 then (if 0 ≤ i ∧ i < am_len o then k (pc + 1) lv (.inl (μ o i.toNat) :: r) μ else none) else if t = 20 then (if 0 ≤ i ∧ i < am_len o then k (pc + 1) lv (.inl (μ o i.toNat) :: r) μ else none) else if t = 32 then (if 0 ≤ i ∧ i < am_slen o then k (pc + 1) lv (.inl (am_schr o i.toNat) :: r) μ else none) else none
  | .aaload => am_ri st fun t o i r => if t = 21 then (if 0 ≤ i ∧ i < am_len o then k (pc + 1) lv (.inr (.inr (am_tL, am_ref o i.toNat)) :: r) μ else none) else if t = 22 then (if 0 ≤ i ∧ i < am_len o then k (pc + 1) lv (.inr (.inr (am_tC, am_ref o i.toNat)) :: r) μ else none) else none
  | .iastore => am_rii st fun t o i x r => if t = 16 then (if 0 ≤ i ∧ i < am_len o then k (pc + 1) lv r (am_up μ o i.toNat x) else none) else none
  | .lastore => am_ril st fun t o i x r => if t = 17 then (if 0 ≤ i ∧ i < am_len o then k (pc + 1) lv r (am_up μ o i.toNat x) else none) else none
  | .castore => am_rii st fun t o i x r => if t = 18 then (if 0 ≤ i ∧ i < am_len o then k (pc + 1) lv r (am_up μ o i.toNat (o_nar .char x)) else none) else none
  | .bastore => am_rii st fun t o i x r => if t = 19 then (if 0 ≤ i ∧ i < am_len o then k (pc + 1) lv r (am_up μ o i.toNat (o_nar .byte x)) else none) else if t = 20 then (if 0 ≤ i ∧ i < am_len o then k (pc + 1) lv r (am_up μ o i.toNat (o_nar .boolean x)) else none) else none
  | .arraylength => am_r1 st fun t o r => if 16 ≤ t ∧ t ≤ 22 then k (pc + 1) lv (.inl (am_len o) :: r) μ else if t = 30 then k (pc + 1) lv (.inl (am_clen o) :: r) μ else if t = 32 then k (pc + 1) lv (.inl (am_slen o) :: r) μ else if t = 33 ∧ o = 0 ∧ j = am_jl then k (pc + 1) lv (.inl sc.1 :: r) μ else none
  | .getstatic x => am_op (tb_s (am_mo j) x) fun v => k (pc + 3) lv (v :: st) μ
  | .invokevirtual x => am_op (tb_m (am_mo j) x) fun q => am_call E st q μ fun _ s2 m2 => k (pc + 3) lv s2 m2
  | .invokestatic x => am_op (tb_m (am_mo j) x) fun q => am_call E st q μ fun _ s2 m2 => k (pc + 3) lv s2 m2
  | .ireturn => am_i1 st fun x r => match r with
    | [] => am_rt (am_mr j) x (kr x μ)
    | _ => none
  | .lreturn => am_l1 st fun x r => match r with
    | [] => if am_rk j = 2 then kr x μ else none
    | _ => none
  | .areturn => am_r1 st fun t o r => match r with
    | [] => if am_rk j = 3 ∧ t = am_rtg j then kr (o : Int) μ else none
    | _ => none
  | .return_ => match st with
    | [] => if am_rk j = 0 then kr 0 μ else none
    | _ => none
  | _ => none
def am_run (E : Nat → am_F) (sc : Nat × (Nat → Int)) (j : Nat) (stop : Nat → Bool) (kx : Nat → am_L → List am_V → am_M → Option β) (kr : Int → am_M → Option β) : Nat → Nat → am_L → List am_V → am_M → Option β
  | 0, _, _, _, _ => none
  | n + 1, pc, lv, st, μ => match tb_ins j pc with
    | none => none
    | some i => am_step E sc j (fun pc' lv' st' μ' => if stop pc' = true then kx pc' lv' st' μ' else am_run E sc j stop kx kr n pc' lv' st' μ') kr i pc lv st μ
end AM1
