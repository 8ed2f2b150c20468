/-! One instruction, then a stretch: the abstract machine is sound. -/
theorem am_dec1 {j pc : Nat} {i : Instr} (hj : j < 235) (h1 : am_hd j) (h : tb_ins j pc = some i) (hs : am_isw i = false) : decode (am_mc j) pc = .ok (i, am_il i) := by
  obtain ⟨⟨len, e, z⟩, -, -⟩ := am_dec hj h1 h
  rcases z with z | z
  · rw [e, z]
  · rw [hs] at z; cases z
theorem am_op_s {α β : Type} {x : Option α} {f : α → Option β} {b : β} (h : am_op x f = some b) : ∃ a, x = some a ∧ f a = some b := by
  unfold am_op at h
  split at h
  · exact ⟨_, rfl, h⟩
  · cases h
theorem am_lkI_s {β : Type} {lv : am_L} {i : Nat} {f : Int → Option β} {b : β} (h : am_lkI lv i f = some b) : ∃ x, am_lk lv i = some (.inl x) ∧ f x = some b := by
  unfold am_lkI at h
  split at h
  · rename_i x e
    exact ⟨x, e, h⟩
  · cases h
theorem am_lkJ_s {β : Type} {lv : am_L} {i : Nat} {f : Int → Option β} {b : β} (h : am_lkJ lv i f = some b) : ∃ x, am_lk lv i = some (.inr (.inl x)) ∧ f x = some b := by
  unfold am_lkJ at h
  split at h
  · rename_i x e
    exact ⟨x, e, h⟩
  · cases h
theorem am_lkR_s {β : Type} {lv : am_L} {i : Nat} {f : Nat → Nat → Option β} {b : β} (h : am_lkR lv i f = some b) : ∃ t o, am_lk lv i = some (.inr (.inr (t, o))) ∧ f t o = some b := by
  unfold am_lkR at h
  split at h
  · rename_i t o e
    exact ⟨t, o, e, h⟩
  · cases h
theorem am_d1_s {β : Type} {st : List am_V} {f : am_V → List am_V → Option β} {b : β} (h : am_d1 st f = some b) : ∃ v r, st = v :: r ∧ am_cat v = 1 ∧ f v r = some b := by
  unfold am_d1 at h
  split at h
  · obtain ⟨h1, h2⟩ := am_if_s h
    exact ⟨_, _, rfl, h1, h2⟩
  · cases h
theorem am_ifn_s {β : Type} {c : Prop} {hc : Decidable c} {b : Option β} {x : β} (h : (@ite _ c hc none b) = some x) : ¬ c ∧ b = some x := by
  by_cases hh : c
  · rw [if_pos hh] at h; cases h
  · rw [if_neg hh] at h; exact ⟨hh, h⟩
theorem am_call_s {β : Type} {E : Nat → am_F} {st : List am_V} {q : Nat × Nat × Nat × Nat} {μ : am_M} {f : Int → List am_V → am_M → Option β} {b : β} (h : am_call E st q μ f = some b) : q.2.1 ≤ st.length ∧ (((st.drop q.2.1).map am_cat).sum ≤ 8) ∧ am_rcv (am_rcg q.1) (st.take q.2.1).reverse = true ∧ ∃ z μ', E q.1 (st.take q.2.1).reverse μ = some (z, μ') ∧ f z (am_rv q.2.2.1 q.2.2.2 z ++ st.drop q.2.1) μ' = some b := by
  unfold am_call at h
  obtain ⟨h1, h⟩ := am_if_s h
  obtain ⟨⟨z, μ'⟩, h3, h4⟩ := am_op_s h
  exact ⟨h1.1, h1.2.1, h1.2.2, z, μ', h3, h4⟩
set_option maxHeartbeats 4000000 in
set_option maxRecDepth 10000 in
theorem am_step_ok {β : Type} {E : Nat → am_F} {sc : Nat × (Nat → Int)} {X : am_K} {C : am_C} {j cells slots : Nat} {Q : State → Prop} (hG : am_G X C j cells slots sc) (hj : j < 235) (hh : am_hd j) (hE : ∀ i, am_Sd i (E i)) (hE2 : ∀ i vs μ, am_nm ≤ i → E i vs μ = none) (hret : match X with | (_, _, _, _, _, _, _, _, meth, _) => meth.sig.returnType = am_mr j ∧ meth.locks = false) {k : Nat → am_L → List am_V → am_M → Option β} {kr : Int → am_M → Option β} {b : β} (hk : ∀ pc' lv' st' μ', k pc' lv' st' μ' = some b → am_W X C j Q cells slots pc' lv' st' μ') (hr : ∀ x μ', kr x μ' = some b → Q = am_E X C j x μ' ∧ cells = 0 ∧ slots = 0) {i : Instr} {pc : Nat} {lv : am_L} {st : List am_V} {μ : am_M} (hi : tb_ins j pc = some i) (h : am_step E sc j k kr i pc lv st μ = some b) : am_W X C j Q cells slots pc lv st μ := by
  cases i with
  | iconst n =>
    obtain ⟨h1, h2⟩ := am_if_s h
    exact am_c_iconst hG (am_dec1 hj hh hi rfl) h1 (hk _ _ _ _ h2)
  | bipush n =>
    obtain ⟨h1, h2⟩ := am_if_s h
    exact am_c_bipush hG (am_dec1 hj hh hi rfl) h1 (hk _ _ _ _ h2)
  | sipush n =>
    obtain ⟨h1, h2⟩ := am_if_s h
    exact am_c_sipush hG (am_dec1 hj hh hi rfl) h1 (hk _ _ _ _ h2)
  | lconst n =>
    exact am_c_lconst hG (am_dec1 hj hh hi rfl) (hk _ _ _ _ h)
  | ldc x =>
    obtain ⟨v, h1, h2⟩ := am_op_s h
    exact am_c_ldc hG (am_dec1 hj hh hi rfl) h1 (hk _ _ _ _ h2)
  | ldc2_w x =>
    obtain ⟨v, h1, h2⟩ := am_op_s h
    exact am_c_ldc2 hG (am_dec1 hj hh hi rfl) h1 (hk _ _ _ _ h2)
  | iload_n n =>
    obtain ⟨x, h1, h2⟩ := am_lkI_s h
    exact am_c_iload_n hG (am_dec1 hj hh hi rfl) h1 (hk _ _ _ _ h2)
  | istore_n n =>
    obtain ⟨x, r, rfl, z1⟩ := am_i1_s h
    obtain ⟨h1, h2⟩ := am_if_s z1
    exact am_c_istore_n hG (am_dec1 hj hh hi rfl) h1 (hk _ _ _ _ h2)
  | iload n =>
    obtain ⟨x, h1, h2⟩ := am_lkI_s h
    exact am_c_iload hG (am_dec1 hj hh hi rfl) h1 (hk _ _ _ _ h2)
  | istore n =>
    obtain ⟨x, r, rfl, z1⟩ := am_i1_s h
    obtain ⟨h1, h2⟩ := am_if_s z1
    exact am_c_istore hG (am_dec1 hj hh hi rfl) h1 (hk _ _ _ _ h2)
  | lload_n n =>
    obtain ⟨x, h1, h2⟩ := am_lkJ_s h
    exact am_c_lload_n hG (am_dec1 hj hh hi rfl) h1 (hk _ _ _ _ h2)
  | lstore_n n =>
    obtain ⟨x, r, rfl, z1⟩ := am_l1_s h
    obtain ⟨h1, h2⟩ := am_if_s z1
    exact am_c_lstore_n hG (am_dec1 hj hh hi rfl) h1 (hk _ _ _ _ h2)
  | lload n =>
    obtain ⟨x, h1, h2⟩ := am_lkJ_s h
    exact am_c_lload hG (am_dec1 hj hh hi rfl) h1 (hk _ _ _ _ h2)
  | lstore n =>
    obtain ⟨x, r, rfl, z1⟩ := am_l1_s h
    obtain ⟨h1, h2⟩ := am_if_s z1
    exact am_c_lstore hG (am_dec1 hj hh hi rfl) h1 (hk _ _ _ _ h2)
  | aload_n n =>
    obtain ⟨t, o, h1, h2⟩ := am_lkR_s h
    exact am_c_aload_n hG (am_dec1 hj hh hi rfl) h1 (hk _ _ _ _ h2)
  | astore_n n =>
    obtain ⟨t, o, r, rfl, z1⟩ := am_r1_s h
    obtain ⟨h1, h2⟩ := am_if_s z1
    exact am_c_astore_n hG (am_dec1 hj hh hi rfl) h1 (hk _ _ _ _ h2)
  | aload n =>
    obtain ⟨t, o, h1, h2⟩ := am_lkR_s h
    exact am_c_aload hG (am_dec1 hj hh hi rfl) h1 (hk _ _ _ _ h2)
  | astore n =>
    obtain ⟨t, o, r, rfl, z1⟩ := am_r1_s h
    obtain ⟨h1, h2⟩ := am_if_s z1
    exact am_c_astore hG (am_dec1 hj hh hi rfl) h1 (hk _ _ _ _ h2)
  | iinc n d =>
    obtain ⟨x, h1, z1⟩ := am_lkI_s h
    obtain ⟨h2, h3⟩ := am_if_s z1
    exact am_c_iinc hG (am_dec1 hj hh hi rfl) h1 h2 (hk _ _ _ _ h3)
  | iadd =>
    obtain ⟨x, y, r, rfl, z1⟩ := am_i2_s h
    exact am_c_iadd hG (am_dec1 hj hh hi rfl) (hk _ _ _ _ z1)
  | isub =>
    obtain ⟨x, y, r, rfl, z1⟩ := am_i2_s h
    exact am_c_isub hG (am_dec1 hj hh hi rfl) (hk _ _ _ _ z1)
  | imul =>
    obtain ⟨x, y, r, rfl, z1⟩ := am_i2_s h
    exact am_c_imul hG (am_dec1 hj hh hi rfl) (hk _ _ _ _ z1)
  | iand =>
    obtain ⟨x, y, r, rfl, z1⟩ := am_i2_s h
    exact am_c_iand hG (am_dec1 hj hh hi rfl) (hk _ _ _ _ z1)
  | ior =>
    obtain ⟨x, y, r, rfl, z1⟩ := am_i2_s h
    exact am_c_ior hG (am_dec1 hj hh hi rfl) (hk _ _ _ _ z1)
  | ixor =>
    obtain ⟨x, y, r, rfl, z1⟩ := am_i2_s h
    exact am_c_ixor hG (am_dec1 hj hh hi rfl) (hk _ _ _ _ z1)
  | ishl =>
    obtain ⟨x, y, r, rfl, z1⟩ := am_i2_s h
    exact am_c_ishl hG (am_dec1 hj hh hi rfl) (hk _ _ _ _ z1)
  | ishr =>
    obtain ⟨x, y, r, rfl, z1⟩ := am_i2_s h
    exact am_c_ishr hG (am_dec1 hj hh hi rfl) (hk _ _ _ _ z1)
  | ladd =>
    obtain ⟨x, y, r, rfl, z1⟩ := am_l2_s h
    exact am_c_ladd hG (am_dec1 hj hh hi rfl) (hk _ _ _ _ z1)
  | lsub =>
    obtain ⟨x, y, r, rfl, z1⟩ := am_l2_s h
    exact am_c_lsub hG (am_dec1 hj hh hi rfl) (hk _ _ _ _ z1)
  | lmul =>
    obtain ⟨x, y, r, rfl, z1⟩ := am_l2_s h
    exact am_c_lmul hG (am_dec1 hj hh hi rfl) (hk _ _ _ _ z1)
  | land =>
    obtain ⟨x, y, r, rfl, z1⟩ := am_l2_s h
    exact am_c_land hG (am_dec1 hj hh hi rfl) (hk _ _ _ _ z1)
  | lor =>
    obtain ⟨x, y, r, rfl, z1⟩ := am_l2_s h
    exact am_c_lor hG (am_dec1 hj hh hi rfl) (hk _ _ _ _ z1)
  | lxor =>
    obtain ⟨x, y, r, rfl, z1⟩ := am_l2_s h
    exact am_c_lxor hG (am_dec1 hj hh hi rfl) (hk _ _ _ _ z1)
  | lcmp =>
    obtain ⟨x, y, r, rfl, z1⟩ := am_l2_s h
    exact am_c_lcmp hG (am_dec1 hj hh hi rfl) (hk _ _ _ _ z1)
  | idiv =>
    obtain ⟨x, y, r, rfl, z1⟩ := am_i2_s h
    obtain ⟨h1, h2⟩ := am_ifn_s z1
    exact am_c_idiv hG (am_dec1 hj hh hi rfl) h1 (hk _ _ _ _ h2)
  | irem =>
    obtain ⟨x, y, r, rfl, z1⟩ := am_i2_s h
    obtain ⟨h1, h2⟩ := am_ifn_s z1
    exact am_c_irem hG (am_dec1 hj hh hi rfl) h1 (hk _ _ _ _ h2)
  | ldiv =>
    obtain ⟨x, y, r, rfl, z1⟩ := am_l2_s h
    obtain ⟨h1, h2⟩ := am_ifn_s z1
    exact am_c_ldiv hG (am_dec1 hj hh hi rfl) h1 (hk _ _ _ _ h2)
  | lrem =>
    obtain ⟨x, y, r, rfl, z1⟩ := am_l2_s h
    obtain ⟨h1, h2⟩ := am_ifn_s z1
    exact am_c_lrem hG (am_dec1 hj hh hi rfl) h1 (hk _ _ _ _ h2)
  | ineg =>
    obtain ⟨x, r, rfl, z1⟩ := am_i1_s h
    exact am_c_ineg hG (am_dec1 hj hh hi rfl) (hk _ _ _ _ z1)
  | i2l =>
    obtain ⟨x, r, rfl, z1⟩ := am_i1_s h
    exact am_c_i2l hG (am_dec1 hj hh hi rfl) (hk _ _ _ _ z1)
  | i2b =>
    obtain ⟨x, r, rfl, z1⟩ := am_i1_s h
    exact am_c_i2b hG (am_dec1 hj hh hi rfl) (hk _ _ _ _ z1)
  | i2c =>
    obtain ⟨x, r, rfl, z1⟩ := am_i1_s h
    exact am_c_i2c hG (am_dec1 hj hh hi rfl) (hk _ _ _ _ z1)
  | lneg =>
    obtain ⟨x, r, rfl, z1⟩ := am_l1_s h
    exact am_c_lneg hG (am_dec1 hj hh hi rfl) (hk _ _ _ _ z1)
  | l2i =>
    obtain ⟨x, r, rfl, z1⟩ := am_l1_s h
    exact am_c_l2i hG (am_dec1 hj hh hi rfl) (hk _ _ _ _ z1)
  | lushr =>
    obtain ⟨x, y, r, rfl, z1⟩ := am_li_s h
    exact am_c_lushr hG (am_dec1 hj hh hi rfl) (hk _ _ _ _ z1)
  | lshl =>
    obtain ⟨x, y, r, rfl, z1⟩ := am_li_s h
    exact am_c_lshl hG (am_dec1 hj hh hi rfl) (hk _ _ _ _ z1)
  | dup =>
    obtain ⟨v, r, rfl, h1, h2⟩ := am_d1_s h
    exact am_c_dup hG (am_dec1 hj hh hi rfl) h1 (hk _ _ _ _ h2)
  | pop =>
    obtain ⟨v, r, rfl, h1, h2⟩ := am_d1_s h
    exact am_c_pop hG (am_dec1 hj hh hi rfl) h1 (hk _ _ _ _ h2)
  | dup_x1 =>
    obtain ⟨v, r, rfl, h1, h2⟩ := am_d1_s h
    obtain ⟨w, r2, rfl, h3, h4⟩ := am_d1_s h2
    exact am_c_dup_x1 hG (am_dec1 hj hh hi rfl) h1 h3 (hk _ _ _ _ h4)
  | dup2 =>
    obtain ⟨v, r, rfl, h1, h2⟩ := am_d1_s h
    obtain ⟨w, r2, rfl, h3, h4⟩ := am_d1_s h2
    exact am_c_dup2 hG (am_dec1 hj hh hi rfl) h1 h3 (hk _ _ _ _ h4)
  | ifCond cd off =>
    obtain ⟨x, r, rfl, z1⟩ := am_i1_s h
    exact am_c_if hG (am_dec1 hj hh hi rfl) (of_decide_eq_true (am_dec hj hh hi).2.1) z1 (hk _ _ _ _) (hk _ _ _ _)
  | if_icmp cd off =>
    obtain ⟨x, y, r, rfl, z1⟩ := am_i2_s h
    exact am_c_icmp hG (am_dec1 hj hh hi rfl) (of_decide_eq_true (am_dec hj hh hi).2.1) z1 (hk _ _ _ _) (hk _ _ _ _)
  | goto off =>
    exact am_c_goto hG (am_dec1 hj hh hi rfl) (of_decide_eq_true (am_dec hj hh hi).2.1) (hk _ _ _ _ h)
  | tableswitch d lo hi2 offs =>
    obtain ⟨x, r, rfl, z1⟩ := am_i1_s h
    obtain ⟨h1, h2⟩ := am_if_s z1
    obtain ⟨⟨len, e1, -⟩, e2, -⟩ := am_dec hj hh hi
    have e2 : (decide (0 ≤ (pc : Int) + d) && offs.toList.all (fun o => decide (0 ≤ (pc : Int) + o))) = true := e2
    rw [Bool.and_eq_true] at e2
    exact am_c_tableswitch hG e1 h1 (of_decide_eq_true e2.1) (fun o ho => of_decide_eq_true (List.all_eq_true.mp e2.2 o ho)) h2 (fun off hoff => hk _ _ _ _ hoff)
  | getfield x =>
    have h : (if am_mo j = 15 then (am_r1 st fun t o r => if t = 31 then (if x = 9 then k (pc + 3) lv (.inr (.inr (32, o)) :: r) μ else if x = 15 then k (pc + 3) lv (.inl 0 :: r) μ else none) else none) else am_r1 st fun t o r => am_op (tb_f (am_mo j) x) fun q => if t = q.1 then k (pc + 3) lv (am_rd q.2.2.1 q.2.2.2 μ o q.2.1 :: r) μ else none) = some b := h
    by_cases hm : am_mo j = 15
    · rw [if_pos hm] at h
      obtain ⟨t, o, r, rfl, z1⟩ := am_r1_s h
      obtain ⟨rfl, z2⟩ := am_if_s z1
      by_cases h9 : x = 9
      · rw [if_pos h9] at z2
        subst h9
        exact am_c_strval hG (am_dec1 hj hh hi rfl) hm (hk _ _ _ _ z2)
      · rw [if_neg h9] at z2
        obtain ⟨rfl, z3⟩ := am_if_s z2
        exact am_c_strcod hG (am_dec1 hj hh hi rfl) hm (hk _ _ _ _ z3)
    · rw [if_neg hm] at h
      obtain ⟨t, o, r, rfl, z4⟩ := am_r1_s h
      obtain ⟨q, h1, z5⟩ := am_op_s z4
      obtain ⟨h2, z6⟩ := am_if_s z5
      exact am_c_getfield hG (am_dec1 hj hh hi rfl) h1 h2 (hk _ _ _ _ z6)
  | putfield x =>
    obtain ⟨q, h1, z1⟩ := am_op_s h
    obtain ⟨hf, z2⟩ := am_if_s z1
    split at z2
    · rename_i e
      obtain ⟨t, o, v, r, rfl, z3⟩ := am_ri_s z2
      obtain ⟨h2, z4⟩ := am_if_s z3
      exact am_c_putfield_i hG (am_dec1 hj hh hi rfl) h1 hf e h2 (hk _ _ _ _ z4)
    · rename_i e
      obtain ⟨t, o, v, r, rfl, z5⟩ := am_rl_s z2
      obtain ⟨h2, z6⟩ := am_if_s z5
      exact am_c_putfield_l hG (am_dec1 hj hh hi rfl) h1 hf e h2 (hk _ _ _ _ z6)
    · rename_i e
      obtain ⟨t, o, v, r, rfl, z7⟩ := am_ri_s z2
      obtain ⟨h2, z8⟩ := am_if_s z7
      obtain ⟨h3, z9⟩ := am_if_s z8
      exact am_c_putfield_z hG (am_dec1 hj hh hi rfl) h1 hf e h2 h3 (hk _ _ _ _ z9)
    · cases z2
  | iaload =>
    obtain ⟨t, o, i2, r, rfl, z1⟩ := am_ri_s h
    by_cases h16 : t = 16
    · subst h16
      obtain ⟨h1, z2⟩ := am_if_s (show (if 0 ≤ i2 ∧ i2 < am_len o then _ else none) = some b from z1)
      exact am_c_iaload hG (am_dec1 hj hh hi rfl) h1 (hk _ _ _ _ z2)
    rw [if_neg h16] at z1
    by_cases h30 : t = 30
    · subst h30
      obtain ⟨h1, z3⟩ := am_if_s (show (if 0 ≤ i2 ∧ i2 < am_clen o then _ else none) = some b from z1)
      exact am_c_kaload hG (am_dec1 hj hh hi rfl) h1 (hk _ _ _ _ z3)
    rw [if_neg h30] at z1
    obtain ⟨⟨rfl, h0, hjl⟩, z4⟩ := am_if_s z1
    obtain ⟨h1, z5⟩ := am_if_s z4
    exact am_c_scload hG hjl h0 (am_dec1 hj hh hi rfl) h1 (hk _ _ _ _ z5)
  | laload =>
    obtain ⟨t, o, i2, r, rfl, z1⟩ := am_ri_s h
    obtain ⟨rfl, z2⟩ := am_if_s z1
    obtain ⟨h1, z3⟩ := am_if_s z2
    exact am_c_laload hG (am_dec1 hj hh hi rfl) h1 (hk _ _ _ _ z3)
  | caload =>
    obtain ⟨t, o, i2, r, rfl, z1⟩ := am_ri_s h
    obtain ⟨rfl, z2⟩ := am_if_s z1
    obtain ⟨h1, z3⟩ := am_if_s z2
    exact am_c_caload hG (am_dec1 hj hh hi rfl) h1 (hk _ _ _ _ z3)
  | baload =>
    obtain ⟨t, o, i2, r, rfl, z1⟩ := am_ri_s h
    by_cases h19 : t = 19
    · subst h19
      obtain ⟨h1, z2⟩ := am_if_s (show (if 0 ≤ i2 ∧ i2 < am_len o then _ else none) = some b from z1)
      exact am_c_baload hG (am_dec1 hj hh hi rfl) h1 (hk _ _ _ _ z2)
    rw [if_neg h19] at z1
    by_cases h20 : t = 20
    · subst h20
      obtain ⟨h1, z3⟩ := am_if_s (show (if 0 ≤ i2 ∧ i2 < am_len o then _ else none) = some b from z1)
      exact am_c_zaload hG (am_dec1 hj hh hi rfl) h1 (hk _ _ _ _ z3)
    rw [if_neg h20] at z1
    obtain ⟨rfl, z4⟩ := am_if_s z1
    obtain ⟨h1, z5⟩ := am_if_s z4
    exact am_c_saload hG (am_dec1 hj hh hi rfl) h1 (hk _ _ _ _ z5)
  | aaload =>
    obtain ⟨t, o, i2, r, rfl, z1⟩ := am_ri_s h
    by_cases h21 : t = 21
    · subst h21
      obtain ⟨h1, z2⟩ := am_if_s (show (if 0 ≤ i2 ∧ i2 < am_len o then _ else none) = some b from z1)
      exact am_c_aaload_L hG (am_dec1 hj hh hi rfl) h1 (hk _ _ _ _ z2)
    rw [if_neg h21] at z1
    obtain ⟨rfl, z3⟩ := am_if_s z1
    obtain ⟨h1, z4⟩ := am_if_s z3
    exact am_c_aaload_C hG (am_dec1 hj hh hi rfl) h1 (hk _ _ _ _ z4)
  | iastore =>
    obtain ⟨t, o, i2, x, r, rfl, z1⟩ := am_rii_s h
    obtain ⟨rfl, z2⟩ := am_if_s z1
    obtain ⟨h1, z3⟩ := am_if_s z2
    exact am_c_iastore hG (am_dec1 hj hh hi rfl) h1 (hk _ _ _ _ z3)
  | lastore =>
    obtain ⟨t, o, i2, x, r, rfl, z1⟩ := am_ril_s h
    obtain ⟨rfl, z2⟩ := am_if_s z1
    obtain ⟨h1, z3⟩ := am_if_s z2
    exact am_c_lastore hG (am_dec1 hj hh hi rfl) h1 (hk _ _ _ _ z3)
  | castore =>
    obtain ⟨t, o, i2, x, r, rfl, z1⟩ := am_rii_s h
    obtain ⟨rfl, z2⟩ := am_if_s z1
    obtain ⟨h1, z3⟩ := am_if_s z2
    exact am_c_castore hG (am_dec1 hj hh hi rfl) h1 (hk _ _ _ _ z3)
  | bastore =>
    obtain ⟨t, o, i2, x, r, rfl, z1⟩ := am_rii_s h
    by_cases h19 : t = 19
    · subst h19
      obtain ⟨h1, z2⟩ := am_if_s (show (if 0 ≤ i2 ∧ i2 < am_len o then _ else none) = some b from z1)
      exact am_c_bastore hG (am_dec1 hj hh hi rfl) h1 (hk _ _ _ _ z2)
    rw [if_neg h19] at z1
    obtain ⟨rfl, z3⟩ := am_if_s z1
    obtain ⟨h1, z4⟩ := am_if_s z3
    exact am_c_zastore hG (am_dec1 hj hh hi rfl) h1 (hk _ _ _ _ z4)
  | arraylength =>
    obtain ⟨t, o, r, rfl, z1⟩ := am_r1_s h
    by_cases h1 : 16 ≤ t ∧ t ≤ 22
    · rw [if_pos h1] at z1
      exact am_c_len hG (am_dec1 hj hh hi rfl) h1 (hk _ _ _ _ z1)
    rw [if_neg h1] at z1
    by_cases h30 : t = 30
    · rw [if_pos h30] at z1
      subst h30
      exact am_c_klen hG (am_dec1 hj hh hi rfl) (hk _ _ _ _ z1)
    rw [if_neg h30] at z1
    by_cases h32 : t = 32
    · rw [if_pos h32] at z1
      subst h32
      exact am_c_slen hG (am_dec1 hj hh hi rfl) (hk _ _ _ _ z1)
    rw [if_neg h32] at z1
    obtain ⟨⟨rfl, h0, hjl⟩, z2⟩ := am_if_s z1
    exact am_c_sclen hG hjl h0 (am_dec1 hj hh hi rfl) (hk _ _ _ _ z2)
  | getstatic x =>
    obtain ⟨v, h1, h2⟩ := am_op_s h
    exact am_c_getstatic hG (am_dec1 hj hh hi rfl) h1 (hk _ _ _ _ h2)
  | invokevirtual x =>
    obtain ⟨q, hq, z1⟩ := am_op_s h
    obtain ⟨h1, h2, h3, z, μ', h4, h5⟩ := am_call_s z1
    have hn : q.1 < am_nm := by
      by_cases hn : q.1 < am_nm
      · exact hn
      · rw [hE2 q.1 _ _ (by omega)] at h4; cases h4
    have hc := (am_dec hj hh hi).2.2
    have hc : (match tb_m (am_mo j) x with | some q => decide (am_md q.1 + 1 ≤ am_md j) && decide (8 + (am_ml q.1 + 11) + am_lr q.1 ≤ am_lr j) && decide (am_rcg q.1 ≠ 0) | none => true) = true := hc
    rw [hq] at hc
    simp only [Bool.and_eq_true, decide_eq_true_eq] at hc
    exact am_c_invokevirtual hG hn (am_dec1 hj hh hi rfl) hq hc.1 hc.2 h1 h2 h3 (hE q.1) h4 (hk _ _ _ _ h5)
  | invokestatic x =>
    obtain ⟨q, hq, z1⟩ := am_op_s h
    obtain ⟨h1, h2, h3, z, μ', h4, h5⟩ := am_call_s z1
    have hn : q.1 < am_nm := by
      by_cases hn : q.1 < am_nm
      · exact hn
      · rw [hE2 q.1 _ _ (by omega)] at h4; cases h4
    have hc := (am_dec hj hh hi).2.2
    have hc : (match tb_m (am_mo j) x with | some q => decide (am_md q.1 + 1 ≤ am_md j) && decide (8 + (am_ml q.1 + 11) + am_lr q.1 ≤ am_lr j) && decide (am_rcg q.1 = 0) | none => true) = true := hc
    rw [hq] at hc
    simp only [Bool.and_eq_true, decide_eq_true_eq] at hc
    exact am_c_invokestatic hG hn (am_dec1 hj hh hi rfl) hq hc.1 hc.2 h1 h2 (hE q.1) h4 (hk _ _ _ _ h5)
  | ireturn =>
    obtain ⟨x, r, rfl, z1⟩ := am_i1_s h
    rcases r with _ | ⟨a, r⟩
    · obtain ⟨h1, t, h2, h3, h4⟩ := am_rt_s z1
      obtain ⟨rfl, rfl, rfl⟩ := hr x μ h1
      exact am_c_ireturn hG hj hret (am_dec1 hj hh hi rfl) h2 h3 h4
    · cases z1
  | lreturn =>
    obtain ⟨x, r, rfl, z1⟩ := am_l1_s h
    rcases r with _ | ⟨a, r⟩
    · obtain ⟨h2, h1⟩ := am_if_s z1
      obtain ⟨rfl, rfl, rfl⟩ := hr x μ h1
      exact am_c_lreturn hG hj hret (am_dec1 hj hh hi rfl) h2
    · cases z1
  | areturn =>
    obtain ⟨t, o, r, rfl, z1⟩ := am_r1_s h
    rcases r with _ | ⟨a, r⟩
    · obtain ⟨⟨h2, rfl⟩, h1⟩ := am_if_s z1
      obtain ⟨rfl, rfl, rfl⟩ := hr _ μ h1
      exact am_c_areturn hG hj hret (am_dec1 hj hh hi rfl) h2
    · cases z1
  | return_ =>
    rcases st with _ | ⟨a, r⟩
    · obtain ⟨h2, h1⟩ := am_if_s h
      obtain ⟨rfl, rfl, rfl⟩ := hr _ μ h1
      exact am_c_vreturn hG hj hret (am_dec1 hj hh hi rfl) h2
    · cases h
  | _ => cases h
/-- a stretch -/
theorem am_run_ok {β : Type} {E : Nat → am_F} {sc : Nat × (Nat → Int)} {X : am_K} {C : am_C} {j cells slots : Nat} {Q : State → Prop} (hG : am_G X C j cells slots sc) (hj : j < 235) (hh : am_hd j) (hE : ∀ i, am_Sd i (E i)) (hE2 : ∀ i vs μ, am_nm ≤ i → E i vs μ = none) (hret : match X with | (_, _, _, _, _, _, _, _, meth, _) => meth.sig.returnType = am_mr j ∧ meth.locks = false) {stop : Nat → Bool} {kx : Nat → am_L → List am_V → am_M → Option β} {kr : Int → am_M → Option β} {b : β} (hk : ∀ pc' lv' st' μ', kx pc' lv' st' μ' = some b → am_W X C j Q cells slots pc' lv' st' μ') (hr : ∀ x μ', kr x μ' = some b → Q = am_E X C j x μ' ∧ cells = 0 ∧ slots = 0) : ∀ (n pc : Nat) (lv : am_L) (st : List am_V) (μ : am_M), am_run E sc j stop kx kr n pc lv st μ = some b → am_W X C j Q cells slots pc lv st μ
  | 0, _, _, _, _, h => by cases h
  | n + 1, pc, lv, st, μ, h => by
    unfold am_run at h
    split at h
    · cases h
    · rename_i i hi
      refine am_step_ok hG hj hh hE hE2 hret (fun pc' lv' st' μ' h2 => ?_) hr hi h
      by_cases hs : stop pc' = true
      · rw [if_pos hs] at h2
        exact hk _ _ _ _ h2
      · rw [if_neg hs] at h2
        exact am_run_ok hG hj hh hE hE2 hret hk hr n _ _ _ _ h2
