/-! Contracts over the abstract machine, calls, returns. -/
def am_w (j : Nat) : List Cond := .code (am_my j) (am_mc j) (am_ml j) (am_mr j) :: am_TS
def am_rm (j : Nat) : Room := { frames := am_md j, cells := 0, slots := 0, locals := am_lr j }
def am_Pc (C : am_C) (μ : am_M) (vs : List am_V) : Array Value → State → Prop := va_Pc (vs.map (am_v C)) (fun U => va_P C.1 am_cl (am_ws C μ) U.heap ∧ va_D C.2.2.2.1 (am_ws C μ) ∧ va_K C.1 am_cl (am_tys C) U ∧ am_kst C U U.heap ∧ ∀ q, U.heap.size ≤ q → C.2.2.2.1 q)
def am_Q (C : am_C) (rk rt : Nat) (x : Int) (μ : am_M) : Array Value → State → Outcome → State → Prop := fun _ st oc t => oc = .returned ((am_rv rk rt x).head?.map (am_v C)) ∧ va_P C.1 am_cl (am_ws C μ) t.heap ∧ va_D C.2.2.2.1 (am_ws C μ) ∧ va_F C.2.2.2.1 st t ∧ am_okM μ ∧ ∀ v ∈ am_rv rk rt x, am_ok v
/-- method j answers as f says -/
def am_Sd (j : Nat) (f : am_F) : Prop := ∀ (l : Launch) (C : am_C) (vs : List am_V) (μ μ' : am_M) (x : Int), f vs μ = some (x, μ') → (∀ v ∈ vs, am_ok v) → am_okM μ → Met l (am_my j) (am_w j) (am_rm j) (am_Pc C μ vs) (am_Q C (am_rk j) (am_rtg j) x μ') 0 0 C.2.2.2.1
theorem am_Sd_none (j : Nat) : am_Sd j (fun _ _ => none) := fun _ _ _ _ _ _ h => by cases h
theorem am_kst.next {C : am_C} {s U : State} {H0 H : Heap} (h : am_kst C s H0) (hW : s.WarmedH U.vm) (hq : ∀ a : Nat, a < H0.size → ¬ C.2.2.2.1 a → H[a]? = H0[a]?) : am_kst C U H := by
  obtain ⟨h1, h2, h3, h4, h5, h6, v, h7, h8⟩ := h
  exact ⟨fun i q hi => (h1 i q hi).warm hW, (h2.kept hq).moved hW.alike, (h3.kept hq).moved hW.alike, (h4.kept hq).moved hW.alike, (h5.kept hq).moved hW.alike, fun o ho => ((h6 o ho).kept hq).moved hW.alike, v, h7, (h8.kept hq).moved hW.alike⟩
theorem am_kst.same {C : am_C} {s U : State} {H : Heap} (h : am_kst C s H) (hv : U.vm = s.vm) : am_kst C U H := by
  obtain ⟨h1, h2, h3, h4, h5, h6, v, h7, h8⟩ := h
  have ha : s.vm.Alike U.vm := by rw [hv]; exact Vm.Alike.refl s.vm
  exact ⟨fun i q hi => (h1 i q hi).same hv, h2.moved ha, h3.moved ha, h4.moved ha, h5.moved ha, fun o ho => (h6 o ho).moved ha, v, h7, h8.moved ha⟩
theorem am_blind (C : am_C) (μ : am_M) (vs : List am_V) : FrameBlind (am_Pc C μ vs) := by
  intro a U g mk q
  obtain ⟨q0, qP, qD, qK, qk, qA⟩ := q
  exact ⟨q0, qP, qD, va_K.moved (u := U) (U := U.calling g mk a) (Vm.Alike.refl U.vm) qK, qk.same rfl, qA⟩
theorem am_good (j : Nat) (h : j < am_nm) : GoodIn am_TS (am_w j) := by
  intro w hw
  have hm : w ∈ am_TS := by
    rcases List.mem_cons.mp hw with rfl | h2
    · exact List.mem_filter.mpr ⟨List.mem_append_right _ (am_cw_all j h), rfl⟩
    · exact h2
  exact ⟨hm, good_of_word (List.mem_filter.mp hm).2⟩
/-- Met out of a walk of the body, also for classes some of whose methods are run otherwise -/
theorem am_ofW {l : Launch} {y : MethodName} {ws ws' : List Cond} {rm : Room} {Pc : Array Value → State → Prop} {Qc : Array Value → State → Outcome → State → Prop} {mc ms : Nat} {free : Addr → Prop} {cc : ByteArray} {maxL : Nat} {ret : Option FieldType}
    (hy : plainFor y = true) (hw : ws = Cond.code y cc maxL ret :: ws')
    (body : ∀ p e s m args below meth c s₁, BodyLoose p l y (headSpec ws rm) cc maxL ret e s m args below meth c s₁ → c.maxLocals = maxL → Pc args s →
      W p l e (headSpec ws rm).room s m args below meth c s.heap [] 0 0 (MQ below Qc args s mc ms free) (entryFrame m args maxL)) : Met l y ws rm Pc Qc mc ms free := by
  refine MetFree.of_bodySF (code := cc) (maxLocals := maxL) (ret := ret) hy ?_ ?_
  · intro args s m h hn
    obtain ⟨meth, c, h1, h2, h3, h4, h5, h6, -, -⟩ := Cond.code_spec hn (atoms_spec (ws := ws) h _ (by rw [hw]; exact List.mem_cons_self))
    exact ⟨meth, c, h1, h2, h3, h4, h5, h6⟩
  · intro p e s m args below meth c s₁ B hml hP _
    have hh0 : s₁.heap = s.heap := by rw [B.state]; rfl
    obtain ⟨t, a1, o, b1, b2, b3⟩ := body p e s m args below meth c s₁ B hml hP s₁ hh0 (Stand.of_body B)
    exact ⟨t, o, a1, b1, b2, ⟨b3.1, b3.2⟩⟩
theorem am_yok {j : Nat} (h : j < am_nm) : plainFor (am_my j) = true ∧ (am_my j).cls ≠ "java/lang/invoke/MethodHandle" ∧ (am_my j).cls ≠ "java/lang/invoke/VarHandle" ∧ (am_my j).cls = am_cn (am_mo j) ∧ Cond.initialized (am_my j).cls ∈ am_TS ∧ (am_rcg j = 0 → Cond.static (am_my j) ∈ am_TS) ∧ (am_rcg j ≠ 0 → Cond.instanceMethod (am_my j) ∈ am_TS ∧ Cond.selects (am_my j).cls (am_my j) (am_my j) ∈ am_TS) ∧ (am_rcg j = 0 ∨ (am_rcg j = 32 ∧ (am_my j).cls = "java/lang/String") ∨ (0 < am_rcg j ∧ am_rcg j < 13 ∧ (am_cl[am_rcg j - 1]?).map (fun q => q.1) = some (am_my j).cls)) := by
  have z := ck_y_all (j := j) (Nat.lt_of_lt_of_le h (by decide))
  unfold ck_y at z
  simp only [Bool.and_eq_true, Bool.or_eq_true, decide_eq_true_eq] at z
  obtain ⟨⟨⟨⟨⟨⟨z1, z2⟩, z3⟩, z4⟩, z5⟩, z6⟩, z7⟩ := z
  refine ⟨z3, z4, z5, z6, am_in_1 z2 rfl, fun e => ?_, fun e => ?_, ?_⟩
  · rw [if_pos e] at z1
    simp only [decide_eq_true_eq] at z1
    exact am_in_1 z1 rfl
  · rw [if_neg e] at z1
    simp only [Bool.and_eq_true, decide_eq_true_eq] at z1
    exact ⟨am_in_1 z1.1 rfl, am_in_2 z1.2 rfl⟩
  · rcases z7 with (z7 | z7) | z7
    · exact Or.inl z7
    · exact Or.inr (Or.inl z7)
    · exact Or.inr (Or.inr z7)
def am_args : Nat → List am_V → am_L
  | _, [] => []
  | i, v :: vs => (i, v) :: am_args (if am_cat v = 2 then i + 2 else i + 1) vs
theorem am_args_map (C : am_C) : ∀ (i : Nat) (vs : List am_V), lv_args i (vs.map (am_v C)) = (am_args i vs).map fun q => (q.1, am_v C q.2)
  | _, [] => rfl
  | i, v :: vs => by
    show (i, am_v C v) :: lv_args (if (am_v C v).category = 2 then i + 2 else i + 1) (vs.map (am_v C)) = (i, am_v C v) :: (am_args (if am_cat v = 2 then i + 2 else i + 1) vs).map fun q => (q.1, am_v C q.2)
    rw [am_v_cat, am_args_map C _ vs]
theorem am_args_ok : ∀ (i : Nat) (vs : List am_V), (∀ v ∈ vs, am_ok v) → ∀ q ∈ am_args i vs, am_ok q.2
  | _, [], _, q, hq => by cases hq
  | i, v :: vs, h, q, hq => by
    rcases List.mem_cons.mp hq with rfl | h2
    · exact h v List.mem_cons_self
    · exact am_args_ok _ vs (fun w hw => h w (List.mem_cons_of_mem _ hw)) q h2
/-- where a walk must end: method j gives x back, the memory is μ' -/
def am_E (X : am_K) (C : am_C) (j : Nat) (x : Int) (μ' : am_M) : State → Prop := match X with
  | (_, _, _, _, s, _, args, below, _, _) => MQ below (am_Q C (am_rk j) (am_rtg j) x μ') args s 0 0 C.2.2.2.1
def am_slots (vs : List am_V) : Nat := (vs.map am_cat).sum
theorem am_sl_len (C : am_C) (vs : List am_V) : (lg_sl (vs.map (am_v C))).length = am_slots vs := by
  unfold lg_sl am_slots
  induction vs with
  | nil => rfl
  | cons v r ih =>
    simp only [List.map_cons, List.flatMap_cons, List.length_append, List.sum_cons]
    rw [ih, am_v_cat]
    have h : am_cat v = 1 ∨ am_cat v = 2 := by unfold am_cat; split <;> simp
    rcases h with h | h <;> simp [h]
/-- a contract out of a walk -/
theorem am_Sd_of {j : Nat} {f : am_F} (hj : j < am_nm) (h : ∀ (vs : List am_V) (μ μ' : am_M) (x : Int), f vs μ = some (x, μ') → (∀ v ∈ vs, am_ok v) → am_okM μ → am_slots vs ≤ am_ml j ∧ ∀ (X : am_K) (C : am_C), am_G X C j 0 0 (0, fun _ => 0) → (match X with | (_, _, _, _, _, _, _, _, meth, _) => meth.sig.returnType = am_mr j ∧ meth.locks = false) → am_W X C j (am_E X C j x μ') 0 0 0 (am_args 0 vs) [] μ) : am_Sd j f := by
  intro l C vs μ μ' x hf hv hM
  obtain ⟨hsl, hW⟩ := h vs μ μ' x hf hv hM
  obtain ⟨y1, y2, y3, y4, y5, y6, y7, y8⟩ := am_yok hj
  refine am_ofW (cc := am_mc j) (maxL := am_ml j) (ret := am_mr j) y1 rfl ?_
  intro p e s m args below meth c s₁ B hml hv2
  obtain ⟨rfl, hP, hD, hK, hk, hA⟩ := hv2
  have hts := atoms_spec (ws := am_w j) B.pre
  have hown : s.vm.findClass (am_cn (am_mo j)) = some m.cls := by rw [← y4]; exact findClass_of_methodNamed B.named
  have hl := lv_entry (vs.map (am_v C)) (n := am_ml j) (by rw [am_sl_len]; exact hsl)
  rw [lg_entry_eq]
  rw [am_args_map C 0 vs] at hl
  exact hW (p, l, e, (headSpec (am_w j) (am_rm j)).room, s, m, (vs.map (am_v C)).toArray, below, meth, c) C ⟨B.exec, B.bytes, hml, hown, fun w hw => hts w (List.mem_cons_of_mem _ hw), hK, hk, hA, Nat.le_refl _, Nat.le_refl _, Nat.le_refl _, Nat.le_refl _, fun e => absurd e (Nat.ne_of_lt (Nat.lt_of_lt_of_le hj (by decide)))⟩ ⟨B.returns, B.notSynchronized⟩ (am_args_ok 0 vs hv) (fun v h => by cases h) hM s.heap [] _ hP hD va_S.rf hl
theorem am_rv_list (rk rt : Nat) (x : Int) (C : am_C) : ((am_rv rk rt x).head?.map (am_v C)).toList = (am_rv rk rt x).map (am_v C) := by
  unfold am_rv
  split <;> rfl
section C3
variable {p : Program} {l : Launch} {e : Env} {R : Room} {s : State} {m : MethodId} {args : Array Value} {below : List Frame} {meth : Method} {c : Code} {H : Heap} {locs : List Loc} {cells slots : Nat} {Q : State → Prop} {pc : Nat} {ls : Array Slot} {rest st0 : List Value} {a : Array Value}
theorem am_callk {C : am_C} {rk rt : Nat} {x : Int} {μ' : am_M} (hr : va_Run p l e R s m args below meth c H locs cells slots 0 0 (F0 m pc ls st0) rest (am_Q C rk rt x μ' a) C.2.2.2.1) (hS : va_S C.2.2.2.1 s.heap H locs)
    (kk : am_okM μ' → (∀ v ∈ am_rv rk rt x, am_ok v) → ∀ (H1 : Heap) (locs1 : List Loc), va_P C.1 am_cl (am_ws C μ') H1 → va_D C.2.2.2.1 (am_ws C μ') → va_S C.2.2.2.1 s.heap H1 locs1 → W p l e R s m args below meth c H1 locs1 cells slots Q (F0 m (pc + 3) ls ((am_rv rk rt x).map (am_v C) ++ rest))) : W p l e R s m args below meth c H locs cells slots Q (F0 m pc ls st0) := by
  intro T hT X
  obtain ⟨v, st₀, t, T', L, h0, X', hL, e1, e2, ⟨hv, hP, hD, ⟨hz, hk⟩, hM, ho⟩, st⟩ := hr T hT X
  cases hv
  rw [h0] at hz hk
  rw [am_rv_list] at st
  obtain ⟨t2, a1, b1⟩ := kk hM ho T'.heap (locs ++ L) (by rw [e1]; exact hP) hD
    ⟨Nat.le_trans hS.1 (by rw [e1]; exact hz), fun q h1 h2 => by rw [e1, hk q (Nat.lt_of_lt_of_le h1 hS.1) h2]; exact hS.2.1 q h1 h2, fun q hq => by
      rcases List.mem_append.mp hq with h | h
      · exact hS.2.2 q h
      · exact hL q h⟩ T' rfl X'
  exact ⟨t2, st t2 a1, b1⟩
end C3
theorem am_m_ok {own x : Nat} {q : Nat × Nat × Nat × Nat} (h : tb_m own x = some q) (ho : q.1 < am_nm) : q.1 < am_nm ∧ q.2.2.1 = am_rk q.1 ∧ q.2.2.2 = am_rtg q.1 ∧ Cond.methodLink (am_cn own) x (am_my q.1) ∈ am_TS ∧ (parseMethodDescriptor (am_my q.1).desc).map (fun d => d.parameters.length) = some (if am_rcg q.1 = 0 then q.2.1 else q.2.1 - 1) ∧ (am_rcg q.1 = 0 ∨ 0 < q.2.1) := by
  unfold tb_m at h
  obtain ⟨hb, h⟩ := am_if_s h
  have z := am_range2 ck_m_all hb.1 hb.2
  unfold ck_m at z
  rw [h] at z
  simp only [Bool.and_eq_true, Bool.or_eq_true, decide_eq_true_eq] at z
  rcases z with z | z
  · omega
  · obtain ⟨⟨⟨⟨⟨z1, z2⟩, z3⟩, z4⟩, z5⟩, z6⟩ := z
    exact ⟨z1, z2, z3, am_in_1 z4 rfl, z5, z6⟩
