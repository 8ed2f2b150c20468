/-! ChartPress.draw()'s contract: it gives back, or throws. -/
theorem am_P_grow {D : va_G} {cl : List vw_C} {ws : va_W} {H H1 : Heap} (h : va_P D cl ws H) (hq : ∀ q : Nat, q < H.size → H1[q]? = H[q]?) : va_P D cl ws H1 := by
  refine h.kept (fun k q hk => hq _ ?_)
  have z := h k q hk
  obtain ⟨a, b | b⟩ := q
  · have z : H[a]? = some _ := z
    exact (Array.getElem?_eq_some_iff.mp z).1
  · obtain ⟨r, r1, cell, r2, r3⟩ := z
    exact (Array.getElem?_eq_some_iff.mp r2).1
def am_rmD : Room := { frames := am_md 232, cells := 1, slots := 6, locals := am_lr 232 }
def am_PD (C : am_C) (μ : am_M) (o : Nat) : Array Value → State → Prop := fun a U => am_Pc C μ [.inr (.inr (0, o))] a U ∧ am_dx C.2.2.2.1 U U.heap
def am_QD (C : am_C) (r : (Int × am_M) ⊕ (Nat × am_M)) : Array Value → State → Outcome → State → Prop := fun a st oc t => match r with
  | .inl (x, μ') => am_Q C (am_rk 232) (am_rtg 232) x μ' a st oc t ∧ ∃ L, FrameEnd st oc t L 0 0 ∧ ∀ q ∈ L, C.2.2.2.1 q.base
  | .inr (k, μ') => ∃ (ad : Nat) (ce : Cell) (L : List Loc), oc = .threw ad ∧ va_P C.1 am_cl (am_ws C μ') t.heap ∧ va_D C.2.2.2.1 (am_ws C μ') ∧ va_F C.2.2.2.1 st t ∧ am_okM μ' ∧ st.WarmedH t.vm ∧ st.sameButNew ({ t with vm := st.vm } : State) L 1 6 ∧ (∀ q ∈ L, C.2.2.2.1 q.base) ∧ t.heap[ad]? = some ce ∧ ce.vm = .none ∧ st.vm.findClass (am_ex k).2 = some ce.cls
theorem am_y232 : plainFor (am_my 232) = true ∧ (am_my 232).cls = am_cn (am_mo 232) := by decide +kernel
theorem sd232 {l : Launch} (hl : l.stackTraces = false) {C : am_C} {o : Nat} {μ : am_M} {r : (Int × am_M) ⊕ (Nat × am_M)} (hz : fn232 o μ = some r) (hv : am_ok (.inr (.inr (0, o)))) (hM : am_okM μ) : MetFree l (am_my 232) (headSpec (am_w 232) am_rmD) (am_PD C μ o) (fun _ _ _ _ _ => True) (am_QD C r) := by
  obtain ⟨y1, y4⟩ := am_y232
  refine MetFree.of_bodySF (code := am_mc 232) (maxLocals := am_ml 232) (ret := am_mr 232) y1 ?_ ?_
  · intro args s m h hn
    obtain ⟨meth, c, h1, h2, h3, h4, h5, h6, -, -⟩ := Cond.code_spec hn (atoms_spec (ws := am_w 232) h _ List.mem_cons_self)
    exact ⟨meth, c, h1, h2, h3, h4, h5, h6⟩
  · intro p e s m args below meth c s₁ B hml hv2 _
    obtain ⟨⟨rfl, hP, hD, hK, hk, hA⟩, hdx⟩ := hv2
    have hts := atoms_spec (ws := am_w 232) B.pre
    have hown : s.vm.findClass (am_cn (am_mo 232)) = some m.cls := by rw [← y4]; exact findClass_of_methodNamed B.named
    have hl2 := lv_entry (([.inr (.inr (0, o))] : List am_V).map (am_v C)) (n := am_ml 232) (by rw [am_sl_len]; exact ml232 0 (by decide))
    rw [am_args_map C 0 [.inr (.inr (0, o))]] at hl2
    have hW := dr232 (X := (p, l, e, (headSpec (am_w 232) am_rmD).room, s, m, (([.inr (.inr (0, o))] : List am_V).map (am_v C)).toArray, below, meth, c)) (C := C) ⟨B.exec, B.bytes, hml, hown, fun w hw => hts w (List.mem_cons_of_mem _ hw), hK, hk, hA, Nat.le_refl _, Nat.le_refl _, Nat.zero_le _, Nat.zero_le _, fun e => absurd e (by decide)⟩ ⟨hl, hdx, B.noHandlers (hts _ List.mem_cons_self), ⟨B.returns, B.notSynchronized⟩, Nat.le_refl _, Nat.le_refl _⟩ hz
    have hh0 : s₁.heap = s.heap := by rw [B.state]; rfl
    obtain ⟨t, a1, b⟩ := hW (fun q hq => by rw [List.mem_singleton.mp hq]; exact hv) (fun v h => by cases h) hM s.heap [] _ hP hD va_S.rf hl2 s₁ hh0 (Stand.of_body B)
    rw [lg_entry_eq]
    rcases r with ⟨x, μ'⟩ | ⟨k, μ'⟩
    · obtain ⟨oc, b1, b2, b3⟩ := b
      exact ⟨t, oc, a1, b1, b2, b3⟩
    · obtain ⟨H, locs, c1, c2, c3, c4, ad, ce, c5, c6, c7, c8, c9, c10, c11, c12, c13⟩ := b
      exact ⟨t, .threw ad, a1, c5, c6, ad, ce, locs, rfl, am_P_grow c1 c9, c2, ⟨Nat.le_trans c3.1 c10, fun q h1 h2 => by rw [c9 q (Nat.lt_of_lt_of_le h1 c3.1)]; exact c3.2.1 q h1 h2⟩, c4, c7, c8, c3.2.2, c11, c12, c13⟩
