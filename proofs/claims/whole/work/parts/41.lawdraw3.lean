/-! ChartPressLaw.draw()'s contract. -/
def fn233 (o a : Nat) (μ : am_M) : Option (Int × am_M) := match fn232 o μ with
  | some (.inl (x, μ')) => some (0, am_up μ' a 0 x)
  | some (.inr (k, μ')) => some ((k : Int) + 1, μ')
  | none => none
theorem fn232_k {o k : Nat} {μ μ' : am_M} (h : fn232 o μ = some (.inr (k, μ'))) : k < 5 := by
  unfold fn232 am_op at h
  repeat' (first | (dsimp only at h; split at h) | split at h)
  all_goals first | (cases h; done) | (cases h; decide)
theorem d233_0 : decode (am_mc 233) 0 = .ok (.aload_n 1, 1) := by decide +kernel
theorem d233_1 : decode (am_mc 233) 1 = .ok (.iconst 0, 1) := by decide +kernel
theorem d233_2 : decode (am_mc 233) 2 = .ok (.aload_n 0, 1) := by decide +kernel
theorem d233_3 : decode (am_mc 233) 3 = .ok (.invokevirtual 7, 3) := by decide +kernel
theorem d233_6 : decode (am_mc 233) 6 = .ok (.i2l, 1) := by decide +kernel
theorem d233_7 : decode (am_mc 233) 7 = .ok (.lastore, 1) := by decide +kernel
theorem d233_8 : decode (am_mc 233) 8 = .ok (.goto 18, 3) := by decide +kernel
theorem d233_26 : decode (am_mc 233) 26 = .ok (.iconst 0, 1) := by decide +kernel
theorem d233_27 : decode (am_mc 233) 27 = .ok (.ireturn, 1) := by decide +kernel
theorem d233_h {k : Nat} (h : k < 5) : decode (am_mc 233) (11 + 3 * k) = .ok (.astore_n 2, 1) ∧ decode (am_mc 233) (11 + 3 * k + 1) = .ok (.iconst ((k : Int) + 1), 1) ∧ decode (am_mc 233) (11 + 3 * k + 1 + 1) = .ok (.ireturn, 1) := by
  rcases k with _ | _ | _ | _ | _ | k
  iterate 5 exact ⟨by decide +kernel, by decide +kernel, by decide +kernel⟩
  omega
theorem t233 : am_mo 233 = 12 ∧ am_rk 233 = 1 ∧ am_mr 233 = some .int ∧ am_ml 233 = 3 ∧ plainName (am_my 233).cls = true ∧ (am_my 233).cls = am_cn (am_mo 233) := by decide +kernel
theorem dp233 : am_md 232 + 1 ≤ am_md 233 ∧ 8 + (am_ml 232 + 11) + am_lr 232 ≤ am_lr 233 := by decide +kernel
theorem rg232 : am_rcg 232 = 0 + 1 := by decide +kernel
def am_wD2 : List Cond := .codeWith (am_my 233) (am_mc 233) (am_ml 233) (am_mr 233) am_hh :: am_TS
def am_rmD2 : Room := { frames := am_md 233, cells := 1, slots := 6, locals := am_lr 233 }
def am_PD2 (C : am_C) (μ : am_M) (o a : Nat) : Array Value → State → Prop := fun v U => am_Pc C μ [.inr (.inr (0, o)), .inr (.inr (17, a))] v U ∧ am_dx C.2.2.2.1 U U.heap ∧ am_nc U
theorem am_MQ_mono {below : List Frame} {Qc : Array Value → State → Outcome → State → Prop} {a : Array Value} {s : State} {free : Addr → Prop} {c n c' n' : Nat} (hc : c ≤ c') (hn : n ≤ n') (t : State) (h : MQ below Qc a s c n free t) : MQ below Qc a s c' n' free t := by
  obtain ⟨o, h1, h2, h3, L, ⟨h4, h5, h6⟩, h7⟩ := h
  exact ⟨o, h1, h2, h3, L, ⟨h4, h5, h6.mono hc hn⟩, h7⟩
theorem am_W_imp {X : am_K} {C : am_C} {j cells slots pc : Nat} {Q Q' : State → Prop} {lv : am_L} {st : List am_V} {μ : am_M} (h : am_W X C j Q cells slots pc lv st μ) (hQ : ∀ t, Q t → Q' t) : am_W X C j Q' cells slots pc lv st μ := by
  obtain ⟨p, l, e, R, s, m, args, below, meth, c⟩ := X
  intro o1 o2 o3 H locs ls hP hD hS hl
  exact W.imp (h o1 o2 o3 H locs ls hP hD hS hl) hQ
set_option maxHeartbeats 1000000 in
theorem sd233 {l : Launch} (hl : l.stackTraces = false) {C : am_C} {o a : Nat} {μ μ' : am_M} {x : Int} (hz : fn233 o a μ = some (x, μ')) (ho : am_ok (.inr (.inr (0, o)))) (ha : am_ok (.inr (.inr (17, a)))) (hal : 0 < am_len a) (hM : am_okM μ) : Met l (am_my 233) am_wD2 am_rmD2 (am_PD2 C μ o a) (am_Q C (am_rk 233) (am_rtg 233) x μ') 1 6 C.2.2.2.1 := by
  obtain ⟨t1, t2, t3, t4, t5, t6⟩ := t233
  refine va_MetW (cc := am_mc 233) (maxL := am_ml 233) (ret := am_mr 233) (hh := am_hh) t5 rfl ?_
  intro p e s m args below meth c s₁ B hml hv2
  obtain ⟨⟨rfl, hP, hD, hK, hk, hA⟩, hdx, hnc⟩ := hv2
  have hts0 := atoms_spec (ws := am_wD2) B.pre
  have hts : ∀ w ∈ am_TS, w.before _ s = true := fun w hw => hts0 w (List.mem_cons_of_mem _ hw)
  obtain ⟨m9, meth', c', hn9, h1, h2, h3, h4, htab, h5, h6, -⟩ := Cond.codeWith_spec (hts0 _ List.mem_cons_self)
  cases B.named.symm.trans hn9
  cases B.method.symm.trans h1
  cases (Stand.of_body B).code.symm.trans h2
  have hown : s.vm.findClass (am_cn (am_mo 233)) = some m.cls := by rw [← t6]; exact findClass_of_methodNamed B.named
  have hown2 : s.vm.findClass "ChartPressLaw" = some m.cls := by rw [t1, am_y233.1] at hown; exact hown
  have hl2 := lv_entry (([.inr (.inr (0, o)), .inr (.inr (17, a))] : List am_V).map (am_v C)) (n := am_ml 233) (by rw [am_sl_len, t4]; exact Nat.le_of_ble_eq_true rfl)
  rw [lg_entry_eq]
  rw [am_args_map C 0 [.inr (.inr (0, o)), .inr (.inr (17, a))]] at hl2
  have hG : am_G (p, l, e, (headSpec am_wD2 am_rmD2).room, s, m, (([.inr (.inr (0, o)), .inr (.inr (17, a))] : List am_V).map (am_v C)).toArray, below, meth, c) C 233 0 0 (0, fun _ => 0) := ⟨B.exec, B.bytes, hml, hown, hts, hK, hk, hA, Nat.le_refl _, Nat.le_refl _, Nat.zero_le _, Nat.zero_le _, fun e => absurd e (by decide)⟩
  have key : am_W (p, l, e, (headSpec am_wD2 am_rmD2).room, s, m, (([.inr (.inr (0, o)), .inr (.inr (17, a))] : List am_V).map (am_v C)).toArray, below, meth, c) C 233 (MQ below (am_Q C (am_rk 233) (am_rtg 233) x μ') (([.inr (.inr (0, o)), .inr (.inr (17, a))] : List am_V).map (am_v C)).toArray s 1 6 C.2.2.2.1) 0 0 0 [(0, .inr (.inr (0, o))), (1, .inr (.inr (17, a)))] [] μ := by
    refine am_c_aload_n hG d233_0 (t := 17) (o := a) rfl (am_c_iconst hG d233_1 (by decide) (am_c_aload_n hG d233_2 (t := 0) (o := o) rfl ?_))
    unfold fn233 at hz
    split at hz
    · rename_i y μ1 hf
      cases hz
      refine am_c_invokevirtual hG (q := (232, 1, 1, 0)) (by decide) d233_3 (by rw [t1]; exact am_y233.2.2) dp233 (by show am_rcg 232 ≠ 0; rw [rg232]; decide) (by show 1 ≤ 3; decide) (Nat.le_of_ble_eq_true rfl) (by rw [rg232]; rfl) sdn232 (z := y) (μ' := μ1) (by show (match fn232 o μ with | some (.inl z) => some z | _ => none) = _; rw [hf]) ?_
      refine am_c_i2l hG d233_6 (am_c_lastore hG d233_7 ⟨by decide, by exact_mod_cast hal⟩ (am_c_goto hG d233_8 (by decide) (am_c_iconst hG d233_26 (by decide) ?_)))
      exact am_W_imp (am_c_ireturn hG (by decide) ⟨by rw [t3]; exact h5.trans t3, h6⟩ d233_27 (t := .int) t3 rfl (Or.inl rfl)) (fun t ht => am_MQ_mono (Nat.zero_le _) (Nat.zero_le _) t ht)
    · rename_i k μ1 hf
      cases hz
      have hk5 := fn232_k hf
      intro o1 o2 o3 H locs ls hP1 hD1 hS1 hl1
      refine am_catchW B.exec hml hown2 hts hK hk hA hl hdx hnc htab dp233.1 dp233.2 (Nat.le_refl _) (Nat.le_refl _) hf hk5 ho o3 hP1 hD1 hS1 (hl1.1) (Nat.le_of_ble_eq_true rfl) (by decide) (by rw [B.bytes]; exact d233_3) (fun ad H1 locs1 q1 q2 q3 q4 => ?_)
      obtain ⟨e1, e2, e3⟩ := d233_h hk5
      refine lv_astore_n B.exec B.bytes e1 rfl hl1 (by rw [t4]; decide) rfl (fun ls' hl' => ?_)
      refine lv_iconst B.exec B.bytes e2 rfl ?_
      refine W.zret (hlocks := h6) B.exec B.bytes (h5.trans t3) rfl (fun t ht hW => ?_) q4.2.2 e3
      rw [t2]
      exact ⟨rfl, by rw [ht]; exact q2, q3, q4.F ht, q1, fun v hv => by rw [List.mem_singleton.mp hv]; show am_inI _; unfold am_inI; omega⟩
    · cases hz
  exact key (fun q hq => by
    rcases List.mem_cons.mp hq with rfl | hq
    · exact ho
    · rw [List.mem_singleton.mp hq]; exact ha) (fun v h => by cases h) hM s.heap [] _ hP hD va_S.rf hl2
