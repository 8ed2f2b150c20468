/-! The law calls ChartPressLaw.draw, a method with an exception table. -/
theorem wd_1 : Cond.codeWith (am_my 233) (am_mc 233) (am_ml 233) (am_mr 233) am_hh ∈ am_TS := List.mem_filter.mpr ⟨by decide +kernel, by decide +kernel⟩
theorem wd_2 : Cond.methodLink "ChartPressLaw" 48 (am_my 233) ∈ am_TS ∧ Cond.static (am_my 233) ∈ am_TS ∧ Cond.initialized (am_my 233).cls ∈ am_TS := ⟨List.mem_filter.mpr ⟨by decide +kernel, by decide +kernel⟩, List.mem_filter.mpr ⟨by decide +kernel, by decide +kernel⟩, List.mem_filter.mpr ⟨by decide +kernel, by decide +kernel⟩⟩
theorem wd_3 : (am_my 233).cls ≠ "java/lang/invoke/MethodHandle" ∧ (am_my 233).cls ≠ "java/lang/invoke/VarHandle" ∧ (parseMethodDescriptor (am_my 233).desc).map (fun d => d.parameters.length) = some 2 := by decide +kernel
theorem wd_4 : am_mo 234 = 12 ∧ am_cn 12 = "ChartPressLaw" ∧ am_ml 234 = 7 ∧ am_mr 234 = some .boolean ∧ am_rk 233 = 1 := by decide +kernel
theorem wd_5 : am_md 233 + 1 ≤ am_md 234 ∧ 8 + (am_ml 233 + 11) + am_lr 233 ≤ am_lr 234 := by decide +kernel
theorem wd_6 : am_md 234 ≤ 13 ∧ am_lr 234 ≤ 570 := by decide +kernel
theorem wd_good : GoodIn am_TS am_wD2 := by
  intro w hw
  have hm : w ∈ am_TS := by
    rcases List.mem_cons.mp hw with rfl | h2
    · exact wd_1
    · exact h2
  exact ⟨hm, good_of_word (List.mem_filter.mp hm).2⟩
theorem am_blindD2 (C : am_C) (μ : am_M) (o a : Nat) : FrameBlind (am_PD2 C μ o a) := by
  intro v U g mk q
  obtain ⟨q1, q2, q3⟩ := q
  have ha : U.vm.Alike (U.calling g mk v).vm := Vm.Alike.refl U.vm
  refine ⟨am_blind C μ _ v U g mk q1, ⟨fun w hw => ?_, q2.2.1.next ha (fun _ _ _ => rfl), q2.2.2.next ha (fun _ _ _ => rfl)⟩, q3.next ha⟩
  have z := q2.1 w hw
  have hon : w.onTables = true := by
    have y : ∀ w ∈ am_dw, w.onTables = true := by decide +kernel
    exact y w hw
  exact va_tabs (A := #[]) (A' := #[]) (u := U) (U := U.calling g mk v) hon rfl z
section LD
variable {X : am_K} {C : am_C} {cells slots : Nat} {sc : Nat × (Nat → Int)} {Q : State → Prop} {pc : Nat} {lv : am_L} {μ μ' : am_M}
set_option maxHeartbeats 2000000 in
theorem am_c_lawdraw (hG : am_G X C 234 cells slots sc) (hst : match X with | (_, l, _, R, s, _, _, _, _, _) => l.stackTraces = false ∧ am_dx C.2.2.2.1 s s.heap ∧ am_nc s ∧ cells + 1 ≤ R.cells ∧ slots + 6 ≤ R.slots) (hd : decode (am_mc 234) pc = .ok (.invokestatic 48, 3)) {x : Int} (hf : fn233 0 262 μ = some (x, μ')) (hk : am_W X C 234 Q (cells + 1) (slots + 6) (pc + 3) lv [.inl x] μ') : am_W X C 234 Q cells slots pc lv [.inr (.inr (17, 262)), .inr (.inr (0, 0))] μ := by
  obtain ⟨p, l, e, R, s, m, args, below, meth, c⟩ := X
  obtain ⟨hx, hb, hml, hown, hts, hK, hkst, hA, hRf, hRl, hcc, hss, hscr⟩ := hG
  obtain ⟨hl0, hdx, hnc, hRc, hRs⟩ := hst
  intro o1 o2 o3 H locs ls hP hD hS hl
  have ho : am_ok (.inr (.inr (0, 0))) := o2 _ (List.mem_cons_of_mem _ List.mem_cons_self)
  have ha : am_ok (.inr (.inr (17, 262))) := o2 _ List.mem_cons_self
  have hM := sd233 hl0 (C := C) hf ho ha (by decide +kernel) o3
  rw [wd_4.1, wd_4.2.1] at hown
  have hWt : ∀ w ∈ am_wD2, ∀ (a' : Array Value) (U : State), s.WarmedH U.vm → w.before a' U = true := fun w hw a' U hW => by
    obtain ⟨h1, h2⟩ := wd_good w hw
    exact word_at hW h2 (hts w h1)
  have hini : ∀ (a' : Array Value) (U : State), s.WarmedH U.vm → (Cond.initialized (am_my 233).cls).before a' U = true := fun a' U hW => word_at hW (good_of_word (List.mem_filter.mp wd_2.2.2).2) (hts _ wd_2.2.2)
  have hB : Back l R p e below s args (am_my 233) 3 8 (PreOf R 1 6 (am_PD2 C μ 0 262)) (PostOf (am_Q C (am_rk 233) (am_rtg 233) x μ') 1 6 C.2.2.2.1) := va_backW (bytes := am_mc 233) (maxL := am_ml 233) (ret := am_mr 233) (hh := am_hh) hM (am_blindD2 C μ 0 262) rfl rfl (by show am_md 233 + 1 ≤ _; have := wd_5.1; omega) (by show 8 + (am_ml 233 + 11) + am_lr 233 ≤ _; have := wd_5.2; omega) hWt List.mem_cons_self hini
  intro T hT Y
  obtain ⟨mk, methM, cM, hnamed, hmethM, -, -, -, -, -, -, hsigM⟩ := Cond.codeWith_spec (hts _ wd_1)
  have hstatic : methM.isStatic = true := Cond.static_spec hnamed hmethM (hts _ wd_2.2.1)
  obtain ⟨kP, hkP, -⟩ := className_of_methodNamed hnamed
  have hinitP : kP.init = .initialized := Cond.initialized_spec (findClass_of_methodNamed hnamed) hkP (hts _ wd_2.2.2)
  have hlen : ([.inr (.inr (0, 0)), .inr (.inr (17, 262))] : List am_V).length = methM.sig.parameters.length := by
    have z := wd_3.2.2
    rw [hsigM] at z
    exact (Option.some.inj z).symm
  obtain ⟨vm₁, X₁, hstep₁⟩ := Y.invokestatic hx hown (hts _ wd_2.1) hnamed hmethM hstatic hkP hinitP ⟨wd_3.1, wd_3.2.1⟩ (g := F0 m pc ls (([.inr (.inr (17, 262)), .inr (.inr (0, 0))] : List am_V).map (am_v C))) rfl (argsL := ([.inr (.inr (0, 0)), .inr (.inr (17, 262))] : List am_V).map (am_v C)) (rest := []) (by rw [List.length_map]; exact hlen) rfl (by rw [hb]; exact hd)
  have hpre : PreOf R 1 6 (am_PD2 C μ 0 262) ⟨T.setVm vm₁, locs, cells, slots⟩ (([.inr (.inr (0, 0)), .inr (.inr (17, 262))] : List am_V).map (am_v C)).toArray := by
    have hW : s.WarmedH (T.setVm vm₁).vm := X₁.warmed
    have hh : (T.setVm vm₁).heap = H := hT
    refine ⟨hRc, hRs, ⟨rfl, by rw [hh]; exact hP, hD, va_K.moved hW.alike hK, hkst.next hW (fun a h1 h2 => by rw [hh]; exact hS.2.1 a h1 h2), fun q hq => hA q (Nat.le_trans hS.1 (by rw [hh] at hq; exact hq))⟩, hdx.next hW (fun a h1 h2 => by rw [hh]; exact hS.2.1 a h1 h2), hnc.next hW.alike⟩
  obtain ⟨v, ⟨U', l2, c2, s2⟩, X', ⟨g', mk', t, L, e1, e2, hq, h1, hL, h2, h3⟩, hsteps⟩ := hB m meth c ⟨T.setVm vm₁, locs, cells, slots⟩ { F0 m pc ls (([.inr (.inr (17, 262)), .inr (.inr (0, 0))] : List am_V).map (am_v C)) with stack := [] } (.invokestatic 48) mk (([.inr (.inr (0, 0)), .inr (.inr (17, 262))] : List am_V).map (am_v C)).toArray X₁ rfl (hl.1.trans hml.symm) (by rw [hb]; exact hd) (lv_room (Nat.zero_le _)) (X₁.named hnamed) hpre
  dsimp only [Pt.U, Pt.locs, Pt.cells, Pt.slots] at X' e1 e2 h1 h2 h3 hsteps
  subst h1; subst h2; subst h3
  obtain ⟨hv, hP1, hD1, ⟨hz, hkp⟩, hM1, ho1⟩ := hq
  have hT' : (T.setVm vm₁).heap = H := hT
  have hz : H.size ≤ t.heap.size := by rw [← hT']; exact hz
  have hkp : ∀ q : Nat, q < H.size → ¬ C.2.2.2.1 q → t.heap[q]? = H[q]? := by rw [← hT']; exact hkp
  have hS1 : va_S C.2.2.2.1 s.heap U'.heap (locs ++ L) := ⟨Nat.le_trans hS.1 (by rw [e1]; exact hz), fun q h1 h2 => by rw [e1, hkp q (Nat.lt_of_lt_of_le h1 hS.1) h2]; exact hS.2.1 q h1 h2, fun q hq => by
      rcases List.mem_append.mp hq with h | h
      · exact hS.2.2 q h
      · exact hL q h⟩
  have ev : v = some (.int (Int32.ofInt x)) := by
    rw [wd_4.2.2.2.2] at hv
    cases hv
    rfl
  subst ev
  rw [wd_4.2.2.2.2] at ho1
  obtain ⟨t2, a1, b1⟩ := hk o1 (fun v hv => ho1 v hv) hM1 U'.heap (locs ++ L) ls (by rw [e1]; exact hP1) hD1 hS1 hl U' rfl X'
  exact ⟨t2, hstep₁ _ (fun acts => by rw [doInvoke_state]; exact hsteps.trans a1), b1⟩
end LD
