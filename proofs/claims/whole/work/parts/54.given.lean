/-! What the Statement gives at the law's entry. -/
def ls_f : List Cond := flatC (Jvm.Cond.and given_1 narrow_1)
def ls_tm (i : Nat) : Term := match am_str[i]? with
  | some q => .string q.1 q.2.1
  | none => .int 0
def ls_len : List Nat := am_sby.map List.length
def ls_byt : List (List Int32) := am_sby.map (List.map Int32.ofInt)
def ls_B (i : Nat) : Nat := [112, 140, 192, 201, 212, 225, 235, 246, 262, 277, 294, 311, 329, 350, 372, 392, 415, 440, 466, 489, 513, 538, 594, 641].getD i 0
def ls_NE (i j : Nat) : Nat := ([[0, 191, 199, 209, 221, 230, 240, 255, 269, 285, 301, 318, 338, 359, 378, 400, 424, 449, 471, 494, 518, 573, 619, 668], [191, 0, 200, 210, 222, 231, 241, 256, 270, 286, 302, 319, 339, 360, 379, 401, 425, 450, 472, 495, 519, 574, 620, 669], [199, 200, 0, 211, 223, 232, 242, 257, 271, 287, 303, 320, 340, 361, 380, 402, 426, 451, 473, 496, 520, 575, 621, 670], [209, 210, 211, 0, 224, 233, 243, 258, 272, 288, 304, 321, 341, 362, 381, 403, 427, 452, 474, 497, 521, 576, 622, 671], [221, 222, 223, 224, 0, 234, 244, 259, 273, 289, 305, 322, 342, 363, 382, 404, 428, 453, 475, 498, 522, 577, 623, 672], [230, 231, 232, 233, 234, 0, 245, 260, 274, 290, 306, 323, 343, 364, 383, 405, 429, 454, 476, 499, 523, 578, 624, 673], [240, 241, 242, 243, 244, 245, 0, 261, 275, 291, 307, 324, 344, 365, 384, 406, 430, 455, 477, 500, 524, 579, 625, 674], [255, 256, 257, 258, 259, 260, 261, 0, 276, 292, 308, 325, 345, 366, 385, 407, 431, 456, 478, 501, 525, 580, 626, 675], [269, 270, 271, 272, 273, 274, 275, 276, 0, 293, 309, 326, 346, 367, 386, 408, 432, 457, 479, 502, 526, 581, 627, 676], [285, 286, 287, 288, 289, 290, 291, 292, 293, 0, 310, 327, 347, 368, 387, 409, 433, 458, 480, 503, 527, 582, 628, 677], [301, 302, 303, 304, 305, 306, 307, 308, 309, 310, 0, 328, 348, 369, 388, 410, 434, 459, 481, 504, 528, 583, 629, 678], [318, 319, 320, 321, 322, 323, 324, 325, 326, 327, 328, 0, 349, 370, 389, 411, 435, 460, 482, 505, 529, 584, 630, 679], [338, 339, 340, 341, 342, 343, 344, 345, 346, 347, 348, 349, 0, 371, 390, 412, 436, 461, 483, 506, 530, 585, 631, 680], [359, 360, 361, 362, 363, 364, 365, 366, 367, 368, 369, 370, 371, 0, 391, 413, 437, 462, 484, 507, 531, 586, 632, 681], [378, 379, 380, 381, 382, 383, 384, 385, 386, 387, 388, 389, 390, 391, 0, 414, 438, 463, 485, 508, 532, 587, 633, 682], [400, 401, 402, 403, 404, 405, 406, 407, 408, 409, 410, 411, 412, 413, 414, 0, 439, 464, 486, 509, 533, 588, 634, 683], [424, 425, 426, 427, 428, 429, 430, 431, 432, 433, 434, 435, 436, 437, 438, 439, 0, 465, 487, 510, 534, 589, 635, 684], [449, 450, 451, 452, 453, 454, 455, 456, 457, 458, 459, 460, 461, 462, 463, 464, 465, 0, 488, 511, 535, 590, 636, 685], [471, 472, 473, 474, 475, 476, 477, 478, 479, 480, 481, 482, 483, 484, 485, 486, 487, 488, 0, 512, 536, 591, 637, 686], [494, 495, 496, 497, 498, 499, 500, 501, 502, 503, 504, 505, 506, 507, 508, 509, 510, 511, 512, 0, 537, 592, 638, 687], [518, 519, 520, 521, 522, 523, 524, 525, 526, 527, 528, 529, 530, 531, 532, 533, 534, 535, 536, 537, 0, 593, 639, 688], [573, 574, 575, 576, 577, 578, 579, 580, 581, 582, 583, 584, 585, 586, 587, 588, 589, 590, 591, 592, 593, 0, 640, 689], [619, 620, 621, 622, 623, 624, 625, 626, 627, 628, 629, 630, 631, 632, 633, 634, 635, 636, 637, 638, 639, 640, 0, 690], [668, 669, 670, 671, 672, 673, 674, 675, 676, 677, 678, 679, 680, 681, 682, 683, 684, 685, 686, 687, 688, 689, 690, 0]].getD i []).getD j 0
def ls_NC (i j : Nat) : Nat := ([[0, 60, 76, 92, 108], [44, 0, 77, 93, 109], [45, 61, 0, 94, 110], [46, 62, 78, 0, 111], [47, 63, 79, 95, 0]].getD i []).getD j 0
def ls_SR (i : Nat) : Nat := [607, 642, 681, 734, 735, 740, 753, 757, 758, 759, 760, 761, 767, 782, 787, 788, 789, 794, 810, 812, 813, 831, 956, 1100].getD i 0
def ls_c1 (i : Nat) : Bool := decide (ls_f[ls_B i]? = some (.exactly (ls_tm i) "java/lang/String")) && decide (ls_f[ls_B i + 1]? = some (.eq (.field (ls_tm i) "java/lang/String" "coder" "B") (.int 0))) && decide (ls_f[ls_B i + 2]? = some (.arrayOf (.field (ls_tm i) "java/lang/String" "value" "[B") .byte)) && decide (ls_f[ls_B i + 3]? = some (.eq (.length (.field (ls_tm i) "java/lang/String" "value" "[B")) (.int (Int32.ofNat (ls_len.getD i 0))))) && ((List.range (ls_len.getD i 0)).all fun j => decide (ls_f[ls_B i + 4 + j]? = some (.eq (.elem (.field (ls_tm i) "java/lang/String" "value" "[B") (.int (Int32.ofNat j))) (.int ((ls_byt.getD i []).getD j 0)))))
set_option maxRecDepth 100000 in
set_option maxHeartbeats 4000000 in
theorem ls_c1_all : ((List.range 24).all ls_c1) = true := by decide +kernel
def ls_c2 (i j : Nat) : Bool := decide (i = j) || decide (ls_f[ls_NE i j]? = some (.not (.eq (ls_tm i) (ls_tm j)))) || decide (ls_f[ls_NE i j]? = some (.not (.eq (ls_tm j) (ls_tm i))))
set_option maxRecDepth 100000 in
set_option maxHeartbeats 4000000 in
theorem ls_c2_all : ((List.range 24).all fun i => (List.range 24).all fun j => ls_c2 i j) = true := by decide +kernel
def ls_c3 (i : Nat) : Bool := match am_str[i]? with
  | some q => decide (tables_1[ls_SR i]? = some (.stringRef q.1 q.2.1 q.2.2))
  | none => false
set_option maxRecDepth 100000 in
theorem ls_c3_all : ((List.range 24).all ls_c3) = true := by decide +kernel
def ls_c4 (i j : Nat) : Bool := decide (i = j) || decide (ls_f[ls_NC i j]? = some (.not (.castable (am_ex i).2 (am_ex j).2)))
set_option maxRecDepth 100000 in
theorem ls_c4_all : ((List.range 5).all fun i => (List.range 5).all fun j => ls_c4 i j) = true := by decide +kernel
def ls_a0 : List Nat := [7, 8, 9, 10, 11, 12, 13, 14, 15, 16, 17, 18]
def ls_t0 : Term := (.static "ChartPress$Letters" "MONTHS" "[I")
theorem ls_a0_1 : ls_f[5]? = some (.arrayOf ls_t0 .int) ∧ ls_f[6]? = some (.eq (.length ls_t0) (.int (Int32.ofNat (am_clen 0)))) := by decide +kernel
theorem ls_a0_2 : ∀ j, j < am_clen 0 → ls_f[ls_a0.getD j 0]? = some (.eq (.elem ls_t0 (.int (Int32.ofNat j))) (.int (Int32.ofInt (am_cst 0 j)))) := by decide +kernel
def ls_a1 : List Nat := [29, 30, 31]
def ls_t1 : Term := (.static "ChartPress$Scale" "FACTORS" "[I")
theorem ls_a1_1 : ls_f[27]? = some (.arrayOf ls_t1 .int) ∧ ls_f[28]? = some (.eq (.length ls_t1) (.int (Int32.ofNat (am_clen 1)))) := by decide +kernel
theorem ls_a1_2 : ∀ j, j < am_clen 1 → ls_f[ls_a1.getD j 0]? = some (.eq (.elem ls_t1 (.int (Int32.ofNat j))) (.int (Int32.ofInt (am_cst 1 j)))) := by decide +kernel
theorem ls_z : ls_f[21]? = some (.eq (.static "java/lang/String" "COMPACT_STRINGS" "Z") (.int 1)) ∧ ls_f[22]? = some (.isRef (.static "jdk/internal/util/Preconditions" "SIOOBE_FORMATTER" "Ljava/util/function/BiFunction;")) ∧ ls_f[19]? = some (.isRef (.static Bundle.tN "UNASSIGNED_STACK" Bundle.steD)) ∧ ls_f[20]? = some (.isRef (.static Bundle.tN "SUPPRESSED_SENTINEL" Bundle.listD)) := by decide +kernel
def ls_st (n : Nat) : String × String × String := [("ChartPress$Letters", "MONTHS", "[I"), ("ChartPress$Scale", "FACTORS", "[I"), ("java/lang/String", "COMPACT_STRINGS", "Z"), ("jdk/internal/util/Preconditions", "SIOOBE_FORMATTER", "Ljava/util/function/BiFunction;"), ("java/lang/Throwable", "UNASSIGNED_STACK", "[Ljava/lang/StackTraceElement;"), ("java/lang/Throwable", "SUPPRESSED_SENTINEL", "Ljava/util/List;")].getD n ("", "", "")
def ls_lp (n : Nat) : Nat := [513, 1012, 695, 711, 591, 593].getD n 0
def ls_ip (n : Nat) : Nat := [4, 9, 18, 20, 13, 13].getD n 0
theorem ls_l : ∀ n, n < 6 → tables_1[ls_lp n]? = some (.laysStatic (ls_st n).1 (ls_st n).2.1 (ls_st n).2.2) ∧ tables_1[ls_ip n]? = some (.initialized (ls_st n).1) := by decide +kernel
theorem ls_dw : ∀ q ∈ am_dw, q ∈ tables_1 := by decide +kernel
theorem ls_x : tables_1[59]? = some (.arrayOver (.object RA3)) ∧ tables_1[120]? = some (.arrayOver (.object RA5)) ∧ tables_1[194]? = some (.methodLinkNest (am_cn 6) 45 (zc_y 7) "ChartPress") ∧ tables_1[253]? = some (.methodLinkNest (am_cn 0) 44 (zc_y 8) "ChartPress") := by decide +kernel
section GV
variable {s : State} {args : Array Value} {A : Nat → Prop}
theorem ls_w (hgv : (Jvm.Cond.and given_1 narrow_1).before args s = true) {p : Nat} {w : Cond} (h : ls_f[p]? = some w) : w.before args s = true := flat_of_before _ hgv w (List.mem_of_getElem? h)
theorem ls_tw (hts : ∀ w ∈ lw_tbl, w.before args s = true) {p : Nat} {w : Cond} (h : tables_1[p]? = some w) : w.before args s = true := hts w (List.mem_append_right _ (List.mem_of_getElem? h))
theorem ls_kst (hts : ∀ w ∈ lw_tbl, w.before args s = true) (hgv : (Jvm.Cond.and given_1 narrow_1).before args s = true) (hA : ∀ a : Nat, a < s.heap.size → ¬ A a) (b : Nat) : ∃ sr : Nat → Nat → Nat, sr 33 0 = b ∧ ∀ (D : va_G) (g : Nat → ClassId) (a : Nat → Nat), am_kst (D, g, a, A, sr) s s.heap := by
  have c1 : ∀ i, i < 24 → ls_c1 i = true := fun i hi => List.all_eq_true.mp ls_c1_all i (List.mem_range.mpr hi)
  have c1' : ∀ i, i < 24 → _ := fun i hi => by
    have z := c1 i hi
    unfold ls_c1 at z
    simp only [Bool.and_eq_true, decide_eq_true_eq] at z
    exact z
  have hN : ∀ i : Nat, i < 24 → ls_len.getD i 0 < 2 ^ 31 := by decide +kernel
  obtain ⟨adK, adV, hSS, hev⟩ := vk_Sof (args := args) (s := s) (N := 24) (tm := ls_tm) (len := ls_len) (byt := ls_byt) (A := A) hN (fun i hi => ls_w hgv (c1' i hi).1.1.1.1) (fun i hi => ls_w hgv (c1' i hi).1.1.1.2) (fun i hi => ls_w hgv (c1' i hi).1.1.2) (fun i hi => ls_w hgv (c1' i hi).1.2)
    (fun i hi j hj => ls_w hgv (of_decide_eq_true (List.all_eq_true.mp (c1' i hi).2 j (List.mem_range.mpr hj))))
    (fun i j hi hj hij => by
      have z := am_range2 ls_c2_all hi hj
      unfold ls_c2 at z
      simp only [Bool.or_eq_true, decide_eq_true_eq] at z
      rcases z with (z | z) | z
      · exact absurd z hij
      · exact Or.inl (ls_w hgv z)
      · exact Or.inr (ls_w hgv z)) hA
  obtain ⟨t0, e0, T0⟩ := va_Tof (args := args) (s := s) (tm := ls_t0) (ty := .int) (N := am_clen 0) (f := fun j => .int (Int32.ofInt (am_cst 0 j))) (A := A) (by decide) (ls_w hgv ls_a0_1.1) (va_eqt (ls_w hgv ls_a0_1.2)) (fun j hj => va_eqt (ls_w hgv (ls_a0_2 j hj))) hA
  obtain ⟨t1, e1, T1⟩ := va_Tof (args := args) (s := s) (tm := ls_t1) (ty := .int) (N := am_clen 1) (f := fun j => .int (Int32.ofInt (am_cst 1 j))) (A := A) (by decide) (ls_w hgv ls_a1_1.1) (va_eqt (ls_w hgv ls_a1_1.2)) (fun j hj => va_eqt (ls_w hgv (ls_a1_2 j hj))) hA
  have hz : ∀ n, n < 6 → ∀ v, (Term.static (ls_st n).1 (ls_st n).2.1 (ls_st n).2.2).eval args s none [] s = some v → va_Z (ls_st n).1 (ls_st n).2.1 (ls_st n).2.2 v A s s.heap := fun n hn v hv => va_Zof (ls_tw hts (ls_l n hn).1) (ls_tw hts (ls_l n hn).2) hv hA
  refine ⟨fun t i => if t = 30 then (if i = 0 then t0 else t1) else if t = 31 then adK i else if t = 32 then adV i else b, rfl, fun D g a => ⟨fun i q hq => ?_, hSS, ?_, ?_, ?_, fun o ho => ?_, ?_⟩⟩
  · have hi : i < 24 := by
      have z := (List.getElem?_eq_some_iff.mp hq).1
      have l24 : am_str.length = 24 := by decide
      omega
    have z := List.all_eq_true.mp ls_c3_all i (List.mem_range.mpr hi)
    unfold ls_c3 at z
    rw [hq] at z
    have y := hev i hi
    unfold ls_tm at y
    rw [hq] at y
    exact vk_R.of (ls_tw hts (of_decide_eq_true z)) y
  · exact hz 2 (by decide) _ (va_eqi (ls_w hgv ls_z.1))
  · exact hz 0 (by decide) _ e0
  · exact hz 1 (by decide) _ e1
  · obtain rfl | rfl : o = 0 ∨ o = 1 := by omega
    · exact T0
    · exact T1
  · have h := ls_w hgv ls_z.2.1
    cases hv : (Term.static "jdk/internal/util/Preconditions" "SIOOBE_FORMATTER" "Ljava/util/function/BiFunction;").eval args s none [] s with
    | none => simp [Cond.before, Cond.holds, Cond.value, hv] at h
    | some v =>
      refine ⟨v, ?_, hz 3 (by decide) v hv⟩
      simp only [Cond.before, Cond.holds, Cond.value, hv] at h
      cases v with
      | null => exact Or.inl rfl
      | ref t => exact Or.inr ⟨t, rfl⟩
      | _ => simp at h
theorem ls_dx (hts : ∀ w ∈ lw_tbl, w.before args s = true) (hgv : (Jvm.Cond.and given_1 narrow_1).before args s = true) (hA : ∀ a : Nat, a < s.heap.size → ¬ A a) : am_dx A s s.heap := by
  refine ⟨fun w hw => ?_, am_ls.of (ls_tw hts (ls_l 4 (by decide)).1) (ls_w hgv ls_z.2.2.1) hA, am_ls.of (ls_tw hts (ls_l 5 (by decide)).1) (ls_w hgv ls_z.2.2.2) hA⟩
  have y : ∀ w ∈ am_dw, w.onTables = true := by decide +kernel
  exact va_tabs (y w hw) rfl (hts w (List.mem_append_right _ (ls_dw w hw)))
theorem ls_nc (hgv : (Jvm.Cond.and given_1 narrow_1).before args s = true) : am_nc s := by
  intro k k' h1 h2 h3 c t h4 h5
  have z := am_range2 ls_c4_all h1 h2
  unfold ls_c4 at z
  simp only [Bool.or_eq_true, decide_eq_true_eq] at z
  rcases z with z | z
  · exact absurd z h3
  · have y := ls_w hgv z
    simp only [Cond.before, Cond.holds, Cond.value, h4, h5] at y
    simpa using y
theorem ls_cx (hts : ∀ w ∈ lw_tbl, w.before args s = true) : zc_x s := by
  refine ⟨va_AO.of (ls_tw hts ls_x.1), va_AO.of (ls_tw hts ls_x.2.1), ?_, ?_⟩
  · exact va_tabs rfl rfl (ls_tw hts ls_x.2.2.1)
  · exact va_tabs rfl rfl (ls_tw hts ls_x.2.2.2)
theorem ls_K (hts : ∀ w ∈ lw_tbl, w.before args s = true) : ∃ (D : va_G) (g : Nat → ClassId), ∀ (a : Nat → Nat) (A : Nat → Prop) (sr : Nat → Nat → Nat), va_K D am_cl (am_tys (D, g, a, A, sr)) s := by
  have hTS : ∀ w ∈ am_TS, w.before args s = true := fun w hw => hts w (List.mem_filter.mp hw).1
  have h1 : ∀ c : Nat, ∃ q : ClassId × (Nat → Nat), ∀ r : vw_C, am_cl[c]? = some r → u_Kn s r.1 r.2.1 r.2.2 q.1 q.2 := by
    intro c
    by_cases hc : c < 12
    · obtain ⟨Cn, T, N, ty, e1, e2, e3, -⟩ := am_co c hc
      have hCn : Cn = am_cn c := by
        have z := zc_cn c hc
        rw [e1] at z
        exact Option.some.inj z
      obtain ⟨cC, iS, hk⟩ := u_known (C := Cn) (T := T) (N := N) (n := am_nf c) hTS e3 (by rw [hCn]; exact hTS _ (zc_w1 hc))
      exact ⟨(cC, iS), fun r hr => by rw [e1] at hr; cases hr; exact hk⟩
    · refine ⟨(0, fun _ => 0), fun r hr => ?_⟩
      have z := (List.getElem?_eq_some_iff.mp hr).1
      exact absurd z hc
  obtain ⟨f, hf⟩ := Classical.axiomOfChoice h1
  have h2 : ∀ t : Nat, ∃ cA : ClassId, (16 ≤ t → t < 21 → ArrOfT s cA (zc_ty t) ∧ va_RA s cA (zc_ty t)) ∧ (t = 21 → ArrOfT s cA (.object RA3) ∧ va_RA s cA (.object RA3)) ∧ (t = 22 → ArrOfT s cA (.object RA5) ∧ va_RA s cA (.object RA5)) := by
    intro t
    have ao : ∀ Cn : String, va_AO Cn s → ∃ cA : ClassId, ArrOfT s cA (.object Cn) ∧ va_RA s cA (.object Cn) := by
      intro Cn h
      obtain ⟨comp, c, k, h1, h2, h3, h4, h5⟩ := Cond.arrayOver_spec h
      exact ⟨c, fun n z => ⟨fun k h => (by cases h), k, h3, comp, h4⟩, k, comp, h3, h4, h1, h5⟩
    by_cases h21 : t = 21
    · obtain ⟨cA, h⟩ := ao _ (ls_cx hts).1
      exact ⟨cA, fun _ h3 => absurd h3 (by omega), fun _ => h, fun h3 => absurd h3 (by omega)⟩
    · by_cases h22 : t = 22
      · obtain ⟨cA, h⟩ := ao _ (ls_cx hts).2.1
        exact ⟨cA, fun _ h3 => absurd h3 (by omega), fun h3 => absurd h3 (by omega), fun _ => h⟩
      · by_cases h16 : 16 ≤ t ∧ t < 21
        · obtain ⟨c, k, comp, h3, h4, h5⟩ := Cond.arrayClass_spec (hTS _ (am_in_1 (zc_q5 t h16.2 h16.1) rfl))
          refine ⟨c, fun _ _ => ⟨fun n z => ⟨fun k h => (by cases h), k, h4, comp, h5⟩, ?_⟩, fun h => absurd h h21, fun h => absurd h h22⟩
          obtain rfl | rfl | rfl | rfl | rfl : t = 16 ∨ t = 17 ∨ t = 18 ∨ t = 19 ∨ t = 20 := by omega
          all_goals exact h3
        · exact ⟨0, fun h h' => absurd ⟨h, h'⟩ h16, fun h => absurd h h21, fun h => absurd h h22⟩
  obtain ⟨g, hg⟩ := Classical.axiomOfChoice h2
  refine ⟨(fun c => (f c).1, fun c => (f c).2), g, fun a A sr => ⟨fun c q hq => hf c q hq, fun k q hq => ?_⟩⟩
  have hk : k < 7 := (List.getElem?_eq_some_iff.mp hq).1
  obtain rfl | rfl | rfl | rfl | rfl | rfl | rfl : k = 0 ∨ k = 1 ∨ k = 2 ∨ k = 3 ∨ k = 4 ∨ k = 5 ∨ k = 6 := by omega
  · cases hq; exact (hg 16).1 (by omega) (by omega)
  · cases hq; exact (hg 17).1 (by omega) (by omega)
  · cases hq; exact (hg 18).1 (by omega) (by omega)
  · cases hq; exact (hg 19).1 (by omega) (by omega)
  · cases hq; exact (hg 20).1 (by omega) (by omega)
  · cases hq; exact (hg 21).2.1 rfl
  · cases hq; exact (hg 22).2.2 rfl
end GV
