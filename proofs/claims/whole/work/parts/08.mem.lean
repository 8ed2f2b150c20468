/-! The tables hold: links stand among the claim's words, references lead where their types say. -/
theorem am_in_of (ps : List Nat) {ws : List Cond} (h : ws = ps.filterMap (fun i => tables_1[i]?)) (hg : ws.all goodWord = true) : ∀ w ∈ ws, w ∈ am_TS := by
  intro w hw
  have hg2 := List.all_eq_true.mp hg w hw
  rw [h] at hw
  obtain ⟨i, -, hi⟩ := List.mem_filterMap.mp hw
  exact List.mem_filter.mpr ⟨List.mem_append_right _ (List.mem_of_getElem? hi), hg2⟩
theorem am_in_1 {p : Nat} {w : Cond} (h : tables_1[p]? = some w) (hg : goodWord w = true) : w ∈ am_TS := List.mem_filter.mpr ⟨List.mem_append_right _ (List.mem_of_getElem? h), hg⟩
theorem am_in_2 {p : Nat} {w : Cond} (h : lw_tbl[p]? = some w) (hg : goodWord w = true) : w ∈ am_TS := List.mem_filter.mpr ⟨List.mem_of_getElem? h, hg⟩
set_option maxRecDepth 20000 in
theorem inA0 : ∀ w ∈ u_ws RA0 TA0 12, w ∈ am_TS := am_in_of [329, 331, 333, 335, 337, 339, 341, 343, 345, 347, 349, 351] (by decide +kernel) (by decide +kernel)
set_option maxRecDepth 20000 in
theorem inA1 : ∀ w ∈ u_ws RA1 TA1 3, w ∈ am_TS := am_in_of [44, 46, 48] (by decide +kernel) (by decide +kernel)
set_option maxRecDepth 20000 in
theorem inA2 : ∀ w ∈ u_ws RA2 TA2 12, w ∈ am_TS := am_in_of [84, 86, 88, 90, 92, 94, 96, 98, 100, 102, 104, 106] (by decide +kernel) (by decide +kernel)
set_option maxRecDepth 20000 in
theorem inA3 : ∀ w ∈ u_ws RA3 TA3 2, w ∈ am_TS := am_in_of [67, 69] (by decide +kernel) (by decide +kernel)
set_option maxRecDepth 20000 in
theorem inA4 : ∀ w ∈ u_ws RA4 TA4 13, w ∈ am_TS := am_in_of [157, 159, 161, 163, 165, 167, 169, 171, 173, 175, 177, 179, 181] (by decide +kernel) (by decide +kernel)
set_option maxRecDepth 20000 in
theorem inA5 : ∀ w ∈ u_ws RA5 TA5 5, w ∈ am_TS := am_in_of [133, 135, 137, 139, 141] (by decide +kernel) (by decide +kernel)
set_option maxRecDepth 20000 in
theorem inA6 : ∀ w ∈ u_ws RA6 TA6 12, w ∈ am_TS := am_in_of [226, 228, 230, 232, 234, 236, 238, 240, 242, 244, 246, 248] (by decide +kernel) (by decide +kernel)
set_option maxRecDepth 20000 in
theorem inA7 : ∀ w ∈ u_ws RA7 TA7 5, w ∈ am_TS := am_in_of [203, 205, 207, 209, 211] (by decide +kernel) (by decide +kernel)
set_option maxRecDepth 20000 in
theorem inA8 : ∀ w ∈ u_ws RA8 TA8 5, w ∈ am_TS := am_in_of [262, 264, 266, 268, 270] (by decide +kernel) (by decide +kernel)
set_option maxRecDepth 20000 in
theorem inA9 : ∀ w ∈ u_ws RA9 TA9 6, w ∈ am_TS := am_in_of [285, 287, 289, 291, 293, 295] (by decide +kernel) (by decide +kernel)
set_option maxRecDepth 20000 in
theorem inA10 : ∀ w ∈ u_ws RA10 TA10 3, w ∈ am_TS := am_in_of [307, 309, 311] (by decide +kernel) (by decide +kernel)
set_option maxRecDepth 20000 in
theorem inA11 : ∀ w ∈ u_ws RA11 TA11 54, w ∈ am_TS := am_in_of [1305, 1307, 1309, 1311, 1313, 1315, 1317, 1319, 1321, 1323, 1325, 1327, 1329, 1331, 1333, 1335, 1337, 1339, 1341, 1343, 1345, 1347, 1349, 1351, 1353, 1355, 1357, 1359, 1361, 1363, 1365, 1367, 1369, 1371, 1373, 1375, 1377, 1379, 1381, 1383, 1385, 1387, 1389, 1391, 1393, 1395, 1397, 1399, 1401, 1403, 1405, 1407, 1409, 1411] (by decide +kernel) (by decide +kernel)
/-- what holds of class ci -/
def am_CO (ci : Nat) (Cn : String) (T : u_T) (N : Nat) (ty : Nat → FieldType) : Prop := am_cl[ci]? = some (Cn, T, N) ∧ N = am_nf ci ∧ (∀ w ∈ u_ws Cn T N, w ∈ am_TS) ∧ (∀ k, k < N → parseFieldDescriptor (T k).2.2.1 = some (ty k)) ∧ (∀ a, a < N → ∀ b, b < N → a ≠ b → (T a).2.1 ≠ (T b).2.1) ∧ (∀ k, k < N → (T k).1 = Cn ∧ (T k).2.2.2 = am_fn ci k ∧ (am_ft ci k = 0 → ty k = .int) ∧ (am_ft ci k = 1 → ty k = .long) ∧ (am_ft ci k = 2 → ty k = .boolean))
theorem coA0 : am_CO 0 RA0 TA0 12 tyA0 := ⟨rfl, rfl, inA0, tyA0_ok, nmA0, by decide +kernel⟩
theorem coA1 : am_CO 1 RA1 TA1 3 tyA1 := ⟨rfl, rfl, inA1, tyA1_ok, nmA1, by decide +kernel⟩
theorem coA2 : am_CO 2 RA2 TA2 12 tyA2 := ⟨rfl, rfl, inA2, tyA2_ok, nmA2, by decide +kernel⟩
theorem coA3 : am_CO 3 RA3 TA3 2 tyA3 := ⟨rfl, rfl, inA3, tyA3_ok, nmA3, by decide +kernel⟩
theorem coA4 : am_CO 4 RA4 TA4 13 tyA4 := ⟨rfl, rfl, inA4, tyA4_ok, nmA4, by decide +kernel⟩
theorem coA5 : am_CO 5 RA5 TA5 5 tyA5 := ⟨rfl, rfl, inA5, tyA5_ok, nmA5, by decide +kernel⟩
theorem coA6 : am_CO 6 RA6 TA6 12 tyA6 := ⟨rfl, rfl, inA6, tyA6_ok, nmA6, by decide +kernel⟩
theorem coA7 : am_CO 7 RA7 TA7 5 tyA7 := ⟨rfl, rfl, inA7, tyA7_ok, nmA7, by decide +kernel⟩
theorem coA8 : am_CO 8 RA8 TA8 5 tyA8 := ⟨rfl, rfl, inA8, tyA8_ok, nmA8, by decide +kernel⟩
theorem coA9 : am_CO 9 RA9 TA9 6 tyA9 := ⟨rfl, rfl, inA9, tyA9_ok, nmA9, by decide +kernel⟩
theorem coA10 : am_CO 10 RA10 TA10 3 tyA10 := ⟨rfl, rfl, inA10, tyA10_ok, nmA10, by decide +kernel⟩
theorem coA11 : am_CO 11 RA11 TA11 54 tyA11 := ⟨rfl, rfl, inA11, tyA11_ok, nmA11, by decide +kernel⟩
theorem am_co : ∀ ci, ci < 12 → ∃ Cn T N ty, am_CO ci Cn T N ty
  | 0, _ => ⟨_, _, _, _, coA0⟩
  | 1, _ => ⟨_, _, _, _, coA1⟩
  | 2, _ => ⟨_, _, _, _, coA2⟩
  | 3, _ => ⟨_, _, _, _, coA3⟩
  | 4, _ => ⟨_, _, _, _, coA4⟩
  | 5, _ => ⟨_, _, _, _, coA5⟩
  | 6, _ => ⟨_, _, _, _, coA6⟩
  | 7, _ => ⟨_, _, _, _, coA7⟩
  | 8, _ => ⟨_, _, _, _, coA8⟩
  | 9, _ => ⟨_, _, _, _, coA9⟩
  | 10, _ => ⟨_, _, _, _, coA10⟩
  | 11, _ => ⟨_, _, _, _, coA11⟩
  | n + 12, h => absurd h (by omega)
def am_lnk (ci k own x : Nat) : Option Cond := match am_cl[ci]? with
  | some (Cn, T, _) => some (.fieldLink (am_cn own) x Cn (T k).2.1 (T k).2.2.1)
  | none => none
def ck_f (own x : Nat) : Bool := match tb_f_ own x with
  | none => true
  | some q => decide (q.1 < 12) && decide (q.2.1 < am_nf q.1) && decide (q.2.2.1 = am_ft q.1 q.2.1) && (decide (q.2.2.1 ≠ 5) || (decide (q.2.2.2 = am_frt q.1 q.2.1) && decide (q.2.2.2 < 30))) && decide (tables_1[tb_fp own x]? = am_lnk q.1 q.2.1 own x)
set_option maxRecDepth 100000 in
set_option maxHeartbeats 4000000 in
theorem ck_f_all : ((List.range 17).all fun own => (List.range 600).all fun x => ck_f own x) = true := by decide +kernel
theorem am_range2 {f : Nat → Nat → Bool} {a b : Nat} (h : ((List.range a).all fun i => (List.range b).all fun j => f i j) = true) {i j : Nat} (hi : i < a) (hj : j < b) : f i j = true := List.all_eq_true.mp (List.all_eq_true.mp h i (List.mem_range.mpr hi)) j (List.mem_range.mpr hj)
theorem am_f_ok {own x : Nat} {q : Nat × Nat × Nat × Nat} (h : tb_f own x = some q) : q.1 < 12 ∧ q.2.1 < am_nf q.1 ∧ q.2.2.1 = am_ft q.1 q.2.1 ∧ (q.2.2.1 = 5 → q.2.2.2 = am_frt q.1 q.2.1 ∧ q.2.2.2 < 30) ∧ ∃ w, am_lnk q.1 q.2.1 own x = some w ∧ w ∈ am_TS := by
  unfold tb_f at h
  obtain ⟨hb, h⟩ := am_if_s h
  have z := am_range2 ck_f_all hb.1 hb.2
  unfold ck_f at z
  rw [h] at z
  simp only [Bool.and_eq_true, Bool.or_eq_true, decide_eq_true_eq] at z
  obtain ⟨⟨⟨⟨z1, z2⟩, z3⟩, z4⟩, z5⟩ := z
  refine ⟨z1, z2, z3, fun e => ?_, ?_⟩
  · rcases z4 with z4 | z4
    · exact absurd e z4
    · exact z4
  · obtain ⟨Cn, T, N, ty, hc⟩ := am_co q.1 z1
    have e : am_lnk q.1 q.2.1 own x = some (.fieldLink (am_cn own) x Cn (T q.2.1).2.1 (T q.2.1).2.2.1) := by
      unfold am_lnk
      rw [hc.1]
    rw [e] at z5
    exact ⟨_, e, am_in_1 z5 rfl⟩
/-- references lead where their types say -/
def ck_r (o : Nat) : Bool := if am_cls o < 16 then (List.range (am_nf (am_cls o))).all (fun k => decide (am_ft (am_cls o) k ≠ 5) || (decide (am_ref o k < am_N) && decide (am_cls (am_ref o k) = am_frt (am_cls o) k))) else if am_cls o = 21 then (List.range (am_len o)).all (fun k => decide (am_ref o k < am_N) && decide (am_cls (am_ref o k) = am_tL)) else if am_cls o = 22 then (List.range (am_len o)).all (fun k => decide (am_ref o k < am_N) && decide (am_cls (am_ref o k) = am_tC)) else true
set_option maxRecDepth 100000 in
set_option maxHeartbeats 4000000 in
theorem ck_r_all : ((List.range am_N).all ck_r) = true := by decide +kernel
theorem am_ref_f {o k : Nat} (ho : o < am_N) (hc : am_cls o < 16) (hk : k < am_nf (am_cls o)) (h5 : am_ft (am_cls o) k = 5) : am_ref o k < am_N ∧ am_cls (am_ref o k) = am_frt (am_cls o) k := by
  have z := List.all_eq_true.mp ck_r_all o (List.mem_range.mpr ho)
  unfold ck_r at z
  rw [if_pos hc] at z
  have z2 := List.all_eq_true.mp z k (List.mem_range.mpr hk)
  simp only [Bool.and_eq_true, Bool.or_eq_true, decide_eq_true_eq] at z2
  rcases z2 with z2 | z2
  · exact absurd h5 z2
  · exact z2
theorem am_ref_L {o k : Nat} (ho : o < am_N) (hc : am_cls o = 21) (hk : k < am_len o) : am_ref o k < am_N ∧ am_cls (am_ref o k) = am_tL := by
  have z := List.all_eq_true.mp ck_r_all o (List.mem_range.mpr ho)
  unfold ck_r at z
  rw [if_neg (by rw [hc]; decide), if_pos hc] at z
  have z2 := List.all_eq_true.mp z k (List.mem_range.mpr hk)
  simpa only [Bool.and_eq_true, decide_eq_true_eq] using z2
theorem am_ref_C {o k : Nat} (ho : o < am_N) (hc : am_cls o = 22) (hk : k < am_len o) : am_ref o k < am_N ∧ am_cls (am_ref o k) = am_tC := by
  have z := List.all_eq_true.mp ck_r_all o (List.mem_range.mpr ho)
  unfold ck_r at z
  rw [if_neg (by rw [hc]; decide), if_neg (by rw [hc]; decide), if_pos hc] at z
  have z2 := List.all_eq_true.mp z k (List.mem_range.mpr hk)
  simpa only [Bool.and_eq_true, decide_eq_true_eq] using z2
theorem am_getD {α : Type} (l : List α) (i : Nat) (d : α) : l.getD i d ∈ l ∨ l.getD i d = d := by
  rw [List.getD_eq_getElem?_getD]
  cases h : l[i]? with
  | none => exact Or.inr rfl
  | some x => exact Or.inl (List.mem_of_getElem? h)
theorem am_len_lt (o : Nat) : am_len o < 2 ^ 31 := by
  unfold am_len
  have h : ∀ x ∈ am_lenL, x < 2 ^ 31 := by decide +kernel
  rcases am_getD am_lenL o 0 with z | z
  · exact h _ z
  · rw [z]; decide
theorem am_ok_w {t o : Nat} (h : am_ok (.inr (.inr (t, o)))) (ht : t < 30) : o < am_N ∧ am_cls o = t := by
  have h : (if t < 30 then o < am_N ∧ am_cls o = t else am_cok t o) := h
  rwa [if_pos ht] at h
theorem am_ok_mk {t o : Nat} (ht : t < 30) (h : o < am_N ∧ am_cls o = t) : am_ok (.inr (.inr (t, o))) := by
  show (if t < 30 then o < am_N ∧ am_cls o = t else am_cok t o)
  rwa [if_pos ht]
theorem am_ra_w (C : am_C) {t : Nat} (o : Nat) (ht : t < 30) : am_ra C t o = C.2.2.1 o := by unfold am_ra; rw [if_pos ht]
theorem am_ra_k (C : am_C) {t : Nat} (o : Nat) (ht : ¬ t < 30) : am_ra C t o = C.2.2.2.2 t o := by unfold am_ra; rw [if_neg ht]
theorem am_inT_I {ty : Nat} {x : Int} (h : am_inT ty x) (h1 : ty = 0 ∨ ty = 2 ∨ ty = 3 ∨ ty = 4) : am_inI x := by
  rcases h1 with rfl | rfl | rfl | rfl
  · exact h
  · have h : x = 0 ∨ x = 1 := h
    unfold am_inI; omega
  · have h : 0 ≤ x ∧ x ≤ 65535 := h
    unfold am_inI; omega
  · have h : -128 ≤ x ∧ x ≤ 127 := h
    unfold am_inI; omega
theorem am_ft_lt : ∀ t k, am_ft t k = 0 ∨ am_ft t k = 1 ∨ am_ft t k = 2 ∨ am_ft t k = 3 ∨ am_ft t k = 4 ∨ am_ft t k = 5 := by
  intro t k
  have h1 : ∀ l ∈ am_ftL, ∀ x ∈ l, x = 0 ∨ x = 1 ∨ x = 2 ∨ x = 3 ∨ x = 4 ∨ x = 5 := by decide +kernel
  have h2 : ∀ x ∈ [0, 1, 3, 4, 2], x = 0 ∨ x = 1 ∨ x = 2 ∨ x = 3 ∨ x = 4 ∨ x = 5 := by decide +kernel
  unfold am_ft
  split
  · rcases am_getD am_ftL t [] with z | z
    · rcases am_getD (am_ftL.getD t []) k 5 with y | y
      · exact h1 _ z _ y
      · rw [y]; omega
    · rw [z]; simp
  · rcases am_getD [0, 1, 3, 4, 2] (t - 16) 5 with z | z
    · exact h2 _ z
    · rw [z]; omega
/-- a field's value on both sides -/
theorem am_rd_v (C : am_C) (μ : am_M) {ty rt t o k : Nat} (h : ty = am_ft t k) (hr : ty = 5 → rt < 30) : am_v C (am_rd ty rt μ o k) = am_fv C μ o t k := by
  unfold am_fv
  rw [← h]
  by_cases h5 : ty = 5
  · subst h5
    show Value.ref (am_ra C rt (am_ref o k)) = .ref (C.2.2.1 (am_ref o k))
    rw [am_ra_w C _ (hr rfl)]
  · by_cases h1 : ty = 1
    · subst h1; rfl
    · have e1 : am_rd ty rt μ o k = .inl (μ o k) := by unfold am_rd; split <;> first | rfl | omega
      rw [e1]
      show Value.int (Int32.ofInt (μ o k)) = _
      split <;> first | rfl | omega
theorem am_rd_ok {μ : am_M} {ty rt t o k : Nat} (hM : am_okM μ) (ho : o < am_N) (hc : am_cls o = t) (ht : t < 16) (hk : k < am_nf t) (h : ty = am_ft t k) (hr : ty = 5 → rt = am_frt t k ∧ rt < 30) : am_ok (am_rd ty rt μ o k) := by
  have hm := hM o k
  subst hc
  rw [← h] at hm
  by_cases h5 : ty = 5
  · have z := am_ref_f ho ht hk (by rw [← h]; exact h5)
    subst h5
    obtain ⟨r1, r2⟩ := hr rfl
    exact am_ok_mk r2 ⟨z.1, by rw [r1]; exact z.2⟩
  · by_cases h1 : ty = 1
    · subst h1; exact hm
    · have e1 : am_rd ty rt μ o k = .inl (μ o k) := by unfold am_rd; split <;> first | rfl | omega
      rw [e1]
      have q := am_ft_lt (am_cls o) k
      rw [← h] at q
      exact am_inT_I hm (by omega)
theorem am_okM_up {μ : am_M} (hM : am_okM μ) {o k : Nat} {x : Int} (hx : am_inT (am_ft (am_cls o) k) x) : am_okM (am_up μ o k x) := by
  intro a b
  unfold am_up
  split
  · rename_i e
    split
    · rename_i e2
      rw [e, e2]; exact hx
    · exact hM a b
  · exact hM a b
theorem am_fv_n {C : am_C} {μ : am_M} {o t k : Nat} (h : am_ft t k ≠ 1) (h5 : am_ft t k ≠ 5) : am_fv C μ o t k = .int (Int32.ofInt (μ o k)) := by
  unfold am_fv
  split <;> first | rfl | (exfalso; omega)
theorem am_fv_l {C : am_C} {μ : am_M} {o t k : Nat} (h : am_ft t k = 1) : am_fv C μ o t k = .long (Int64.ofInt (μ o k)) := by
  unfold am_fv
  rw [h]
  rfl
theorem am_nar_c (x : Int) : am_inT 3 (o_nar .char x) := by
  show 0 ≤ o_nar .char x ∧ o_nar .char x ≤ 65535
  unfold o_nar
  have h : ∀ y : Int32, vp_nar .char y = nI (y.toBitVec.toNat % 65536) := by
    intro y
    rw [vp_nar_char, ← pk_char]
    first | rfl | (rw [UInt32.toUInt32_toUInt16]) | simp
  rw [h, nI_toInt (by omega)]
  omega
theorem am_nar_b (x : Int) : am_inT 4 (o_nar .byte x) := by
  show -128 ≤ o_nar .byte x ∧ o_nar .byte x ≤ 127
  unfold o_nar
  rw [vp_nar_byte, Int8.toInt_toInt32]
  have h1 := Int8.le_toInt (Int32.ofInt x).toInt8
  have h2 := Int8.toInt_lt (Int32.ofInt x).toInt8
  omega
theorem am_nar_z (x : Int) : am_inT 2 (o_nar .boolean x) := by
  show o_nar .boolean x = 0 ∨ o_nar .boolean x = 1
  unfold o_nar
  have h : ∀ y : Int32, (vp_nar .boolean y).toInt = 0 ∨ (vp_nar .boolean y).toInt = 1 := by
    intro y
    show (y &&& 1).toInt = 0 ∨ (y &&& 1).toInt = 1
    obtain ⟨k, hk, e⟩ := pk_andE y (m := 1) 1 (by decide)
    rw [e, nI_toInt (by omega)]
    omega
  exact h _
section C2
variable {X : am_K} {C : am_C} {j cells slots : Nat} {sc : Nat × (Nat → Int)} {Q : State → Prop} {pc : Nat} {lv : am_L} {st : List am_V} {μ : am_M}
theorem am_c_getfield (hG : am_G X C j cells slots sc) {x t o : Nat} {q : Nat × Nat × Nat × Nat} (hd : decode (am_mc j) pc = .ok (.getfield x, 3)) (hq : tb_f (am_mo j) x = some q) (ht : t = q.1) (hk : am_W X C j Q cells slots (pc + 3) lv (am_rd q.2.2.1 q.2.2.2 μ o q.2.1 :: st) μ) : am_W X C j Q cells slots pc lv (.inr (.inr (t, o)) :: st) μ := by
  obtain ⟨p, l, e, R, s, m, args, below, meth, c⟩ := X
  obtain ⟨hx, hb, hml, hown, hts, hK, hkst, hA, hRf, hRl, hcc, hss, hscr⟩ := hG
  intro o1 o2 o3 H locs ls hP hD hS hl
  subst ht
  obtain ⟨f1, f2, f3, f4, w, f5, f6⟩ := am_f_ok hq
  obtain ⟨Cn, T, N, ty, c1, c2, c3, c4, c5, c6⟩ := am_co q.1 f1
  obtain ⟨w1, w2⟩ := am_ok_w (am_oh o2) (by omega)
  have e5 : w = .fieldLink (am_cn (am_mo j)) x Cn (T q.2.1).2.1 (T q.2.1).2.2.1 := by
    unfold am_lnk at f5
    rw [c1] at f5
    exact (Option.some.inj f5).symm
  subst e5
  have hk2 : q.2.1 < N := by rw [c2]; exact f2
  have hz := hk o1 (am_o1 (am_rd_ok o3 w1 w2 (by omega) f2 f3 f4) (am_ot o2)) o3 H locs ls hP hD hS hl
  have ea : am_v C (.inr (.inr (q.1, o))) = .ref (C.2.2.1 o) := by
    show Value.ref (am_ra C q.1 o) = _
    rw [am_ra_w C o (by omega)]
  show W p l e R s m args below meth c H locs cells slots Q (F0 m pc ls (am_v C (.inr (.inr (q.1, o))) :: st.map (am_v C)))
  rw [ea]
  refine va_get (D := C.1) (ci := q.1) (v := am_v C (am_rd q.2.2.1 q.2.2.2 μ o q.2.1)) (C := Cn) (T := T) (N := N) hx hb hts c3 hown hK hP o (fs := am_fs C μ o q.1) ?_ c1 q.2.1 hk2 (hts _ f6) (fun _ h9 => by rw [(c6 _ hk2).1] at h9; exact h9) ?_ hd hz
  · rw [am_ws_at C μ w1, am_cell_o C μ w2 (by omega)]
  · rw [am_fs_at C μ o q.1 f2, am_rd_v C μ f3 (fun z => (f4 z).2)]
theorem am_c_putfield_i (hG : am_G X C j cells slots sc) {x t o : Nat} {v : Int} {q : Nat × Nat × Nat × Nat} (hd : decode (am_mc j) pc = .ok (.putfield x, 3)) (hq : tb_f (am_mo j) x = some q) (hfn : am_fn q.1 q.2.1 = false) (hty : q.2.2.1 = 0) (ht : t = q.1) (hk : am_W X C j Q cells slots (pc + 3) lv st (am_up μ o q.2.1 v)) : am_W X C j Q cells slots pc lv (.inl v :: .inr (.inr (t, o)) :: st) μ := by
  obtain ⟨p, l, e, R, s, m, args, below, meth, c⟩ := X
  obtain ⟨hx, hb, hml, hown, hts, hK, hkst, hA, hRf, hRl, hcc, hss, hscr⟩ := hG
  intro o1 o2 o3 H locs ls hP hD hS hl
  subst ht
  obtain ⟨f1, f2, f3, f4, w, f5, f6⟩ := am_f_ok hq
  obtain ⟨Cn, T, N, ty, c1, c2, c3, c4, c5, c6⟩ := am_co q.1 f1
  obtain ⟨w1, w2⟩ := am_ok_w (am_oh (am_ot o2)) (by omega)
  have e5 : w = .fieldLink (am_cn (am_mo j)) x Cn (T q.2.1).2.1 (T q.2.1).2.2.1 := by
    unfold am_lnk at f5
    rw [c1] at f5
    exact (Option.some.inj f5).symm
  subst e5
  have hk2 : q.2.1 < N := by rw [c2]; exact f2
  have f3' : am_ft q.1 q.2.1 = 0 := by rw [← f3, hty]
  obtain ⟨d1, d2, d3, d4, d5⟩ := c6 _ hk2
  have hty2 : parseFieldDescriptor (T q.2.1).2.2.1 = some .int := by rw [c4 _ hk2, d3 f3']
  have hM2 : am_okM (am_up μ o q.2.1 v) := am_okM_up o3 (by rw [w2, f3']; exact show am_inI v from am_oh o2)
  have ea : am_v C (.inr (.inr (q.1, o))) = .ref (C.2.2.1 o) := by
    show Value.ref (am_ra C q.1 o) = _
    rw [am_ra_w C o (by omega)]
  show W p l e R s m args below meth c H locs cells slots Q (F0 m pc ls (.int (Int32.ofInt v) :: am_v C (.inr (.inr (q.1, o))) :: st.map (am_v C)))
  rw [ea]
  have ec : (Sum.inr (q.1, (am_fs C μ o q.1).set q.2.1 (.int (Int32.ofInt v))) : va_E) = am_cell C (am_up μ o q.2.1 v) o := by
    rw [am_cell_o C _ w2 (by omega), am_fs_set C μ (x := v)]
    rw [am_fv_n (by omega) (by omega), am_up_self]
  refine va_put (D := C.1) (ci := q.1) (v := .int (Int32.ofInt v)) (ty := .int) (C := Cn) (T := T) (N := N) hx hb hts c3 ty c4 c5 hown hK hP hD hS o (fs := am_fs C μ o q.1) ?_ c1 q.2.1 hk2 (hts _ f6) (fun _ h9 => by rw [d1] at h9; exact h9) (by rw [d2]; exact hfn) hty2 ?_ ?_ (by unfold am_fs; simpa using f2) hd (fun H1 locs1 hP1 hD1 hS1 => ?_)
  · rw [am_ws_at C μ w1, am_cell_o C μ w2 (by omega)]
  · rfl
  · rfl
  · rw [am_ws_set C μ w1 ec] at hP1 hD1
    exact hk o1 (am_ot (am_ot o2)) hM2 H1 locs1 ls hP1 hD1 hS1 hl
theorem am_c_putfield_l (hG : am_G X C j cells slots sc) {x t o : Nat} {v : Int} {q : Nat × Nat × Nat × Nat} (hd : decode (am_mc j) pc = .ok (.putfield x, 3)) (hq : tb_f (am_mo j) x = some q) (hfn : am_fn q.1 q.2.1 = false) (hty : q.2.2.1 = 1) (ht : t = q.1) (hk : am_W X C j Q cells slots (pc + 3) lv st (am_up μ o q.2.1 v)) : am_W X C j Q cells slots pc lv (.inr (.inl v) :: .inr (.inr (t, o)) :: st) μ := by
  obtain ⟨p, l, e, R, s, m, args, below, meth, c⟩ := X
  obtain ⟨hx, hb, hml, hown, hts, hK, hkst, hA, hRf, hRl, hcc, hss, hscr⟩ := hG
  intro o1 o2 o3 H locs ls hP hD hS hl
  subst ht
  obtain ⟨f1, f2, f3, f4, w, f5, f6⟩ := am_f_ok hq
  obtain ⟨Cn, T, N, ty, c1, c2, c3, c4, c5, c6⟩ := am_co q.1 f1
  obtain ⟨w1, w2⟩ := am_ok_w (am_oh (am_ot o2)) (by omega)
  have e5 : w = .fieldLink (am_cn (am_mo j)) x Cn (T q.2.1).2.1 (T q.2.1).2.2.1 := by
    unfold am_lnk at f5
    rw [c1] at f5
    exact (Option.some.inj f5).symm
  subst e5
  have hk2 : q.2.1 < N := by rw [c2]; exact f2
  have f3' : am_ft q.1 q.2.1 = 1 := by rw [← f3, hty]
  obtain ⟨d1, d2, d3, d4, d5⟩ := c6 _ hk2
  have hty2 : parseFieldDescriptor (T q.2.1).2.2.1 = some .long := by rw [c4 _ hk2, d4 f3']
  have hM2 : am_okM (am_up μ o q.2.1 v) := am_okM_up o3 (by rw [w2, f3']; exact show am_inJ v from am_oh o2)
  have ea : am_v C (.inr (.inr (q.1, o))) = .ref (C.2.2.1 o) := by
    show Value.ref (am_ra C q.1 o) = _
    rw [am_ra_w C o (by omega)]
  show W p l e R s m args below meth c H locs cells slots Q (F0 m pc ls (.long (Int64.ofInt v) :: am_v C (.inr (.inr (q.1, o))) :: st.map (am_v C)))
  rw [ea]
  have ec : (Sum.inr (q.1, (am_fs C μ o q.1).set q.2.1 (.long (Int64.ofInt v))) : va_E) = am_cell C (am_up μ o q.2.1 v) o := by
    rw [am_cell_o C _ w2 (by omega), am_fs_set C μ (x := v)]
    rw [am_fv_l f3', am_up_self]
  refine va_put (D := C.1) (ci := q.1) (v := .long (Int64.ofInt v)) (ty := .long) (C := Cn) (T := T) (N := N) hx hb hts c3 ty c4 c5 hown hK hP hD hS o (fs := am_fs C μ o q.1) ?_ c1 q.2.1 hk2 (hts _ f6) (fun _ h9 => by rw [d1] at h9; exact h9) (by rw [d2]; exact hfn) hty2 ?_ ?_ (by unfold am_fs; simpa using f2) hd (fun H1 locs1 hP1 hD1 hS1 => ?_)
  · rw [am_ws_at C μ w1, am_cell_o C μ w2 (by omega)]
  · rfl
  · rfl
  · rw [am_ws_set C μ w1 ec] at hP1 hD1
    exact hk o1 (am_ot (am_ot o2)) hM2 H1 locs1 ls hP1 hD1 hS1 hl
theorem am_c_putfield_z (hG : am_G X C j cells slots sc) {x t o : Nat} {v : Int} {q : Nat × Nat × Nat × Nat} (hd : decode (am_mc j) pc = .ok (.putfield x, 3)) (hq : tb_f (am_mo j) x = some q) (hfn : am_fn q.1 q.2.1 = false) (hty : q.2.2.1 = 2) (ht : t = q.1) (hv : v = 0 ∨ v = 1) (hk : am_W X C j Q cells slots (pc + 3) lv st (am_up μ o q.2.1 v)) : am_W X C j Q cells slots pc lv (.inl v :: .inr (.inr (t, o)) :: st) μ := by
  obtain ⟨p, l, e, R, s, m, args, below, meth, c⟩ := X
  obtain ⟨hx, hb, hml, hown, hts, hK, hkst, hA, hRf, hRl, hcc, hss, hscr⟩ := hG
  intro o1 o2 o3 H locs ls hP hD hS hl
  subst ht
  obtain ⟨f1, f2, f3, f4, w, f5, f6⟩ := am_f_ok hq
  obtain ⟨Cn, T, N, ty, c1, c2, c3, c4, c5, c6⟩ := am_co q.1 f1
  obtain ⟨w1, w2⟩ := am_ok_w (am_oh (am_ot o2)) (by omega)
  have e5 : w = .fieldLink (am_cn (am_mo j)) x Cn (T q.2.1).2.1 (T q.2.1).2.2.1 := by
    unfold am_lnk at f5
    rw [c1] at f5
    exact (Option.some.inj f5).symm
  subst e5
  have hk2 : q.2.1 < N := by rw [c2]; exact f2
  have f3' : am_ft q.1 q.2.1 = 2 := by rw [← f3, hty]
  obtain ⟨d1, d2, d3, d4, d5⟩ := c6 _ hk2
  have hty2 : parseFieldDescriptor (T q.2.1).2.2.1 = some .boolean := by rw [c4 _ hk2, d5 f3']
  have hM2 : am_okM (am_up μ o q.2.1 v) := am_okM_up o3 (by rw [w2, f3']; exact hv)
  have ea : am_v C (.inr (.inr (q.1, o))) = .ref (C.2.2.1 o) := by
    show Value.ref (am_ra C q.1 o) = _
    rw [am_ra_w C o (by omega)]
  show W p l e R s m args below meth c H locs cells slots Q (F0 m pc ls (.int (Int32.ofInt v) :: am_v C (.inr (.inr (q.1, o))) :: st.map (am_v C)))
  rw [ea]
  have ec : (Sum.inr (q.1, (am_fs C μ o q.1).set q.2.1 (.int (Int32.ofInt v))) : va_E) = am_cell C (am_up μ o q.2.1 v) o := by
    rw [am_cell_o C _ w2 (by omega), am_fs_set C μ (x := v)]
    rw [am_fv_n (by omega) (by omega), am_up_self]
  refine va_put (D := C.1) (ci := q.1) (v := .int (Int32.ofInt v)) (ty := .boolean) (C := Cn) (T := T) (N := N) hx hb hts c3 ty c4 c5 hown hK hP hD hS o (fs := am_fs C μ o q.1) ?_ c1 q.2.1 hk2 (hts _ f6) (fun _ h9 => by rw [d1] at h9; exact h9) (by rw [d2]; exact hfn) hty2 ?_ ?_ (by unfold am_fs; simpa using f2) hd (fun H1 locs1 hP1 hD1 hS1 => ?_)
  · rw [am_ws_at C μ w1, am_cell_o C μ w2 (by omega)]
  · rcases hv with rfl | rfl <;> rfl
  · rcases hv with rfl | rfl <;> rfl
  · rw [am_ws_set C μ w1 ec] at hP1 hD1
    exact hk o1 (am_ot (am_ot o2)) hM2 H1 locs1 ls hP1 hD1 hS1 hl
theorem am_c_iaload (hG : am_G X C j cells slots sc) {o : Nat} {i : Int} (hd : decode (am_mc j) pc = .ok (.iaload, 1)) (hi : 0 ≤ i ∧ i < am_len o) (hk : am_W X C j Q cells slots (pc + 1) lv (.inl (μ o i.toNat) :: st) μ) : am_W X C j Q cells slots pc lv (.inl i :: .inr (.inr (16, o)) :: st) μ := by
  obtain ⟨p, l, e, R, s, m, args, below, meth, c⟩ := X
  obtain ⟨hx, hb, hml, hown, hts, hK, hkst, hA, hRf, hRl, hcc, hss, hscr⟩ := hG
  intro o1 o2 o3 H locs ls hP hD hS hl
  obtain ⟨w1, w2⟩ := am_ok_w (am_oh (am_ot o2)) (by decide)
  obtain ⟨n1, n2⟩ := am_vpin (am_oh o2) hi
  have ha : (am_ws C μ)[o]? = some (C.2.2.1 o, .inl (C.2.1 16, am_len o, .inl (fun k => Int32.ofInt (μ o k)))) := by
    rw [am_ws_at C μ w1, am_cell_a C μ w2 (by decide)]
    rfl
  have ho : am_ok (.inl (μ o i.toNat)) := by have z := o3 o i.toNat; rw [w2] at z; exact am_inT_I z (Or.inl rfl)
  refine va_iald hx hb hK hP o 0 ha rfl n1 hd ?_
  rw [n2]
  exact hk o1 (am_o1 ho (am_ot (am_ot o2))) o3 H locs ls hP hD hS hl
theorem am_c_laload (hG : am_G X C j cells slots sc) {o : Nat} {i : Int} (hd : decode (am_mc j) pc = .ok (.laload, 1)) (hi : 0 ≤ i ∧ i < am_len o) (hk : am_W X C j Q cells slots (pc + 1) lv (.inr (.inl (μ o i.toNat)) :: st) μ) : am_W X C j Q cells slots pc lv (.inl i :: .inr (.inr (17, o)) :: st) μ := by
  obtain ⟨p, l, e, R, s, m, args, below, meth, c⟩ := X
  obtain ⟨hx, hb, hml, hown, hts, hK, hkst, hA, hRf, hRl, hcc, hss, hscr⟩ := hG
  intro o1 o2 o3 H locs ls hP hD hS hl
  obtain ⟨w1, w2⟩ := am_ok_w (am_oh (am_ot o2)) (by decide)
  obtain ⟨n1, n2⟩ := am_vpin (am_oh o2) hi
  have ha : (am_ws C μ)[o]? = some (C.2.2.1 o, .inl (C.2.1 17, am_len o, .inr (.inl (fun k => Int64.ofInt (μ o k))))) := by
    rw [am_ws_at C μ w1, am_cell_a C μ w2 (by decide)]
    rfl
  have ho : am_ok (.inr (.inl (μ o i.toNat))) := by have z := o3 o i.toNat; rw [w2] at z; exact z
  refine va_lald hx hb hK hP o 1 ha rfl n1 hd ?_
  rw [n2]
  exact hk o1 (am_o1 ho (am_ot (am_ot o2))) o3 H locs ls hP hD hS hl
theorem am_c_caload (hG : am_G X C j cells slots sc) {o : Nat} {i : Int} (hd : decode (am_mc j) pc = .ok (.caload, 1)) (hi : 0 ≤ i ∧ i < am_len o) (hk : am_W X C j Q cells slots (pc + 1) lv (.inl (μ o i.toNat) :: st) μ) : am_W X C j Q cells slots pc lv (.inl i :: .inr (.inr (18, o)) :: st) μ := by
  obtain ⟨p, l, e, R, s, m, args, below, meth, c⟩ := X
  obtain ⟨hx, hb, hml, hown, hts, hK, hkst, hA, hRf, hRl, hcc, hss, hscr⟩ := hG
  intro o1 o2 o3 H locs ls hP hD hS hl
  obtain ⟨w1, w2⟩ := am_ok_w (am_oh (am_ot o2)) (by decide)
  obtain ⟨n1, n2⟩ := am_vpin (am_oh o2) hi
  have ha : (am_ws C μ)[o]? = some (C.2.2.1 o, .inl (C.2.1 18, am_len o, .inl (fun k => Int32.ofInt (μ o k)))) := by
    rw [am_ws_at C μ w1, am_cell_a C μ w2 (by decide)]
    rfl
  have ho : am_ok (.inl (μ o i.toNat)) := by have z := o3 o i.toNat; rw [w2] at z; exact am_inT_I z (Or.inr (Or.inr (Or.inl rfl)))
  refine va_cald hx hb hK hP o 2 ha rfl n1 hd ?_
  rw [n2]
  exact hk o1 (am_o1 ho (am_ot (am_ot o2))) o3 H locs ls hP hD hS hl
theorem am_c_baload (hG : am_G X C j cells slots sc) {o : Nat} {i : Int} (hd : decode (am_mc j) pc = .ok (.baload, 1)) (hi : 0 ≤ i ∧ i < am_len o) (hk : am_W X C j Q cells slots (pc + 1) lv (.inl (μ o i.toNat) :: st) μ) : am_W X C j Q cells slots pc lv (.inl i :: .inr (.inr (19, o)) :: st) μ := by
  obtain ⟨p, l, e, R, s, m, args, below, meth, c⟩ := X
  obtain ⟨hx, hb, hml, hown, hts, hK, hkst, hA, hRf, hRl, hcc, hss, hscr⟩ := hG
  intro o1 o2 o3 H locs ls hP hD hS hl
  obtain ⟨w1, w2⟩ := am_ok_w (am_oh (am_ot o2)) (by decide)
  obtain ⟨n1, n2⟩ := am_vpin (am_oh o2) hi
  have ha : (am_ws C μ)[o]? = some (C.2.2.1 o, .inl (C.2.1 19, am_len o, .inl (fun k => Int32.ofInt (μ o k)))) := by
    rw [am_ws_at C μ w1, am_cell_a C μ w2 (by decide)]
    rfl
  have ho : am_ok (.inl (μ o i.toNat)) := by have z := o3 o i.toNat; rw [w2] at z; exact am_inT_I z (Or.inr (Or.inr (Or.inr rfl)))
  refine va_bald hx hb hK hP o 3 ha rfl n1 hd ?_
  rw [n2]
  exact hk o1 (am_o1 ho (am_ot (am_ot o2))) o3 H locs ls hP hD hS hl
theorem am_c_zaload (hG : am_G X C j cells slots sc) {o : Nat} {i : Int} (hd : decode (am_mc j) pc = .ok (.baload, 1)) (hi : 0 ≤ i ∧ i < am_len o) (hk : am_W X C j Q cells slots (pc + 1) lv (.inl (μ o i.toNat) :: st) μ) : am_W X C j Q cells slots pc lv (.inl i :: .inr (.inr (20, o)) :: st) μ := by
  obtain ⟨p, l, e, R, s, m, args, below, meth, c⟩ := X
  obtain ⟨hx, hb, hml, hown, hts, hK, hkst, hA, hRf, hRl, hcc, hss, hscr⟩ := hG
  intro o1 o2 o3 H locs ls hP hD hS hl
  obtain ⟨w1, w2⟩ := am_ok_w (am_oh (am_ot o2)) (by decide)
  obtain ⟨n1, n2⟩ := am_vpin (am_oh o2) hi
  have ha : (am_ws C μ)[o]? = some (C.2.2.1 o, .inl (C.2.1 20, am_len o, .inl (fun k => Int32.ofInt (μ o k)))) := by
    rw [am_ws_at C μ w1, am_cell_a C μ w2 (by decide)]
    rfl
  have ho : am_ok (.inl (μ o i.toNat)) := by have z := o3 o i.toNat; rw [w2] at z; exact am_inT_I z (Or.inr (Or.inl rfl))
  refine va_zald hx hb hK hP o 4 ha rfl n1 hd ?_
  rw [n2]
  exact hk o1 (am_o1 ho (am_ot (am_ot o2))) o3 H locs ls hP hD hS hl
theorem am_c_aaload_L (hG : am_G X C j cells slots sc) {o : Nat} {i : Int} (hd : decode (am_mc j) pc = .ok (.aaload, 1)) (hi : 0 ≤ i ∧ i < am_len o) (hk : am_W X C j Q cells slots (pc + 1) lv (.inr (.inr (am_tL, am_ref o i.toNat)) :: st) μ) : am_W X C j Q cells slots pc lv (.inl i :: .inr (.inr (21, o)) :: st) μ := by
  obtain ⟨p, l, e, R, s, m, args, below, meth, c⟩ := X
  obtain ⟨hx, hb, hml, hown, hts, hK, hkst, hA, hRf, hRl, hcc, hss, hscr⟩ := hG
  intro o1 o2 o3 H locs ls hP hD hS hl
  obtain ⟨w1, w2⟩ := am_ok_w (am_oh (am_ot o2)) (by decide)
  obtain ⟨n1, n2⟩ := am_vpin (am_oh o2) hi
  have ha : (am_ws C μ)[o]? = some (C.2.2.1 o, .inl (C.2.1 21, am_len o, .inr (.inr (.inr (.inr (fun k => some (C.2.2.1 (am_ref o k)))))))) := by
    rw [am_ws_at C μ w1, am_cell_a C μ w2 (by decide)]
    rfl
  have ho : am_ok (.inr (.inr (am_tL, am_ref o i.toNat))) := am_ok_mk (by decide) (am_ref_L w1 w2 (by omega))
  refine va_aldq hx hb hK hP o 5 ha rfl n1 hd ?_
  rw [n2]
  exact hk o1 (am_o1 ho (am_ot (am_ot o2))) o3 H locs ls hP hD hS hl
theorem am_c_aaload_C (hG : am_G X C j cells slots sc) {o : Nat} {i : Int} (hd : decode (am_mc j) pc = .ok (.aaload, 1)) (hi : 0 ≤ i ∧ i < am_len o) (hk : am_W X C j Q cells slots (pc + 1) lv (.inr (.inr (am_tC, am_ref o i.toNat)) :: st) μ) : am_W X C j Q cells slots pc lv (.inl i :: .inr (.inr (22, o)) :: st) μ := by
  obtain ⟨p, l, e, R, s, m, args, below, meth, c⟩ := X
  obtain ⟨hx, hb, hml, hown, hts, hK, hkst, hA, hRf, hRl, hcc, hss, hscr⟩ := hG
  intro o1 o2 o3 H locs ls hP hD hS hl
  obtain ⟨w1, w2⟩ := am_ok_w (am_oh (am_ot o2)) (by decide)
  obtain ⟨n1, n2⟩ := am_vpin (am_oh o2) hi
  have ha : (am_ws C μ)[o]? = some (C.2.2.1 o, .inl (C.2.1 22, am_len o, .inr (.inr (.inr (.inr (fun k => some (C.2.2.1 (am_ref o k)))))))) := by
    rw [am_ws_at C μ w1, am_cell_a C μ w2 (by decide)]
    rfl
  have ho : am_ok (.inr (.inr (am_tC, am_ref o i.toNat))) := am_ok_mk (by decide) (am_ref_C w1 w2 (by omega))
  refine va_aldq hx hb hK hP o 6 ha rfl n1 hd ?_
  rw [n2]
  exact hk o1 (am_o1 ho (am_ot (am_ot o2))) o3 H locs ls hP hD hS hl
theorem am_c_iastore (hG : am_G X C j cells slots sc) {o : Nat} {i x : Int} (hd : decode (am_mc j) pc = .ok (.iastore, 1)) (hi : 0 ≤ i ∧ i < am_len o) (hk : am_W X C j Q cells slots (pc + 1) lv st (am_up μ o i.toNat (x))) : am_W X C j Q cells slots pc lv (.inl x :: .inl i :: .inr (.inr (16, o)) :: st) μ := by
  obtain ⟨p, l, e, R, s, m, args, below, meth, c⟩ := X
  obtain ⟨hx, hb, hml, hown, hts, hK, hkst, hA, hRf, hRl, hcc, hss, hscr⟩ := hG
  intro o1 o2 o3 H locs ls hP hD hS hl
  obtain ⟨w1, w2⟩ := am_ok_w (am_oh (am_ot (am_ot o2))) (by decide)
  obtain ⟨n1, n2⟩ := am_vpin (am_oh (am_ot o2)) hi
  have ha : (am_ws C μ)[o]? = some (C.2.2.1 o, .inl (C.2.1 16, am_len o, .inl (fun k => Int32.ofInt (μ o k)))) := by
    rw [am_ws_at C μ w1, am_cell_a C μ w2 (by decide)]
    rfl
  have hM2 : am_okM (am_up μ o i.toNat (x)) := am_okM_up o3 (by rw [w2]; exact (am_oh o2 : am_inI x))
  refine va_iast hx hb hK hP hD hS o 0 ha rfl n1 hd (fun H1 locs1 hP1 hD1 hS1 => ?_)
  rw [n2] at hP1 hD1
  have ec : (Sum.inl (C.2.1 16, am_len o, .inl (upd (fun k => Int32.ofInt (μ o k)) i.toNat (Int32.ofInt x))) : va_E) = am_cell C (am_up μ o i.toNat (x)) o := by
    rw [am_cell_a C _ w2 (by decide)]
    show _ = (Sum.inl (C.2.1 16, am_len o, .inl (fun k => Int32.ofInt (am_up μ o i.toNat (x) o k))) : va_E)
    congr 4
    funext k
    unfold upd am_up
    by_cases hk3 : k = i.toNat
    · simp [hk3]
    · simp [hk3]
  rw [am_ws_set C μ w1 ec] at hP1 hD1
  exact hk o1 (am_ot (am_ot (am_ot o2))) hM2 H1 locs1 ls hP1 hD1 hS1 hl
theorem am_c_lastore (hG : am_G X C j cells slots sc) {o : Nat} {i x : Int} (hd : decode (am_mc j) pc = .ok (.lastore, 1)) (hi : 0 ≤ i ∧ i < am_len o) (hk : am_W X C j Q cells slots (pc + 1) lv st (am_up μ o i.toNat (x))) : am_W X C j Q cells slots pc lv (.inr (.inl x) :: .inl i :: .inr (.inr (17, o)) :: st) μ := by
  obtain ⟨p, l, e, R, s, m, args, below, meth, c⟩ := X
  obtain ⟨hx, hb, hml, hown, hts, hK, hkst, hA, hRf, hRl, hcc, hss, hscr⟩ := hG
  intro o1 o2 o3 H locs ls hP hD hS hl
  obtain ⟨w1, w2⟩ := am_ok_w (am_oh (am_ot (am_ot o2))) (by decide)
  obtain ⟨n1, n2⟩ := am_vpin (am_oh (am_ot o2)) hi
  have ha : (am_ws C μ)[o]? = some (C.2.2.1 o, .inl (C.2.1 17, am_len o, .inr (.inl (fun k => Int64.ofInt (μ o k))))) := by
    rw [am_ws_at C μ w1, am_cell_a C μ w2 (by decide)]
    rfl
  have hM2 : am_okM (am_up μ o i.toNat (x)) := am_okM_up o3 (by rw [w2]; exact (am_oh o2 : am_inJ x))
  refine va_last hx hb hK hP hD hS o 1 ha rfl n1 hd (fun H1 locs1 hP1 hD1 hS1 => ?_)
  rw [n2] at hP1 hD1
  have ec : (Sum.inl (C.2.1 17, am_len o, .inr (.inl (vp_updL (fun k => Int64.ofInt (μ o k)) i.toNat (Int64.ofInt x)))) : va_E) = am_cell C (am_up μ o i.toNat (x)) o := by
    rw [am_cell_a C _ w2 (by decide)]
    show _ = (Sum.inl (C.2.1 17, am_len o, .inr (.inl (fun k => Int64.ofInt (am_up μ o i.toNat (x) o k)))) : va_E)
    congr 5
    funext k
    unfold vp_updL am_up
    by_cases hk3 : k = i.toNat
    · simp [hk3]
    · simp [hk3]
  rw [am_ws_set C μ w1 ec] at hP1 hD1
  exact hk o1 (am_ot (am_ot (am_ot o2))) hM2 H1 locs1 ls hP1 hD1 hS1 hl
theorem am_c_castore (hG : am_G X C j cells slots sc) {o : Nat} {i x : Int} (hd : decode (am_mc j) pc = .ok (.castore, 1)) (hi : 0 ≤ i ∧ i < am_len o) (hk : am_W X C j Q cells slots (pc + 1) lv st (am_up μ o i.toNat (o_nar .char x))) : am_W X C j Q cells slots pc lv (.inl x :: .inl i :: .inr (.inr (18, o)) :: st) μ := by
  obtain ⟨p, l, e, R, s, m, args, below, meth, c⟩ := X
  obtain ⟨hx, hb, hml, hown, hts, hK, hkst, hA, hRf, hRl, hcc, hss, hscr⟩ := hG
  intro o1 o2 o3 H locs ls hP hD hS hl
  obtain ⟨w1, w2⟩ := am_ok_w (am_oh (am_ot (am_ot o2))) (by decide)
  obtain ⟨n1, n2⟩ := am_vpin (am_oh (am_ot o2)) hi
  have ha : (am_ws C μ)[o]? = some (C.2.2.1 o, .inl (C.2.1 18, am_len o, .inl (fun k => Int32.ofInt (μ o k)))) := by
    rw [am_ws_at C μ w1, am_cell_a C μ w2 (by decide)]
    rfl
  have hM2 : am_okM (am_up μ o i.toNat (o_nar .char x)) := am_okM_up o3 (by rw [w2]; exact am_nar_c x)
  refine va_cast hx hb hK hP hD hS o 2 ha rfl n1 hd (fun H1 locs1 hP1 hD1 hS1 => ?_)
  rw [n2] at hP1 hD1
  have ec : (Sum.inl (C.2.1 18, am_len o, .inl (upd (fun k => Int32.ofInt (μ o k)) i.toNat (vp_nar .char (Int32.ofInt x)))) : va_E) = am_cell C (am_up μ o i.toNat (o_nar .char x)) o := by
    rw [am_cell_a C _ w2 (by decide)]
    show _ = (Sum.inl (C.2.1 18, am_len o, .inl (fun k => Int32.ofInt (am_up μ o i.toNat (o_nar .char x) o k))) : va_E)
    congr 4
    funext k
    unfold upd am_up
    by_cases hk3 : k = i.toNat
    · simp [hk3, o_nar]
    · simp [hk3]
  rw [am_ws_set C μ w1 ec] at hP1 hD1
  exact hk o1 (am_ot (am_ot (am_ot o2))) hM2 H1 locs1 ls hP1 hD1 hS1 hl
theorem am_c_bastore (hG : am_G X C j cells slots sc) {o : Nat} {i x : Int} (hd : decode (am_mc j) pc = .ok (.bastore, 1)) (hi : 0 ≤ i ∧ i < am_len o) (hk : am_W X C j Q cells slots (pc + 1) lv st (am_up μ o i.toNat (o_nar .byte x))) : am_W X C j Q cells slots pc lv (.inl x :: .inl i :: .inr (.inr (19, o)) :: st) μ := by
  obtain ⟨p, l, e, R, s, m, args, below, meth, c⟩ := X
  obtain ⟨hx, hb, hml, hown, hts, hK, hkst, hA, hRf, hRl, hcc, hss, hscr⟩ := hG
  intro o1 o2 o3 H locs ls hP hD hS hl
  obtain ⟨w1, w2⟩ := am_ok_w (am_oh (am_ot (am_ot o2))) (by decide)
  obtain ⟨n1, n2⟩ := am_vpin (am_oh (am_ot o2)) hi
  have ha : (am_ws C μ)[o]? = some (C.2.2.1 o, .inl (C.2.1 19, am_len o, .inl (fun k => Int32.ofInt (μ o k)))) := by
    rw [am_ws_at C μ w1, am_cell_a C μ w2 (by decide)]
    rfl
  have hM2 : am_okM (am_up μ o i.toNat (o_nar .byte x)) := am_okM_up o3 (by rw [w2]; exact am_nar_b x)
  refine va_bast hx hb hK hP hD hS o 3 ha rfl n1 hd (fun H1 locs1 hP1 hD1 hS1 => ?_)
  rw [n2] at hP1 hD1
  have ec : (Sum.inl (C.2.1 19, am_len o, .inl (upd (fun k => Int32.ofInt (μ o k)) i.toNat (vp_nar .byte (Int32.ofInt x)))) : va_E) = am_cell C (am_up μ o i.toNat (o_nar .byte x)) o := by
    rw [am_cell_a C _ w2 (by decide)]
    show _ = (Sum.inl (C.2.1 19, am_len o, .inl (fun k => Int32.ofInt (am_up μ o i.toNat (o_nar .byte x) o k))) : va_E)
    congr 4
    funext k
    unfold upd am_up
    by_cases hk3 : k = i.toNat
    · simp [hk3, o_nar]
    · simp [hk3]
  rw [am_ws_set C μ w1 ec] at hP1 hD1
  exact hk o1 (am_ot (am_ot (am_ot o2))) hM2 H1 locs1 ls hP1 hD1 hS1 hl
theorem am_c_zastore (hG : am_G X C j cells slots sc) {o : Nat} {i x : Int} (hd : decode (am_mc j) pc = .ok (.bastore, 1)) (hi : 0 ≤ i ∧ i < am_len o) (hk : am_W X C j Q cells slots (pc + 1) lv st (am_up μ o i.toNat (o_nar .boolean x))) : am_W X C j Q cells slots pc lv (.inl x :: .inl i :: .inr (.inr (20, o)) :: st) μ := by
  obtain ⟨p, l, e, R, s, m, args, below, meth, c⟩ := X
  obtain ⟨hx, hb, hml, hown, hts, hK, hkst, hA, hRf, hRl, hcc, hss, hscr⟩ := hG
  intro o1 o2 o3 H locs ls hP hD hS hl
  obtain ⟨w1, w2⟩ := am_ok_w (am_oh (am_ot (am_ot o2))) (by decide)
  obtain ⟨n1, n2⟩ := am_vpin (am_oh (am_ot o2)) hi
  have ha : (am_ws C μ)[o]? = some (C.2.2.1 o, .inl (C.2.1 20, am_len o, .inl (fun k => Int32.ofInt (μ o k)))) := by
    rw [am_ws_at C μ w1, am_cell_a C μ w2 (by decide)]
    rfl
  have hM2 : am_okM (am_up μ o i.toNat (o_nar .boolean x)) := am_okM_up o3 (by rw [w2]; exact am_nar_z x)
  refine va_zast hx hb hK hP hD hS o 4 ha rfl n1 hd (fun H1 locs1 hP1 hD1 hS1 => ?_)
  rw [n2] at hP1 hD1
  have ec : (Sum.inl (C.2.1 20, am_len o, .inl (upd (fun k => Int32.ofInt (μ o k)) i.toNat (vp_nar .boolean (Int32.ofInt x)))) : va_E) = am_cell C (am_up μ o i.toNat (o_nar .boolean x)) o := by
    rw [am_cell_a C _ w2 (by decide)]
    show _ = (Sum.inl (C.2.1 20, am_len o, .inl (fun k => Int32.ofInt (am_up μ o i.toNat (o_nar .boolean x) o k))) : va_E)
    congr 4
    funext k
    unfold upd am_up
    by_cases hk3 : k = i.toNat
    · simp [hk3, o_nar]
    · simp [hk3]
  rw [am_ws_set C μ w1 ec] at hP1 hD1
  exact hk o1 (am_ot (am_ot (am_ot o2))) hM2 H1 locs1 ls hP1 hD1 hS1 hl
end C2
