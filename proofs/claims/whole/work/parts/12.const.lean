/-! Constants: String literals, long constants, statics, constant arrays, the script; switches; decoding. -/
def ck_k (own x : Nat) : Bool := match tb_k_ own x with
  | none => true
  | some (.inr (.inr (31, i))) => decide (i < 24) && (match am_str[i]? with | some q => decide (q.1 = am_cn own) && decide (q.2.1 = x) | none => false)
  | some _ => false
set_option maxRecDepth 100000 in
theorem ck_k_all : ((List.range 17).all fun own => (List.range 600).all fun x => ck_k own x) = true := by decide +kernel
def ck_kl (own x : Nat) : Bool := match tb_kl_ own x with
  | none => true
  | some v => decide (-9223372036854775808 ≤ v ∧ v ≤ 9223372036854775807) && decide (tables_1[tb_klp own x]? = some (.constantLong (am_cn own) x (Int64.ofInt v)))
set_option maxRecDepth 100000 in
theorem ck_kl_all : ((List.range 17).all fun own => (List.range 600).all fun x => ck_kl own x) = true := by decide +kernel
def ck_s (own x : Nat) : Bool := match tb_s_ own x with
  | none => true
  | some v => decide (own = 3 ∧ x = 56 ∧ v = .inr (.inr (30, 0))) || decide (own = 8 ∧ x = 65 ∧ v = .inr (.inr (30, 1))) || decide (own = 15 ∧ x = 38 ∧ v = .inl 1)
set_option maxRecDepth 100000 in
theorem ck_s_all : ((List.range 17).all fun own => (List.range 600).all fun x => ck_s own x) = true := by decide +kernel
theorem am_k_ok {own x : Nat} {v : am_V} (h : tb_k own x = some v) : ∃ i q, v = .inr (.inr (31, i)) ∧ i < 24 ∧ am_str[i]? = some q ∧ q.1 = am_cn own ∧ q.2.1 = x := by
  unfold tb_k at h
  obtain ⟨hb, h⟩ := am_if_s h
  have z := am_range2 ck_k_all hb.1 hb.2
  unfold ck_k at z
  rw [h] at z
  split at z
  · rename_i e; cases e
  · rename_i i e
    cases e
    simp only [Bool.and_eq_true, decide_eq_true_eq] at z
    obtain ⟨z1, z2⟩ := z
    split at z2
    · rename_i q hq
      simp only [Bool.and_eq_true, decide_eq_true_eq] at z2
      exact ⟨i, q, rfl, z1, hq, z2.1, z2.2⟩
    · cases z2
  · cases z
theorem am_kl_ok {own x : Nat} {v : Int} (h : tb_kl own x = some v) : am_inJ v ∧ Cond.constantLong (am_cn own) x (Int64.ofInt v) ∈ am_TS := by
  unfold tb_kl at h
  obtain ⟨hb, h⟩ := am_if_s h
  have z := am_range2 ck_kl_all hb.1 hb.2
  unfold ck_kl at z
  rw [h] at z
  simp only [Bool.and_eq_true, decide_eq_true_eq] at z
  exact ⟨z.1, am_in_1 z.2 rfl⟩
theorem am_s_ok {own x : Nat} {v : am_V} (h : tb_s own x = some v) : (own = 3 ∧ x = 56 ∧ v = .inr (.inr (30, 0))) ∨ (own = 8 ∧ x = 65 ∧ v = .inr (.inr (30, 1))) ∨ (own = 15 ∧ x = 38 ∧ v = .inl 1) := by
  unfold tb_s at h
  obtain ⟨hb, h⟩ := am_if_s h
  have z := am_range2 ck_s_all hb.1 hb.2
  unfold ck_s at z
  rw [h] at z
  simp only [Bool.or_eq_true, decide_eq_true_eq] at z
  rcases z with (z | z) | z
  · exact Or.inl z
  · exact Or.inr (Or.inl z)
  · exact Or.inr (Or.inr z)
theorem am_w1 : Cond.fieldLink "ChartPress$Letters" 56 "ChartPress$Letters" "MONTHS" "[I" ∈ am_TS := am_in_1 (p := 512) (by decide +kernel) rfl
theorem am_w2 : Cond.fieldLink "ChartPress$Scale" 65 "ChartPress$Scale" "FACTORS" "[I" ∈ am_TS := am_in_1 (p := 1011) (by decide +kernel) rfl
theorem am_w3 : Cond.fieldLink "java/lang/String" 38 "java/lang/String" "COMPACT_STRINGS" "Z" ∈ am_TS := am_in_1 (p := 694) (by decide +kernel) rfl
theorem am_w4 : Cond.fieldLink "java/lang/String" 9 "java/lang/String" "value" "[B" ∈ am_TS := am_in_1 (p := 1719) (by decide +kernel) rfl
theorem am_w5 : Cond.fieldLink "java/lang/String" 15 "java/lang/String" "coder" "B" ∈ am_TS := am_in_1 (p := 1720) (by decide +kernel) rfl
section C5
variable {X : am_K} {C : am_C} {j cells slots : Nat} {sc : Nat × (Nat → Int)} {Q : State → Prop} {pc : Nat} {lv : am_L} {st : List am_V} {μ : am_M}
theorem am_c_ldc (hG : am_G X C j cells slots sc) {x : Nat} {v : am_V} (hd : decode (am_mc j) pc = .ok (.ldc x, 2)) (hv : tb_k (am_mo j) x = some v) (hk : am_W X C j Q cells slots (pc + 2) lv (v :: st) μ) : am_W X C j Q cells slots pc lv st μ := by
  obtain ⟨p, l, e, R, s, m, args, below, meth, c⟩ := X
  obtain ⟨hx, hb, hml, hown, hts, hK, hkst, hA, hRf, hRl, hcc, hss, hscr⟩ := hG
  intro o1 o2 o3 H locs ls hP hD hS hl
  obtain ⟨i, q, rfl, k1, k2, k3, k4⟩ := am_k_ok hv
  have hR := hkst.1 i q k2
  rw [k3, k4] at hR
  exact va_ldcS hx hb hown hR hd (hk o1 (am_o1 (show am_cok 31 i from Or.inr (Or.inl ⟨rfl, k1⟩)) o2) o3 H locs ls hP hD hS hl)
theorem am_c_ldc2 (hG : am_G X C j cells slots sc) {x : Nat} {v : Int} (hd : decode (am_mc j) pc = .ok (.ldc2_w x, 3)) (hv : tb_kl (am_mo j) x = some v) (hk : am_W X C j Q cells slots (pc + 3) lv (.inr (.inl v) :: st) μ) : am_W X C j Q cells slots pc lv st μ := by
  obtain ⟨p, l, e, R, s, m, args, below, meth, c⟩ := X
  obtain ⟨hx, hb, hml, hown, hts, hK, hkst, hA, hRf, hRl, hcc, hss, hscr⟩ := hG
  intro o1 o2 o3 H locs ls hP hD hS hl
  obtain ⟨k1, k2⟩ := am_kl_ok hv
  exact lv_ldc2 hx hb hown (hts _ k2) hd (hk o1 (am_o1 k1 o2) o3 H locs ls hP hD hS hl)
theorem am_c_getstatic (hG : am_G X C j cells slots sc) {x : Nat} {v : am_V} (hd : decode (am_mc j) pc = .ok (.getstatic x, 3)) (hv : tb_s (am_mo j) x = some v) (hk : am_W X C j Q cells slots (pc + 3) lv (v :: st) μ) : am_W X C j Q cells slots pc lv st μ := by
  obtain ⟨p, l, e, R, s, m, args, below, meth, c⟩ := X
  obtain ⟨hx, hb, hml, hown, hts, hK, hkst, hA, hRf, hRl, hcc, hss, hscr⟩ := hG
  intro o1 o2 o3 H locs ls hP hD hS hl
  rcases am_s_ok hv with ⟨e1, rfl, rfl⟩ | ⟨e1, rfl, rfl⟩ | ⟨e1, rfl, rfl⟩
  · rw [e1] at hown
    exact va_gets hx hb hkst.2.2.2.1 hS hown (hts _ am_w1) (fun _ h => h) hd (hk o1 (am_o1 (show am_cok 30 0 from Or.inl ⟨rfl, by decide⟩) o2) o3 H locs ls hP hD hS hl)
  · rw [e1] at hown
    exact va_gets hx hb hkst.2.2.2.2.1 hS hown (hts _ am_w2) (fun _ h => h) hd (hk o1 (am_o1 (show am_cok 30 1 from Or.inl ⟨rfl, by decide⟩) o2) o3 H locs ls hP hD hS hl)
  · rw [e1] at hown
    exact va_gets hx hb hkst.2.2.1 hS hown (hts _ am_w3) (fun _ h => h) hd (hk o1 (am_o1 (show am_inI 1 by unfold am_inI; omega) o2) o3 H locs ls hP hD hS hl)
theorem am_cst_in (o i : Nat) : am_inI (am_cst o i) := by
  have h1 : ∀ l ∈ am_cstL, ∀ x ∈ l, (-2147483648 : Int) ≤ x ∧ x ≤ 2147483647 := by decide +kernel
  unfold am_cst am_inI
  rcases am_getD (am_cstL.getD o []) i 0 with y | y
  · rcases am_getD am_cstL o [] with z | z
    · exact h1 _ z _ y
    · rw [z] at y; cases y
  · rw [y]; omega
theorem am_schr_in (o i : Nat) : am_inI (am_schr o i) := by
  have h1 : ∀ l ∈ am_sby, ∀ x ∈ l, (-2147483648 : Int) ≤ x ∧ x ≤ 2147483647 := by decide +kernel
  unfold am_schr am_inI
  rcases am_getD (am_sby.getD o []) i 0 with y | y
  · rcases am_getD am_sby o [] with z | z
    · exact h1 _ z _ y
    · rw [z] at y; cases y
  · rw [y]; omega
theorem am_c_kaload (hG : am_G X C j cells slots sc) {o : Nat} {i : Int} (hd : decode (am_mc j) pc = .ok (.iaload, 1)) (hi : 0 ≤ i ∧ i < am_clen o) (hk : am_W X C j Q cells slots (pc + 1) lv (.inl (am_cst o i.toNat) :: st) μ) : am_W X C j Q cells slots pc lv (.inl i :: .inr (.inr (30, o)) :: st) μ := by
  obtain ⟨p, l, e, R, s, m, args, below, meth, c⟩ := X
  obtain ⟨hx, hb, hml, hown, hts, hK, hkst, hA, hRf, hRl, hcc, hss, hscr⟩ := hG
  intro o1 o2 o3 H locs ls hP hD hS hl
  have ho : o < 2 := by
    have z : am_cok 30 o := am_oh (am_ot o2)
    rcases z with z | z | z | z
    · exact z.2
    · omega
    · omega
    · omega
  obtain ⟨n1, n2⟩ := am_vpin (am_oh o2) hi
  exact va_ti hx hb (hkst.2.2.2.2.2.1 o ho) hS n1 (by rw [n2]; rfl) hd (hk o1 (am_o1 (am_cst_in o _) (am_ot (am_ot o2))) o3 H locs ls hP hD hS hl)
theorem am_sl_eq (o : Nat) : (am_sby.map List.length).getD o 0 = am_slen o := by
  unfold am_slen
  rw [List.getD_eq_getElem?_getD, List.getElem?_map, List.getD_eq_getElem?_getD]
  cases am_sby[o]? <;> rfl
theorem am_sc_eq (o i : Nat) : ((am_sby.map (List.map Int32.ofInt)).getD o []).getD i 0 = Int32.ofInt (am_schr o i) := by
  unfold am_schr
  simp only [List.getD_eq_getElem?_getD, List.getElem?_map]
  cases am_sby[o]? with
  | none => rfl
  | some l =>
    simp only [Option.map_some, Option.getD_some, List.getElem?_map]
    cases l[i]? <;> rfl
theorem am_ok32 {t o : Nat} (h : am_ok (.inr (.inr (t, o)))) (ht : t = 31 ∨ t = 32) : o < 24 := by
  rcases ht with rfl | rfl
  · have z : am_cok 31 o := h
    rcases z with z | z | z | z <;> omega
  · have z : am_cok 32 o := h
    rcases z with z | z | z | z <;> omega
theorem am_c_saload (hG : am_G X C j cells slots sc) {o : Nat} {i : Int} (hd : decode (am_mc j) pc = .ok (.baload, 1)) (hi : 0 ≤ i ∧ i < am_slen o) (hk : am_W X C j Q cells slots (pc + 1) lv (.inl (am_schr o i.toNat) :: st) μ) : am_W X C j Q cells slots pc lv (.inl i :: .inr (.inr (32, o)) :: st) μ := by
  obtain ⟨p, l, e, R, s, m, args, below, meth, c⟩ := X
  obtain ⟨hx, hb, hml, hown, hts, hK, hkst, hA, hRf, hRl, hcc, hss, hscr⟩ := hG
  intro o1 o2 o3 H locs ls hP hD hS hl
  have ho := am_ok32 (am_oh (am_ot o2)) (Or.inr rfl)
  obtain ⟨n1, n2⟩ := am_vpin (am_oh o2) hi
  have hT := (hkst.2.1.1 o ho).2.2.2
  rw [am_sl_eq] at hT
  exact va_tb hx hb hT hS n1 (by rw [n2, am_sc_eq]; rfl) hd (hk o1 (am_o1 (am_schr_in o _) (am_ot (am_ot o2))) o3 H locs ls hP hD hS hl)
theorem am_c_strval (hG : am_G X C j cells slots sc) {o : Nat} (hd : decode (am_mc j) pc = .ok (.getfield 9, 3)) (hm : am_mo j = 15) (hk : am_W X C j Q cells slots (pc + 3) lv (.inr (.inr (32, o)) :: st) μ) : am_W X C j Q cells slots pc lv (.inr (.inr (31, o)) :: st) μ := by
  obtain ⟨p, l, e, R, s, m, args, below, meth, c⟩ := X
  obtain ⟨hx, hb, hml, hown, hts, hK, hkst, hA, hRf, hRl, hcc, hss, hscr⟩ := hG
  intro o1 o2 o3 H locs ls hP hD hS hl
  have ho := am_ok32 (am_oh o2) (Or.inl rfl)
  rw [hm] at hown
  exact vk_getf hx hb (hkst.2.1.1 o ho).2.2.1 hS hown (hts _ am_w4) (fun _ h => h) hd (hk o1 (am_o1 (show am_cok 32 o from Or.inr (Or.inr (Or.inl ⟨rfl, ho⟩))) (am_ot o2)) o3 H locs ls hP hD hS hl)
theorem am_c_strcod (hG : am_G X C j cells slots sc) {o : Nat} (hd : decode (am_mc j) pc = .ok (.getfield 15, 3)) (hm : am_mo j = 15) (hk : am_W X C j Q cells slots (pc + 3) lv (.inl 0 :: st) μ) : am_W X C j Q cells slots pc lv (.inr (.inr (31, o)) :: st) μ := by
  obtain ⟨p, l, e, R, s, m, args, below, meth, c⟩ := X
  obtain ⟨hx, hb, hml, hown, hts, hK, hkst, hA, hRf, hRl, hcc, hss, hscr⟩ := hG
  intro o1 o2 o3 H locs ls hP hD hS hl
  have ho := am_ok32 (am_oh o2) (Or.inl rfl)
  rw [hm] at hown
  exact vk_getf hx hb (hkst.2.1.1 o ho).2.1 hS hown (hts _ am_w5) (fun _ h => h) hd (hk o1 (am_o1 (show am_inI 0 from am_0in) (am_ot o2)) o3 H locs ls hP hD hS hl)
theorem am_ofNat (n : Nat) : Int32.ofNat n = Int32.ofInt (n : Int) := rfl
theorem am_nI_in {n : Nat} (h : n < 2 ^ 31) : am_inI (n : Int) := by unfold am_inI; omega
theorem am_c_len (hG : am_G X C j cells slots sc) {t o : Nat} (hd : decode (am_mc j) pc = .ok (.arraylength, 1)) (ht : 16 ≤ t ∧ t ≤ 22) (hk : am_W X C j Q cells slots (pc + 1) lv (.inl (am_len o) :: st) μ) : am_W X C j Q cells slots pc lv (.inr (.inr (t, o)) :: st) μ := by
  obtain ⟨p, l, e, R, s, m, args, below, meth, c⟩ := X
  obtain ⟨hx, hb, hml, hown, hts, hK, hkst, hA, hRf, hRl, hcc, hss, hscr⟩ := hG
  intro o1 o2 o3 H locs ls hP hD hS hl
  obtain ⟨w1, w2⟩ := am_ok_w (am_oh o2) (by omega)
  have ea : am_v C (.inr (.inr (t, o))) = .ref (C.2.2.1 o) := by
    show Value.ref (am_ra C t o) = _
    rw [am_ra_w C o (by omega)]
  show W p l e R s m args below meth c H locs cells slots Q (F0 m pc ls (am_v C (.inr (.inr (t, o))) :: st.map (am_v C)))
  rw [ea]
  have hz := hk o1 (am_o1 (show am_inI _ from am_nI_in (am_len_lt o)) (am_ot o2)) o3 H locs ls hP hD hS hl
  have hty : ∃ ty, (am_tys C)[t - 16]? = some (C.2.1 t, ty) := by
    have : t = 16 ∨ t = 17 ∨ t = 18 ∨ t = 19 ∨ t = 20 ∨ t = 21 ∨ t = 22 := by omega
    rcases this with rfl | rfl | rfl | rfl | rfl | rfl | rfl <;> exact ⟨_, rfl⟩
  obtain ⟨ty, hty⟩ := hty
  refine va_alen hx hb hK hP o (t - 16) (cA := C.2.1 t) (x := (am_len o, am_arr C μ o (am_ft t 0))) ?_ hty (am_ofNat _) hd hz
  rw [am_ws_at C μ w1, am_cell_a C μ w2 (by omega)]
theorem am_c_klen (hG : am_G X C j cells slots sc) {o : Nat} (hd : decode (am_mc j) pc = .ok (.arraylength, 1)) (hk : am_W X C j Q cells slots (pc + 1) lv (.inl (am_clen o) :: st) μ) : am_W X C j Q cells slots pc lv (.inr (.inr (30, o)) :: st) μ := by
  obtain ⟨p, l, e, R, s, m, args, below, meth, c⟩ := X
  obtain ⟨hx, hb, hml, hown, hts, hK, hkst, hA, hRf, hRl, hcc, hss, hscr⟩ := hG
  intro o1 o2 o3 H locs ls hP hD hS hl
  have ho : o < 2 := by
    have z : am_cok 30 o := am_oh o2
    rcases z with z | z | z | z
    · exact z.2
    · omega
    · omega
    · omega
  have hl2 : am_clen o < 2 ^ 31 := by
    have : o = 0 ∨ o = 1 := by omega
    rcases this with rfl | rfl <;> decide
  exact va_tlen hx hb (hkst.2.2.2.2.2.1 o ho) hS (am_ofNat _) hd (hk o1 (am_o1 (show am_inI _ from am_nI_in hl2) (am_ot o2)) o3 H locs ls hP hD hS hl)
theorem am_slen_lt (o : Nat) : am_slen o < 2 ^ 31 := by
  have h1 : ∀ l ∈ am_sby, l.length < 2 ^ 31 := by decide +kernel
  unfold am_slen
  rcases am_getD am_sby o [] with z | z
  · exact h1 _ z
  · rw [z]; decide
theorem am_c_slen (hG : am_G X C j cells slots sc) {o : Nat} (hd : decode (am_mc j) pc = .ok (.arraylength, 1)) (hk : am_W X C j Q cells slots (pc + 1) lv (.inl (am_slen o) :: st) μ) : am_W X C j Q cells slots pc lv (.inr (.inr (32, o)) :: st) μ := by
  obtain ⟨p, l, e, R, s, m, args, below, meth, c⟩ := X
  obtain ⟨hx, hb, hml, hown, hts, hK, hkst, hA, hRf, hRl, hcc, hss, hscr⟩ := hG
  intro o1 o2 o3 H locs ls hP hD hS hl
  have ho := am_ok32 (am_oh o2) (Or.inr rfl)
  have hT := (hkst.2.1.1 o ho).2.2.2
  rw [am_sl_eq] at hT
  exact va_tlen hx hb hT hS (am_ofNat _) hd (hk o1 (am_o1 (show am_inI _ from am_nI_in (am_slen_lt o)) (am_ot o2)) o3 H locs ls hP hD hS hl)
theorem am_c_scload (hG : am_G X C j cells slots sc) {o : Nat} {i : Int} (hj : j = am_jl) (h0 : o = 0) (hd : decode (am_mc j) pc = .ok (.iaload, 1)) (hi : 0 ≤ i ∧ i < sc.1) (hk : am_W X C j Q cells slots (pc + 1) lv (.inl (sc.2 i.toNat) :: st) μ) : am_W X C j Q cells slots pc lv (.inl i :: .inr (.inr (33, o)) :: st) μ := by
  obtain ⟨p, l, e, R, s, m, args, below, meth, c⟩ := X
  obtain ⟨hx, hb, hml, hown, hts, hK, hkst, hA, hRf, hRl, hcc, hss, hscr⟩ := hG
  intro o1 o2 o3 H locs ls hP hD hS hl
  obtain ⟨s1, s2, s3, s4, s5⟩ := hscr hj
  subst h0
  obtain ⟨n1, n2⟩ := am_vpin (am_oh o2) hi
  refine va_sld hx hb s1 s2 s3 hS n1 hd ?_
  rw [n2]
  exact hk o1 (am_o1 (s4 _) (am_ot (am_ot o2))) o3 H locs ls hP hD hS hl
theorem am_c_sclen (hG : am_G X C j cells slots sc) {o : Nat} (hj : j = am_jl) (h0 : o = 0) (hd : decode (am_mc j) pc = .ok (.arraylength, 1)) (hk : am_W X C j Q cells slots (pc + 1) lv (.inl sc.1 :: st) μ) : am_W X C j Q cells slots pc lv (.inr (.inr (33, o)) :: st) μ := by
  obtain ⟨p, l, e, R, s, m, args, below, meth, c⟩ := X
  obtain ⟨hx, hb, hml, hown, hts, hK, hkst, hA, hRf, hRl, hcc, hss, hscr⟩ := hG
  intro o1 o2 o3 H locs ls hP hD hS hl
  obtain ⟨s1, s2, s3, s4, s5⟩ := hscr hj
  subst h0
  exact va_slen hx hb s1 s2 s3 hS hd (hk o1 (am_o1 (show am_inI _ from am_nI_in s5) (am_ot o2)) o3 H locs ls hP hD hS hl)
theorem am_sw_s {β : Type} {x d : Int} {k : Int → Option β} {b : β} : ∀ (offs : List Int) (lo : Int), am_sw x k d lo offs = some b → ((x < lo ∨ lo + offs.length ≤ x) ∧ k d = some b) ∨ (∃ off, lo ≤ x ∧ x < lo + offs.length ∧ offs[(x - lo).toNat]? = some off ∧ k off = some b)
  | [], lo, h => Or.inl ⟨by simp; omega, h⟩
  | o :: r, lo, h => by
    unfold am_sw at h
    by_cases e : x = lo
    · rw [if_pos e] at h
      refine Or.inr ⟨o, by omega, by simp; omega, ?_, h⟩
      rw [e, Int.sub_self]
      rfl
    · rw [if_neg e] at h
      rcases am_sw_s r (lo + 1) h with ⟨h1, h2⟩ | ⟨off, h1, h2, h3, h4⟩
      · exact Or.inl ⟨by simp; omega, h2⟩
      · refine Or.inr ⟨off, by omega, by simp; omega, ?_, h4⟩
        rw [show (x - lo).toNat = (x - (lo + 1)).toNat + 1 from by omega, List.getElem?_cons_succ]
        exact h3
theorem am_c_tableswitch {β : Type} (hG : am_G X C j cells slots sc) {d lo hi x : Int} {offs : Array Int} {len : Nat} {k : Int → Option β} {b : β} (hd : decode (am_mc j) pc = .ok (.tableswitch d lo hi offs, len)) (hh : hi + 1 = lo + (offs.size : Int)) (hp : 0 ≤ (pc : Int) + d) (hp2 : ∀ o ∈ offs.toList, 0 ≤ (pc : Int) + o) (h : am_sw x k d lo offs.toList = some b) (hk : ∀ off, k off = some b → am_W X C j Q cells slots (am_to pc off) lv st μ) : am_W X C j Q cells slots pc lv (.inl x :: st) μ := by
  obtain ⟨p, l, e, R, s, m, args, below, meth, c⟩ := X
  obtain ⟨hx, hb, hml, hown, hts, hK, hkst, hA, hRf, hRl, hcc, hss, hscr⟩ := hG
  intro o1 o2 o3 H locs ls hP hD hS hl
  have ex := am_i_of (am_oh o2)
  rcases am_sw_s offs.toList lo h with ⟨h1, h2⟩ | ⟨off, h1, h2, h3, h4⟩
  · refine lv_tableOut hx hb hd ?_ (am_to_eq hp) (hk d h2 o1 (am_ot o2) o3 H locs ls hP hD hS hl)
    rw [ex]
    rw [Array.length_toList] at h1
    omega
  · rw [Array.length_toList] at h2
    refine lv_tableIn hx hb hd ?_ ?_ (off := off) ?_ (am_to_eq (hp2 off (List.mem_of_getElem? h3))) (hk off h4 o1 (am_ot o2) o3 H locs ls hP hD hS hl)
    · rw [ex]; omega
    · rw [ex]; omega
    · rw [ex, ← Array.getElem?_toList]
      exact h3
end C5
