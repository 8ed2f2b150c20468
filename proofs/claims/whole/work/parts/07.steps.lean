/-! Each kind of instruction: from the machine's rows to the abstract machine's. -/
/-- what is said of the tables and of the constants: String literals, static arrays, one static number -/
def am_kst (C : am_C) (U : State) (H : Heap) : Prop :=
  (∀ i : Nat, ∀ q, am_str[i]? = some q → vk_R q.1 q.2.1 q.2.2 (C.2.2.2.2 31 i) U) ∧ vk_S 24 (am_sby.map List.length) (am_sby.map (List.map Int32.ofInt)) (C.2.2.2.2 31) (C.2.2.2.2 32) C.2.2.2.1 U H ∧
  va_Z "java/lang/String" "COMPACT_STRINGS" "Z" (.int 1) C.2.2.2.1 U H ∧
  va_Z "ChartPress$Letters" "MONTHS" "[I" (.ref (C.2.2.2.2 30 0)) C.2.2.2.1 U H ∧ va_Z "ChartPress$Scale" "FACTORS" "[I" (.ref (C.2.2.2.2 30 1)) C.2.2.2.1 U H ∧
  (∀ o, o < 2 → va_T .int (C.2.2.2.2 30 o) (am_clen o) (fun j => .int (Int32.ofInt (am_cst o j))) C.2.2.2.1 U H) ∧
  ∃ v : Value, (v = .null ∨ ∃ a, v = .ref a) ∧ va_Z "jdk/internal/util/Preconditions" "SIOOBE_FORMATTER" "Ljava/util/function/BiFunction;" v C.2.2.2.1 U H
/-- the law's script -/
def am_scr (C : am_C) (s : State) (sc : Nat × (Nat → Int)) : Prop := va_X (C.2.2.2.2 33 0) sc.1 (fun i => Int32.ofInt (sc.2 i)) s s.heap ∧ C.2.2.2.2 33 0 < s.heap.size ∧ ¬ C.2.2.2.1 (C.2.2.2.2 33 0) ∧ (∀ i, am_inI (sc.2 i)) ∧ sc.1 < 2 ^ 31
def am_TS : List Cond := lw_tbl.filter goodWord
def am_inv (C : am_C) (μ : am_M) (H : Heap) : Prop := va_P C.1 am_cl (am_ws C μ) H ∧ va_D C.2.2.2.1 (am_ws C μ)
def am_G (X : am_K) (C : am_C) (j cells slots : Nat) (sc : Nat × (Nat → Int)) : Prop := match X with
  | (p, _, _, R, s, m, args, _, _, c) => p.tables.exec = Jvm.exec ∧ c.code = am_mc j ∧ c.maxLocals = am_ml j ∧ s.vm.findClass (am_cn (am_mo j)) = some m.cls ∧ (∀ w ∈ am_TS, w.before args s = true) ∧ va_K C.1 am_cl (am_tys C) s ∧ am_kst C s s.heap ∧ (∀ q, s.heap.size ≤ q → C.2.2.2.1 q) ∧ am_md j ≤ R.frames ∧ am_lr j ≤ R.locals ∧ cells ≤ R.cells ∧ slots ≤ R.slots ∧ (j = am_jl → am_scr C s sc)
def am_W (X : am_K) (C : am_C) (j : Nat) (Q : State → Prop) (cells slots pc : Nat) (lv : am_L) (st : List am_V) (μ : am_M) : Prop := match X with
  | (p, l, e, R, s, m, args, below, meth, c) => (∀ q ∈ lv, am_ok q.2) → (∀ v ∈ st, am_ok v) → am_okM μ → ∀ (H : Heap) (locs : List Loc) (ls : Array Slot), va_P C.1 am_cl (am_ws C μ) H → va_D C.2.2.2.1 (am_ws C μ) → va_S C.2.2.2.1 s.heap H locs → lv_has ls (am_ml j) (lv.map fun q => (q.1, am_v C q.2)) → W p l e R s m args below meth c H locs cells slots Q (F0 m pc ls (st.map (am_v C)))
def am_o1 {v : am_V} {st : List am_V} (h : am_ok v) (hs : ∀ w ∈ st, am_ok w) : ∀ w ∈ v :: st, am_ok w := by
  intro w hw
  rcases List.mem_cons.mp hw with rfl | h2
  · exact h
  · exact hs w h2
theorem am_oh {v : am_V} {st : List am_V} (hs : ∀ w ∈ v :: st, am_ok w) : am_ok v := hs v List.mem_cons_self
theorem am_ot {v : am_V} {st : List am_V} (hs : ∀ w ∈ v :: st, am_ok w) : ∀ w ∈ st, am_ok w := fun w hw => hs w (List.mem_cons_of_mem _ hw)
theorem am_lk_ok {lv : am_L} {i : Nat} {v : am_V} (h : am_lk lv i = some v) (ho : ∀ q ∈ lv, am_ok q.2) : am_ok v := ho (i, v) (am_lk_mem h)
theorem am_lk_at {C : am_C} {ls : Array Slot} {n : Nat} {lv : am_L} {i : Nat} {v : am_V} (h : am_lk lv i = some v) (hl : lv_has ls n (lv.map fun q => (q.1, am_v C q.2))) : ls[i]? = some (.val (am_v C v)) :=
  hl.2.2 (i, am_v C v) (List.mem_map.mpr ⟨(i, v), am_lk_mem h, rfl⟩)
theorem am_s1_ok {lv : am_L} {i : Nat} {v : am_V} (hv : am_ok v) (ho : ∀ q ∈ lv, am_ok q.2) : ∀ q ∈ am_s1 lv i v, am_ok q.2 := by
  intro q hq
  rcases List.mem_cons.mp hq with rfl | h2
  · exact hv
  · exact ho q (List.mem_filter.mp h2).1
theorem am_s2_ok {lv : am_L} {i : Nat} {v : am_V} (hv : am_ok v) (ho : ∀ q ∈ lv, am_ok q.2) : ∀ q ∈ am_s2 lv i v, am_ok q.2 := by
  intro q hq
  rcases List.mem_cons.mp hq with rfl | h2
  · exact hv
  · exact ho q (List.mem_filter.mp h2).1
theorem am_s1_map (C : am_C) (lv : am_L) (i : Nat) (v : am_V) : (i, am_v C v) :: (lv.map fun q => (q.1, am_v C q.2)).filter (fun q => !(q.1 == i) && !(q.1 + 1 == i && q.2.category == 2)) = (am_s1 lv i v).map fun q => (q.1, am_v C q.2) := by
  unfold am_s1
  rw [List.map_cons, List.filter_map]
  congr 3
  funext q
  simp only [Function.comp, am_v_cat]
theorem am_s2_map (C : am_C) (lv : am_L) (i : Nat) (v : am_V) : (i, am_v C v) :: (lv.map fun q => (q.1, am_v C q.2)).filter (fun q => !(q.1 == i) && (!(q.1 == i + 1) && !(q.1 + 1 == i && q.2.category == 2))) = (am_s2 lv i v).map fun q => (q.1, am_v C q.2) := by
  unfold am_s2
  rw [List.map_cons, List.filter_map]
  congr 3
  funext q
  simp only [Function.comp, am_v_cat]
theorem am_8 {n : Int} (h : -128 ≤ n ∧ n ≤ 127) : (Int8.ofInt n).toInt32 = Int32.ofInt n := by
  apply Int32.toInt_inj.mp
  rw [Int8.toInt_toInt32, am_i_of (by unfold am_inI; omega), Int8.toInt_ofInt]
  show Int.bmod n 256 = n
  unfold Int.bmod
  dsimp only
  split <;> omega
theorem am_16 {n : Int} (h : -32768 ≤ n ∧ n ≤ 32767) : (Int16.ofInt n).toInt32 = Int32.ofInt n := by
  apply Int32.toInt_inj.mp
  rw [Int16.toInt_toInt32, am_i_of (by unfold am_inI; omega), Int16.toInt_ofInt]
  show Int.bmod n 65536 = n
  unfold Int.bmod
  dsimp only
  split <;> omega
theorem am_lt32 {x y : Int} (hx : am_inI x) (hy : am_inI y) : Int32.ofInt x < Int32.ofInt y ↔ x < y := by rw [Int32.lt_iff_toInt_lt, am_i_of hx, am_i_of hy]
theorem am_le32 {x y : Int} (hx : am_inI x) (hy : am_inI y) : Int32.ofInt x ≤ Int32.ofInt y ↔ x ≤ y := by rw [Int32.le_iff_toInt_le, am_i_of hx, am_i_of hy]
theorem am_eq32 {x y : Int} (hx : am_inI x) (hy : am_inI y) : Int32.ofInt x = Int32.ofInt y ↔ x = y := ⟨fun q => by have z := congrArg Int32.toInt q; rwa [am_i_of hx, am_i_of hy] at z, fun q => by rw [q]⟩
theorem am_lt64 {x y : Int} (hx : am_inJ x) (hy : am_inJ y) : Int64.ofInt x < Int64.ofInt y ↔ x < y := by rw [Int64.lt_iff_toInt_lt, am_j_of hx, am_j_of hy]
theorem am_eq64 {x y : Int} (hx : am_inJ x) (hy : am_inJ y) : Int64.ofInt x = Int64.ofInt y ↔ x = y := ⟨fun q => by have z := congrArg Int64.toInt q; rwa [am_j_of hx, am_j_of hy] at z, fun q => by rw [q]⟩
theorem am_0in : am_inI 0 := by unfold am_inI; omega
theorem am_inIJ {x : Int} (h : am_inI x) : am_inJ x := by unfold am_inI at h; unfold am_inJ; omega
theorem am_to_eq {pc : Nat} {off : Int} (h : 0 ≤ (pc : Int) + off) : (pc : Int) + off = (am_to pc off : Nat) := by unfold am_to; omega
theorem am_vpin {i : Int} {n : Nat} (hi : am_inI i) (h : 0 ≤ i ∧ i < n) : vp_in (Int32.ofInt i) n ∧ (Int32.ofInt i).toNatClampNeg = i.toNat := by
  have e := am_i_of hi
  refine ⟨vp_in_iff.mpr (by rw [e]; exact h), ?_⟩
  have z : (Int32.ofInt i).toNatClampNeg = (Int32.ofInt i).toInt.toNat := rfl
  rw [z, e]
section C
variable {X : am_K} {C : am_C} {j cells slots : Nat} {sc : Nat × (Nat → Int)} {Q : State → Prop} {pc : Nat} {lv : am_L} {st : List am_V} {μ : am_M}
theorem am_c_iconst (hG : am_G X C j cells slots sc) {n : Int} (hd : decode (am_mc j) pc = .ok (.iconst n, 1)) (hn : -128 ≤ n ∧ n ≤ 127) (hk : am_W X C j Q cells slots (pc + 1) lv (.inl n :: st) μ) : am_W X C j Q cells slots pc lv st μ := by
  obtain ⟨p, l, e, R, s, m, args, below, meth, c⟩ := X
  obtain ⟨hx, hb, hml, hown, hts, hK, hkst, hA, hRf, hRl, hcc, hss, hscr⟩ := hG
  intro o1 o2 o3 H locs ls hP hD hS hl
  exact lv_iconst hx hb hd rfl (hk o1 (am_o1 (show am_inI n by unfold am_inI; omega) o2) o3 H locs ls hP hD hS hl)
theorem am_c_bipush (hG : am_G X C j cells slots sc) {n : Int} (hd : decode (am_mc j) pc = .ok (.bipush n, 2)) (hn : -128 ≤ n ∧ n ≤ 127) (hk : am_W X C j Q cells slots (pc + 2) lv (.inl n :: st) μ) : am_W X C j Q cells slots pc lv st μ := by
  obtain ⟨p, l, e, R, s, m, args, below, meth, c⟩ := X
  obtain ⟨hx, hb, hml, hown, hts, hK, hkst, hA, hRf, hRl, hcc, hss, hscr⟩ := hG
  intro o1 o2 o3 H locs ls hP hD hS hl
  exact lv_bipush hx hb hd (am_8 hn) (hk o1 (am_o1 (show am_inI n by unfold am_inI; omega) o2) o3 H locs ls hP hD hS hl)
theorem am_c_sipush (hG : am_G X C j cells slots sc) {n : Int} (hd : decode (am_mc j) pc = .ok (.sipush n, 3)) (hn : -32768 ≤ n ∧ n ≤ 32767) (hk : am_W X C j Q cells slots (pc + 3) lv (.inl n :: st) μ) : am_W X C j Q cells slots pc lv st μ := by
  obtain ⟨p, l, e, R, s, m, args, below, meth, c⟩ := X
  obtain ⟨hx, hb, hml, hown, hts, hK, hkst, hA, hRf, hRl, hcc, hss, hscr⟩ := hG
  intro o1 o2 o3 H locs ls hP hD hS hl
  exact lv_sipush hx hb hd (am_16 hn) (hk o1 (am_o1 (show am_inI n by unfold am_inI; omega) o2) o3 H locs ls hP hD hS hl)
theorem am_c_lconst (hG : am_G X C j cells slots sc) {n : Fin 2} (hd : decode (am_mc j) pc = .ok (.lconst n, 1)) (hk : am_W X C j Q cells slots (pc + 1) lv (.inr (.inl ((n : Nat) : Int)) :: st) μ) : am_W X C j Q cells slots pc lv st μ := by
  obtain ⟨p, l, e, R, s, m, args, below, meth, c⟩ := X
  obtain ⟨hx, hb, hml, hown, hts, hK, hkst, hA, hRf, hRl, hcc, hss, hscr⟩ := hG
  intro o1 o2 o3 H locs ls hP hD hS hl
  have hn : am_inJ ((n : Nat) : Int) := by have := n.isLt; unfold am_inJ; omega
  have e1 : Int64.ofNat (n : Nat) = Int64.ofInt ((n : Nat) : Int) := rfl
  exact lv_lconst hx hb hd e1 (hk o1 (am_o1 hn o2) o3 H locs ls hP hD hS hl)
theorem am_c_iload_n (hG : am_G X C j cells slots sc) {n : Fin 4} {x : Int} (hd : decode (am_mc j) pc = .ok (.iload_n n, 1)) (hn : am_lk lv n = some (.inl x)) (hk : am_W X C j Q cells slots (pc + 1) lv (.inl x :: st) μ) : am_W X C j Q cells slots pc lv st μ := by
  obtain ⟨p, l, e, R, s, m, args, below, meth, c⟩ := X
  obtain ⟨hx, hb, hml, hown, hts, hK, hkst, hA, hRf, hRl, hcc, hss, hscr⟩ := hG
  intro o1 o2 o3 H locs ls hP hD hS hl
  exact lv_iload_n hx hb hd rfl (am_lk_at (C := C) hn hl) (hk o1 (am_o1 (am_lk_ok hn o1) o2) o3 H locs ls hP hD hS hl)
theorem am_c_iload (hG : am_G X C j cells slots sc) {n : Nat} {x : Int} (hd : decode (am_mc j) pc = .ok (.iload n, 2)) (hn : am_lk lv n = some (.inl x)) (hk : am_W X C j Q cells slots (pc + 2) lv (.inl x :: st) μ) : am_W X C j Q cells slots pc lv st μ := by
  obtain ⟨p, l, e, R, s, m, args, below, meth, c⟩ := X
  obtain ⟨hx, hb, hml, hown, hts, hK, hkst, hA, hRf, hRl, hcc, hss, hscr⟩ := hG
  intro o1 o2 o3 H locs ls hP hD hS hl
  exact lv_iload hx hb hd (am_lk_at (C := C) hn hl) (hk o1 (am_o1 (am_lk_ok hn o1) o2) o3 H locs ls hP hD hS hl)
theorem am_c_istore_n (hG : am_G X C j cells slots sc) {n : Fin 4} {x : Int} (hd : decode (am_mc j) pc = .ok (.istore_n n, 1)) (hn : (n : Nat) < am_ml j) (hk : am_W X C j Q cells slots (pc + 1) (am_s1 lv n (.inl x)) st μ) : am_W X C j Q cells slots pc lv (.inl x :: st) μ := by
  obtain ⟨p, l, e, R, s, m, args, below, meth, c⟩ := X
  obtain ⟨hx, hb, hml, hown, hts, hK, hkst, hA, hRf, hRl, hcc, hss, hscr⟩ := hG
  intro o1 o2 o3 H locs ls hP hD hS hl
  exact lv_istore_n hx hb hd rfl hl hn (am_s1_map C lv n (.inl x)) (fun ls2 hl2 => hk (am_s1_ok (am_oh o2) o1) (am_ot o2) o3 H locs ls2 hP hD hS hl2)
theorem am_c_istore (hG : am_G X C j cells slots sc) {n : Nat} {x : Int} (hd : decode (am_mc j) pc = .ok (.istore n, 2)) (hn : (n : Nat) < am_ml j) (hk : am_W X C j Q cells slots (pc + 2) (am_s1 lv n (.inl x)) st μ) : am_W X C j Q cells slots pc lv (.inl x :: st) μ := by
  obtain ⟨p, l, e, R, s, m, args, below, meth, c⟩ := X
  obtain ⟨hx, hb, hml, hown, hts, hK, hkst, hA, hRf, hRl, hcc, hss, hscr⟩ := hG
  intro o1 o2 o3 H locs ls hP hD hS hl
  exact lv_istore hx hb hd hl hn (am_s1_map C lv n (.inl x)) (fun ls2 hl2 => hk (am_s1_ok (am_oh o2) o1) (am_ot o2) o3 H locs ls2 hP hD hS hl2)
theorem am_c_lload_n (hG : am_G X C j cells slots sc) {n : Fin 4} {x : Int} (hd : decode (am_mc j) pc = .ok (.lload_n n, 1)) (hn : am_lk lv n = some (.inr (.inl x))) (hk : am_W X C j Q cells slots (pc + 1) lv (.inr (.inl x) :: st) μ) : am_W X C j Q cells slots pc lv st μ := by
  obtain ⟨p, l, e, R, s, m, args, below, meth, c⟩ := X
  obtain ⟨hx, hb, hml, hown, hts, hK, hkst, hA, hRf, hRl, hcc, hss, hscr⟩ := hG
  intro o1 o2 o3 H locs ls hP hD hS hl
  exact lv_lload_n hx hb hd rfl (am_lk_at (C := C) hn hl) (hk o1 (am_o1 (am_lk_ok hn o1) o2) o3 H locs ls hP hD hS hl)
theorem am_c_lload (hG : am_G X C j cells slots sc) {n : Nat} {x : Int} (hd : decode (am_mc j) pc = .ok (.lload n, 2)) (hn : am_lk lv n = some (.inr (.inl x))) (hk : am_W X C j Q cells slots (pc + 2) lv (.inr (.inl x) :: st) μ) : am_W X C j Q cells slots pc lv st μ := by
  obtain ⟨p, l, e, R, s, m, args, below, meth, c⟩ := X
  obtain ⟨hx, hb, hml, hown, hts, hK, hkst, hA, hRf, hRl, hcc, hss, hscr⟩ := hG
  intro o1 o2 o3 H locs ls hP hD hS hl
  exact lv_lload hx hb hd (am_lk_at (C := C) hn hl) (hk o1 (am_o1 (am_lk_ok hn o1) o2) o3 H locs ls hP hD hS hl)
theorem am_c_lstore_n (hG : am_G X C j cells slots sc) {n : Fin 4} {x : Int} (hd : decode (am_mc j) pc = .ok (.lstore_n n, 1)) (hn : (n : Nat) + 1 < am_ml j) (hk : am_W X C j Q cells slots (pc + 1) (am_s2 lv n (.inr (.inl x))) st μ) : am_W X C j Q cells slots pc lv (.inr (.inl x) :: st) μ := by
  obtain ⟨p, l, e, R, s, m, args, below, meth, c⟩ := X
  obtain ⟨hx, hb, hml, hown, hts, hK, hkst, hA, hRf, hRl, hcc, hss, hscr⟩ := hG
  intro o1 o2 o3 H locs ls hP hD hS hl
  exact lv_lstore_n hx hb hd rfl hl hn (am_s2_map C lv n (.inr (.inl x))) (fun ls2 hl2 => hk (am_s2_ok (am_oh o2) o1) (am_ot o2) o3 H locs ls2 hP hD hS hl2)
theorem am_c_lstore (hG : am_G X C j cells slots sc) {n : Nat} {x : Int} (hd : decode (am_mc j) pc = .ok (.lstore n, 2)) (hn : (n : Nat) + 1 < am_ml j) (hk : am_W X C j Q cells slots (pc + 2) (am_s2 lv n (.inr (.inl x))) st μ) : am_W X C j Q cells slots pc lv (.inr (.inl x) :: st) μ := by
  obtain ⟨p, l, e, R, s, m, args, below, meth, c⟩ := X
  obtain ⟨hx, hb, hml, hown, hts, hK, hkst, hA, hRf, hRl, hcc, hss, hscr⟩ := hG
  intro o1 o2 o3 H locs ls hP hD hS hl
  exact lv_lstore hx hb hd hl hn (am_s2_map C lv n (.inr (.inl x))) (fun ls2 hl2 => hk (am_s2_ok (am_oh o2) o1) (am_ot o2) o3 H locs ls2 hP hD hS hl2)
theorem am_c_aload_n (hG : am_G X C j cells slots sc) {n : Fin 4} {t o : Nat} (hd : decode (am_mc j) pc = .ok (.aload_n n, 1)) (hn : am_lk lv n = some (.inr (.inr (t, o)))) (hk : am_W X C j Q cells slots (pc + 1) lv (.inr (.inr (t, o)) :: st) μ) : am_W X C j Q cells slots pc lv st μ := by
  obtain ⟨p, l, e, R, s, m, args, below, meth, c⟩ := X
  obtain ⟨hx, hb, hml, hown, hts, hK, hkst, hA, hRf, hRl, hcc, hss, hscr⟩ := hG
  intro o1 o2 o3 H locs ls hP hD hS hl
  exact lv_aload_n hx hb hd rfl (am_lk_at (C := C) hn hl) (hk o1 (am_o1 (am_lk_ok hn o1) o2) o3 H locs ls hP hD hS hl)
theorem am_c_aload (hG : am_G X C j cells slots sc) {n : Nat} {t o : Nat} (hd : decode (am_mc j) pc = .ok (.aload n, 2)) (hn : am_lk lv n = some (.inr (.inr (t, o)))) (hk : am_W X C j Q cells slots (pc + 2) lv (.inr (.inr (t, o)) :: st) μ) : am_W X C j Q cells slots pc lv st μ := by
  obtain ⟨p, l, e, R, s, m, args, below, meth, c⟩ := X
  obtain ⟨hx, hb, hml, hown, hts, hK, hkst, hA, hRf, hRl, hcc, hss, hscr⟩ := hG
  intro o1 o2 o3 H locs ls hP hD hS hl
  exact lv_aload hx hb hd (am_lk_at (C := C) hn hl) (hk o1 (am_o1 (am_lk_ok hn o1) o2) o3 H locs ls hP hD hS hl)
theorem am_c_astore_n (hG : am_G X C j cells slots sc) {n : Fin 4} {t o : Nat} (hd : decode (am_mc j) pc = .ok (.astore_n n, 1)) (hn : (n : Nat) < am_ml j) (hk : am_W X C j Q cells slots (pc + 1) (am_s1 lv n (.inr (.inr (t, o)))) st μ) : am_W X C j Q cells slots pc lv (.inr (.inr (t, o)) :: st) μ := by
  obtain ⟨p, l, e, R, s, m, args, below, meth, c⟩ := X
  obtain ⟨hx, hb, hml, hown, hts, hK, hkst, hA, hRf, hRl, hcc, hss, hscr⟩ := hG
  intro o1 o2 o3 H locs ls hP hD hS hl
  exact lv_astore_n hx hb hd rfl hl hn (am_s1_map C lv n (.inr (.inr (t, o)))) (fun ls2 hl2 => hk (am_s1_ok (am_oh o2) o1) (am_ot o2) o3 H locs ls2 hP hD hS hl2)
theorem am_c_astore (hG : am_G X C j cells slots sc) {n : Nat} {t o : Nat} (hd : decode (am_mc j) pc = .ok (.astore n, 2)) (hn : (n : Nat) < am_ml j) (hk : am_W X C j Q cells slots (pc + 2) (am_s1 lv n (.inr (.inr (t, o)))) st μ) : am_W X C j Q cells slots pc lv (.inr (.inr (t, o)) :: st) μ := by
  obtain ⟨p, l, e, R, s, m, args, below, meth, c⟩ := X
  obtain ⟨hx, hb, hml, hown, hts, hK, hkst, hA, hRf, hRl, hcc, hss, hscr⟩ := hG
  intro o1 o2 o3 H locs ls hP hD hS hl
  exact lv_astore hx hb hd hl hn (am_s1_map C lv n (.inr (.inr (t, o)))) (fun ls2 hl2 => hk (am_s1_ok (am_oh o2) o1) (am_ot o2) o3 H locs ls2 hP hD hS hl2)
theorem am_c_iinc (hG : am_G X C j cells slots sc) {n : Nat} {d x : Int} (hd : decode (am_mc j) pc = .ok (.iinc n d, 3)) (hx0 : am_lk lv n = some (.inl x)) (hn : n < am_ml j) (hk : am_W X C j Q cells slots (pc + 3) (am_s1 lv n (.inl (w32 (x + d)))) st μ) : am_W X C j Q cells slots pc lv st μ := by
  obtain ⟨p, l, e, R, s, m, args, below, meth, c⟩ := X
  obtain ⟨hx, hb, hml, hown, hts, hK, hkst, hA, hRf, hRl, hcc, hss, hscr⟩ := hG
  intro o1 o2 o3 H locs ls hP hD hS hl
  obtain ⟨kk, hkk⟩ := List.getElem?_of_mem (List.mem_map.mpr ⟨(n, .inl x), am_lk_mem hx0, rfl⟩ : (n, am_v C (.inl x)) ∈ lv.map fun q => (q.1, am_v C q.2))
  have e1 : Int32.ofInt x + Int32.ofInt d = Int32.ofInt (w32 (x + d)) := by rw [am_w_of, Int32.ofInt_add]
  exact lv_iinc hx hb hd hl hkk e1 hn (am_s1_map C lv n (.inl (w32 (x + d)))) (fun ls2 hl2 => hk (am_s1_ok (show am_inI _ from am_w_in _) o1) o2 o3 H locs ls2 hP hD hS hl2)
theorem am_c_iadd (hG : am_G X C j cells slots sc) {a b : Int} (hd : decode (am_mc j) pc = .ok (.iadd, 1)) (hk : am_W X C j Q cells slots (pc + 1) lv (.inl (w32 (a + b)) :: st) μ) : am_W X C j Q cells slots pc lv (.inl b :: .inl a :: st) μ := by
  obtain ⟨p, l, e, R, s, m, args, below, meth, c⟩ := X
  obtain ⟨hx, hb, hml, hown, hts, hK, hkst, hA, hRf, hRl, hcc, hss, hscr⟩ := hG
  intro o1 o2 o3 H locs ls hP hD hS hl
  have e1 : Int32.ofInt a + Int32.ofInt b = Int32.ofInt (w32 (a + b)) := by rw [am_w_of, Int32.ofInt_add]
  refine lv_iadd hx hb hd ?_
  rw [e1]
  exact hk o1 (am_o1 (show am_inI _ from am_w_in _) (am_ot (am_ot o2))) o3 H locs ls hP hD hS hl
theorem am_c_isub (hG : am_G X C j cells slots sc) {a b : Int} (hd : decode (am_mc j) pc = .ok (.isub, 1)) (hk : am_W X C j Q cells slots (pc + 1) lv (.inl (w32 (a - b)) :: st) μ) : am_W X C j Q cells slots pc lv (.inl b :: .inl a :: st) μ := by
  obtain ⟨p, l, e, R, s, m, args, below, meth, c⟩ := X
  obtain ⟨hx, hb, hml, hown, hts, hK, hkst, hA, hRf, hRl, hcc, hss, hscr⟩ := hG
  intro o1 o2 o3 H locs ls hP hD hS hl
  have e1 : Int32.ofInt a - Int32.ofInt b = Int32.ofInt (w32 (a - b)) := by rw [am_w_of, Int32.ofInt_sub]
  refine lv_isub hx hb hd ?_
  rw [e1]
  exact hk o1 (am_o1 (show am_inI _ from am_w_in _) (am_ot (am_ot o2))) o3 H locs ls hP hD hS hl
theorem am_c_imul (hG : am_G X C j cells slots sc) {a b : Int} (hd : decode (am_mc j) pc = .ok (.imul, 1)) (hk : am_W X C j Q cells slots (pc + 1) lv (.inl (w32 (a * b)) :: st) μ) : am_W X C j Q cells slots pc lv (.inl b :: .inl a :: st) μ := by
  obtain ⟨p, l, e, R, s, m, args, below, meth, c⟩ := X
  obtain ⟨hx, hb, hml, hown, hts, hK, hkst, hA, hRf, hRl, hcc, hss, hscr⟩ := hG
  intro o1 o2 o3 H locs ls hP hD hS hl
  have e1 : Int32.ofInt a * Int32.ofInt b = Int32.ofInt (w32 (a * b)) := by rw [am_w_of, Int32.ofInt_mul]
  refine lv_imul hx hb hd ?_
  rw [e1]
  exact hk o1 (am_o1 (show am_inI _ from am_w_in _) (am_ot (am_ot o2))) o3 H locs ls hP hD hS hl
theorem am_c_ladd (hG : am_G X C j cells slots sc) {a b : Int} (hd : decode (am_mc j) pc = .ok (.ladd, 1)) (hk : am_W X C j Q cells slots (pc + 1) lv (.inr (.inl (w64 (a + b))) :: st) μ) : am_W X C j Q cells slots pc lv (.inr (.inl b) :: .inr (.inl a) :: st) μ := by
  obtain ⟨p, l, e, R, s, m, args, below, meth, c⟩ := X
  obtain ⟨hx, hb, hml, hown, hts, hK, hkst, hA, hRf, hRl, hcc, hss, hscr⟩ := hG
  intro o1 o2 o3 H locs ls hP hD hS hl
  have e1 : Int64.ofInt a + Int64.ofInt b = Int64.ofInt (w64 (a + b)) := by rw [am_w_ofl, Int64.ofInt_add]
  refine lv_ladd hx hb hd ?_
  rw [e1]
  exact hk o1 (am_o1 (show am_inJ _ from am_w_inl _) (am_ot (am_ot o2))) o3 H locs ls hP hD hS hl
theorem am_c_lsub (hG : am_G X C j cells slots sc) {a b : Int} (hd : decode (am_mc j) pc = .ok (.lsub, 1)) (hk : am_W X C j Q cells slots (pc + 1) lv (.inr (.inl (w64 (a - b))) :: st) μ) : am_W X C j Q cells slots pc lv (.inr (.inl b) :: .inr (.inl a) :: st) μ := by
  obtain ⟨p, l, e, R, s, m, args, below, meth, c⟩ := X
  obtain ⟨hx, hb, hml, hown, hts, hK, hkst, hA, hRf, hRl, hcc, hss, hscr⟩ := hG
  intro o1 o2 o3 H locs ls hP hD hS hl
  have e1 : Int64.ofInt a - Int64.ofInt b = Int64.ofInt (w64 (a - b)) := by rw [am_w_ofl, Int64.ofInt_sub]
  refine lv_lsub hx hb hd ?_
  rw [e1]
  exact hk o1 (am_o1 (show am_inJ _ from am_w_inl _) (am_ot (am_ot o2))) o3 H locs ls hP hD hS hl
theorem am_c_lmul (hG : am_G X C j cells slots sc) {a b : Int} (hd : decode (am_mc j) pc = .ok (.lmul, 1)) (hk : am_W X C j Q cells slots (pc + 1) lv (.inr (.inl (w64 (a * b))) :: st) μ) : am_W X C j Q cells slots pc lv (.inr (.inl b) :: .inr (.inl a) :: st) μ := by
  obtain ⟨p, l, e, R, s, m, args, below, meth, c⟩ := X
  obtain ⟨hx, hb, hml, hown, hts, hK, hkst, hA, hRf, hRl, hcc, hss, hscr⟩ := hG
  intro o1 o2 o3 H locs ls hP hD hS hl
  have e1 : Int64.ofInt a * Int64.ofInt b = Int64.ofInt (w64 (a * b)) := by rw [am_w_ofl, Int64.ofInt_mul]
  refine lv_lmul hx hb hd ?_
  rw [e1]
  exact hk o1 (am_o1 (show am_inJ _ from am_w_inl _) (am_ot (am_ot o2))) o3 H locs ls hP hD hS hl
theorem am_c_iand (hG : am_G X C j cells slots sc) {a b : Int} (hd : decode (am_mc j) pc = .ok (.iand, 1)) (hk : am_W X C j Q cells slots (pc + 1) lv (.inl (o_and a b) :: st) μ) : am_W X C j Q cells slots pc lv (.inl b :: .inl a :: st) μ := by
  obtain ⟨p, l, e, R, s, m, args, below, meth, c⟩ := X
  obtain ⟨hx, hb, hml, hown, hts, hK, hkst, hA, hRf, hRl, hcc, hss, hscr⟩ := hG
  intro o1 o2 o3 H locs ls hP hD hS hl
  have e1 : Int32.ofInt a &&& Int32.ofInt b = Int32.ofInt (o_and a b) := (am_i_eq _).symm
  refine lv_iand hx hb hd ?_
  rw [e1]
  exact hk o1 (am_o1 (show am_inI _ from am_i_in _) (am_ot (am_ot o2))) o3 H locs ls hP hD hS hl
theorem am_c_ior (hG : am_G X C j cells slots sc) {a b : Int} (hd : decode (am_mc j) pc = .ok (.ior, 1)) (hk : am_W X C j Q cells slots (pc + 1) lv (.inl (o_or a b) :: st) μ) : am_W X C j Q cells slots pc lv (.inl b :: .inl a :: st) μ := by
  obtain ⟨p, l, e, R, s, m, args, below, meth, c⟩ := X
  obtain ⟨hx, hb, hml, hown, hts, hK, hkst, hA, hRf, hRl, hcc, hss, hscr⟩ := hG
  intro o1 o2 o3 H locs ls hP hD hS hl
  have e1 : Int32.ofInt a ||| Int32.ofInt b = Int32.ofInt (o_or a b) := (am_i_eq _).symm
  refine lv_ior hx hb hd ?_
  rw [e1]
  exact hk o1 (am_o1 (show am_inI _ from am_i_in _) (am_ot (am_ot o2))) o3 H locs ls hP hD hS hl
theorem am_c_ixor (hG : am_G X C j cells slots sc) {a b : Int} (hd : decode (am_mc j) pc = .ok (.ixor, 1)) (hk : am_W X C j Q cells slots (pc + 1) lv (.inl (o_xor a b) :: st) μ) : am_W X C j Q cells slots pc lv (.inl b :: .inl a :: st) μ := by
  obtain ⟨p, l, e, R, s, m, args, below, meth, c⟩ := X
  obtain ⟨hx, hb, hml, hown, hts, hK, hkst, hA, hRf, hRl, hcc, hss, hscr⟩ := hG
  intro o1 o2 o3 H locs ls hP hD hS hl
  have e1 : Int32.ofInt a ^^^ Int32.ofInt b = Int32.ofInt (o_xor a b) := (am_i_eq _).symm
  refine lv_ixor hx hb hd ?_
  rw [e1]
  exact hk o1 (am_o1 (show am_inI _ from am_i_in _) (am_ot (am_ot o2))) o3 H locs ls hP hD hS hl
theorem am_c_ishl (hG : am_G X C j cells slots sc) {a b : Int} (hd : decode (am_mc j) pc = .ok (.ishl, 1)) (hk : am_W X C j Q cells slots (pc + 1) lv (.inl (o_shl a b) :: st) μ) : am_W X C j Q cells slots pc lv (.inl b :: .inl a :: st) μ := by
  obtain ⟨p, l, e, R, s, m, args, below, meth, c⟩ := X
  obtain ⟨hx, hb, hml, hown, hts, hK, hkst, hA, hRf, hRl, hcc, hss, hscr⟩ := hG
  intro o1 o2 o3 H locs ls hP hD hS hl
  have e1 : Int32.ofInt a <<< (Int32.ofInt b &&& 31) = Int32.ofInt (o_shl a b) := (am_i_eq _).symm
  refine lv_ishl hx hb hd ?_
  rw [e1]
  exact hk o1 (am_o1 (show am_inI _ from am_i_in _) (am_ot (am_ot o2))) o3 H locs ls hP hD hS hl
theorem am_c_ishr (hG : am_G X C j cells slots sc) {a b : Int} (hd : decode (am_mc j) pc = .ok (.ishr, 1)) (hk : am_W X C j Q cells slots (pc + 1) lv (.inl (o_shr a b) :: st) μ) : am_W X C j Q cells slots pc lv (.inl b :: .inl a :: st) μ := by
  obtain ⟨p, l, e, R, s, m, args, below, meth, c⟩ := X
  obtain ⟨hx, hb, hml, hown, hts, hK, hkst, hA, hRf, hRl, hcc, hss, hscr⟩ := hG
  intro o1 o2 o3 H locs ls hP hD hS hl
  have e1 : Int32.ofInt a >>> (Int32.ofInt b &&& 31) = Int32.ofInt (o_shr a b) := (am_i_eq _).symm
  refine lv_ishr hx hb hd ?_
  rw [e1]
  exact hk o1 (am_o1 (show am_inI _ from am_i_in _) (am_ot (am_ot o2))) o3 H locs ls hP hD hS hl
theorem am_c_idiv (hG : am_G X C j cells slots sc) {a b : Int} (hd : decode (am_mc j) pc = .ok (.idiv, 1)) (hn : ¬ b = 0) (hk : am_W X C j Q cells slots (pc + 1) lv (.inl (o_div a b) :: st) μ) : am_W X C j Q cells slots pc lv (.inl b :: .inl a :: st) μ := by
  obtain ⟨p, l, e, R, s, m, args, below, meth, c⟩ := X
  obtain ⟨hx, hb, hml, hown, hts, hK, hkst, hA, hRf, hRl, hcc, hss, hscr⟩ := hG
  intro o1 o2 o3 H locs ls hP hD hS hl
  have hz : ¬ Int32.ofInt b = 0 := fun q => hn ((am_eq32 (am_oh o2) am_0in).mp q)
  have e1 : Int32.ofInt a / Int32.ofInt b = Int32.ofInt (o_div a b) := (am_i_eq _).symm
  refine lv_idiv hx hb hd hz ?_
  rw [e1]
  exact hk o1 (am_o1 (show am_inI _ from am_i_in _) (am_ot (am_ot o2))) o3 H locs ls hP hD hS hl
theorem am_c_irem (hG : am_G X C j cells slots sc) {a b : Int} (hd : decode (am_mc j) pc = .ok (.irem, 1)) (hn : ¬ b = 0) (hk : am_W X C j Q cells slots (pc + 1) lv (.inl (o_rem a b) :: st) μ) : am_W X C j Q cells slots pc lv (.inl b :: .inl a :: st) μ := by
  obtain ⟨p, l, e, R, s, m, args, below, meth, c⟩ := X
  obtain ⟨hx, hb, hml, hown, hts, hK, hkst, hA, hRf, hRl, hcc, hss, hscr⟩ := hG
  intro o1 o2 o3 H locs ls hP hD hS hl
  have hz : ¬ Int32.ofInt b = 0 := fun q => hn ((am_eq32 (am_oh o2) am_0in).mp q)
  have e1 : Int32.ofInt a - Int32.ofInt a / Int32.ofInt b * Int32.ofInt b = Int32.ofInt (o_rem a b) := (am_i_eq _).symm
  refine lv_irem hx hb hd hz ?_
  rw [e1]
  exact hk o1 (am_o1 (show am_inI _ from am_i_in _) (am_ot (am_ot o2))) o3 H locs ls hP hD hS hl
theorem am_c_ldiv (hG : am_G X C j cells slots sc) {a b : Int} (hd : decode (am_mc j) pc = .ok (.ldiv, 1)) (hn : ¬ b = 0) (hk : am_W X C j Q cells slots (pc + 1) lv (.inr (.inl (o_divl a b)) :: st) μ) : am_W X C j Q cells slots pc lv (.inr (.inl b) :: .inr (.inl a) :: st) μ := by
  obtain ⟨p, l, e, R, s, m, args, below, meth, c⟩ := X
  obtain ⟨hx, hb, hml, hown, hts, hK, hkst, hA, hRf, hRl, hcc, hss, hscr⟩ := hG
  intro o1 o2 o3 H locs ls hP hD hS hl
  have hz : ¬ Int64.ofInt b = 0 := fun q => hn ((am_eq64 (am_oh o2) (am_inIJ am_0in)).mp q)
  have e1 : Int64.ofInt a / Int64.ofInt b = Int64.ofInt (o_divl a b) := (am_j_eq _).symm
  refine lv_ldiv hx hb hd hz ?_
  rw [e1]
  exact hk o1 (am_o1 (show am_inJ _ from am_j_in _) (am_ot (am_ot o2))) o3 H locs ls hP hD hS hl
theorem am_c_lrem (hG : am_G X C j cells slots sc) {a b : Int} (hd : decode (am_mc j) pc = .ok (.lrem, 1)) (hn : ¬ b = 0) (hk : am_W X C j Q cells slots (pc + 1) lv (.inr (.inl (o_reml a b)) :: st) μ) : am_W X C j Q cells slots pc lv (.inr (.inl b) :: .inr (.inl a) :: st) μ := by
  obtain ⟨p, l, e, R, s, m, args, below, meth, c⟩ := X
  obtain ⟨hx, hb, hml, hown, hts, hK, hkst, hA, hRf, hRl, hcc, hss, hscr⟩ := hG
  intro o1 o2 o3 H locs ls hP hD hS hl
  have hz : ¬ Int64.ofInt b = 0 := fun q => hn ((am_eq64 (am_oh o2) (am_inIJ am_0in)).mp q)
  have e1 : Int64.ofInt a - Int64.ofInt a / Int64.ofInt b * Int64.ofInt b = Int64.ofInt (o_reml a b) := (am_j_eq _).symm
  refine lv_lrem hx hb hd hz ?_
  rw [e1]
  exact hk o1 (am_o1 (show am_inJ _ from am_j_in _) (am_ot (am_ot o2))) o3 H locs ls hP hD hS hl
theorem am_c_land (hG : am_G X C j cells slots sc) {a b : Int} (hd : decode (am_mc j) pc = .ok (.land, 1)) (hk : am_W X C j Q cells slots (pc + 1) lv (.inr (.inl (o_landl a b)) :: st) μ) : am_W X C j Q cells slots pc lv (.inr (.inl b) :: .inr (.inl a) :: st) μ := by
  obtain ⟨p, l, e, R, s, m, args, below, meth, c⟩ := X
  obtain ⟨hx, hb, hml, hown, hts, hK, hkst, hA, hRf, hRl, hcc, hss, hscr⟩ := hG
  intro o1 o2 o3 H locs ls hP hD hS hl
  have e1 : Int64.ofInt a &&& Int64.ofInt b = Int64.ofInt (o_landl a b) := (am_j_eq _).symm
  refine lv_land hx hb hd ?_
  rw [e1]
  exact hk o1 (am_o1 (show am_inJ _ from am_j_in _) (am_ot (am_ot o2))) o3 H locs ls hP hD hS hl
theorem am_c_lor (hG : am_G X C j cells slots sc) {a b : Int} (hd : decode (am_mc j) pc = .ok (.lor, 1)) (hk : am_W X C j Q cells slots (pc + 1) lv (.inr (.inl (o_lorl a b)) :: st) μ) : am_W X C j Q cells slots pc lv (.inr (.inl b) :: .inr (.inl a) :: st) μ := by
  obtain ⟨p, l, e, R, s, m, args, below, meth, c⟩ := X
  obtain ⟨hx, hb, hml, hown, hts, hK, hkst, hA, hRf, hRl, hcc, hss, hscr⟩ := hG
  intro o1 o2 o3 H locs ls hP hD hS hl
  have e1 : Int64.ofInt a ||| Int64.ofInt b = Int64.ofInt (o_lorl a b) := (am_j_eq _).symm
  refine lv_lor hx hb hd ?_
  rw [e1]
  exact hk o1 (am_o1 (show am_inJ _ from am_j_in _) (am_ot (am_ot o2))) o3 H locs ls hP hD hS hl
theorem am_c_lxor (hG : am_G X C j cells slots sc) {a b : Int} (hd : decode (am_mc j) pc = .ok (.lxor, 1)) (hk : am_W X C j Q cells slots (pc + 1) lv (.inr (.inl (o_2l (fun x y => x ^^^ y) a b)) :: st) μ) : am_W X C j Q cells slots pc lv (.inr (.inl b) :: .inr (.inl a) :: st) μ := by
  obtain ⟨p, l, e, R, s, m, args, below, meth, c⟩ := X
  obtain ⟨hx, hb, hml, hown, hts, hK, hkst, hA, hRf, hRl, hcc, hss, hscr⟩ := hG
  intro o1 o2 o3 H locs ls hP hD hS hl
  have e1 : Int64.ofInt a ^^^ Int64.ofInt b = Int64.ofInt (o_2l (fun x y => x ^^^ y) a b) := (am_j_eq _).symm
  refine lv_lxor hx hb hd ?_
  rw [e1]
  exact hk o1 (am_o1 (show am_inJ _ from am_j_in _) (am_ot (am_ot o2))) o3 H locs ls hP hD hS hl
theorem am_c_ineg (hG : am_G X C j cells slots sc) {a : Int} (hd : decode (am_mc j) pc = .ok (.ineg, 1)) (hk : am_W X C j Q cells slots (pc + 1) lv (.inl (w32 (-a)) :: st) μ) : am_W X C j Q cells slots pc lv (.inl a :: st) μ := by
  obtain ⟨p, l, e, R, s, m, args, below, meth, c⟩ := X
  obtain ⟨hx, hb, hml, hown, hts, hK, hkst, hA, hRf, hRl, hcc, hss, hscr⟩ := hG
  intro o1 o2 o3 H locs ls hP hD hS hl
  have e1 : -Int32.ofInt a = Int32.ofInt (w32 (-a)) := by rw [am_w_of, Int32.ofInt_neg]
  refine lv_ineg hx hb hd ?_
  rw [e1]
  exact hk o1 (am_o1 (show am_inI _ from am_w_in _) (am_ot o2)) o3 H locs ls hP hD hS hl
theorem am_c_lneg (hG : am_G X C j cells slots sc) {a : Int} (hd : decode (am_mc j) pc = .ok (.lneg, 1)) (hk : am_W X C j Q cells slots (pc + 1) lv (.inr (.inl (w64 (-a))) :: st) μ) : am_W X C j Q cells slots pc lv (.inr (.inl a) :: st) μ := by
  obtain ⟨p, l, e, R, s, m, args, below, meth, c⟩ := X
  obtain ⟨hx, hb, hml, hown, hts, hK, hkst, hA, hRf, hRl, hcc, hss, hscr⟩ := hG
  intro o1 o2 o3 H locs ls hP hD hS hl
  have e1 : -Int64.ofInt a = Int64.ofInt (w64 (-a)) := by rw [am_w_ofl, Int64.ofInt_neg]
  refine lv_lneg hx hb hd ?_
  rw [e1]
  exact hk o1 (am_o1 (show am_inJ _ from am_w_inl _) (am_ot o2)) o3 H locs ls hP hD hS hl
theorem am_c_lushr (hG : am_G X C j cells slots sc) {a b : Int} (hd : decode (am_mc j) pc = .ok (.lushr, 1)) (hk : am_W X C j Q cells slots (pc + 1) lv (.inr (.inl (o_ushrl a b)) :: st) μ) : am_W X C j Q cells slots pc lv (.inl b :: .inr (.inl a) :: st) μ := by
  obtain ⟨p, l, e, R, s, m, args, below, meth, c⟩ := X
  obtain ⟨hx, hb, hml, hown, hts, hK, hkst, hA, hRf, hRl, hcc, hss, hscr⟩ := hG
  intro o1 o2 o3 H locs ls hP hD hS hl
  exact lv_lushr hx hb hd (am_j_eq _).symm (hk o1 (am_o1 (show am_inJ _ from am_j_in _) (am_ot (am_ot o2))) o3 H locs ls hP hD hS hl)
theorem am_c_lshl (hG : am_G X C j cells slots sc) {a b : Int} (hd : decode (am_mc j) pc = .ok (.lshl, 1)) (hk : am_W X C j Q cells slots (pc + 1) lv (.inr (.inl (o_shll a b)) :: st) μ) : am_W X C j Q cells slots pc lv (.inl b :: .inr (.inl a) :: st) μ := by
  obtain ⟨p, l, e, R, s, m, args, below, meth, c⟩ := X
  obtain ⟨hx, hb, hml, hown, hts, hK, hkst, hA, hRf, hRl, hcc, hss, hscr⟩ := hG
  intro o1 o2 o3 H locs ls hP hD hS hl
  exact lv_lshl hx hb hd (am_j_eq _).symm (hk o1 (am_o1 (show am_inJ _ from am_j_in _) (am_ot (am_ot o2))) o3 H locs ls hP hD hS hl)
theorem am_c_lcmp (hG : am_G X C j cells slots sc) {a b : Int} (hd : decode (am_mc j) pc = .ok (.lcmp, 1)) (hk : am_W X C j Q cells slots (pc + 1) lv (.inl (o_cmp a b) :: st) μ) : am_W X C j Q cells slots pc lv (.inr (.inl b) :: .inr (.inl a) :: st) μ := by
  obtain ⟨p, l, e, R, s, m, args, below, meth, c⟩ := X
  obtain ⟨hx, hb, hml, hown, hts, hK, hkst, hA, hRf, hRl, hcc, hss, hscr⟩ := hG
  intro o1 o2 o3 H locs ls hP hD hS hl
  have ha : am_inJ a := am_oh (am_ot o2)
  have hb2 : am_inJ b := am_oh o2
  have e1 : lg_cmp (Int64.ofInt a) (Int64.ofInt b) = Int32.ofInt (o_cmp a b) := by
    unfold lg_cmp o_cmp
    simp only [am_lt64 hb2 ha, am_eq64 ha hb2]
    split
    · rfl
    · split <;> rfl
  have e2 : am_inI (o_cmp a b) := by unfold o_cmp am_inI; split; omega; split <;> omega
  refine W.lcmp hx hb hd ?_
  rw [e1]
  exact hk o1 (am_o1 e2 (am_ot (am_ot o2))) o3 H locs ls hP hD hS hl
theorem am_c_i2l (hG : am_G X C j cells slots sc) {a : Int} (hd : decode (am_mc j) pc = .ok (.i2l, 1)) (hk : am_W X C j Q cells slots (pc + 1) lv (.inr (.inl a) :: st) μ) : am_W X C j Q cells slots pc lv (.inl a :: st) μ := by
  obtain ⟨p, l, e, R, s, m, args, below, meth, c⟩ := X
  obtain ⟨hx, hb, hml, hown, hts, hK, hkst, hA, hRf, hRl, hcc, hss, hscr⟩ := hG
  intro o1 o2 o3 H locs ls hP hD hS hl
  have ha : am_inI a := am_oh o2
  have e1 : (Int32.ofInt a).toInt64 = Int64.ofInt a := by
    apply Int64.toInt_inj.mp
    rw [Int32.toInt_toInt64, am_i_of ha, am_j_of (am_inIJ ha)]
  exact lv_i2l hx hb hd e1 (hk o1 (am_o1 (show am_inJ a from am_inIJ ha) (am_ot o2)) o3 H locs ls hP hD hS hl)
theorem am_c_l2i (hG : am_G X C j cells slots sc) {a : Int} (hd : decode (am_mc j) pc = .ok (.l2i, 1)) (hk : am_W X C j Q cells slots (pc + 1) lv (.inl (o_l2i a) :: st) μ) : am_W X C j Q cells slots pc lv (.inr (.inl a) :: st) μ := by
  obtain ⟨p, l, e, R, s, m, args, below, meth, c⟩ := X
  obtain ⟨hx, hb, hml, hown, hts, hK, hkst, hA, hRf, hRl, hcc, hss, hscr⟩ := hG
  intro o1 o2 o3 H locs ls hP hD hS hl
  exact lv_l2i hx hb hd (am_i_eq _).symm (hk o1 (am_o1 (show am_inI _ from am_i_in _) (am_ot o2)) o3 H locs ls hP hD hS hl)
theorem am_c_i2b (hG : am_G X C j cells slots sc) {a : Int} (hd : decode (am_mc j) pc = .ok (.i2b, 1)) (hk : am_W X C j Q cells slots (pc + 1) lv (.inl (o_i2b a) :: st) μ) : am_W X C j Q cells slots pc lv (.inl a :: st) μ := by
  obtain ⟨p, l, e, R, s, m, args, below, meth, c⟩ := X
  obtain ⟨hx, hb, hml, hown, hts, hK, hkst, hA, hRf, hRl, hcc, hss, hscr⟩ := hG
  intro o1 o2 o3 H locs ls hP hD hS hl
  exact lv_i2b hx hb hd (am_i_eq _).symm (hk o1 (am_o1 (show am_inI _ from am_i_in _) (am_ot o2)) o3 H locs ls hP hD hS hl)
theorem am_c_i2c (hG : am_G X C j cells slots sc) {a : Int} (hd : decode (am_mc j) pc = .ok (.i2c, 1)) (hk : am_W X C j Q cells slots (pc + 1) lv (.inl (o_i2c a) :: st) μ) : am_W X C j Q cells slots pc lv (.inl a :: st) μ := by
  obtain ⟨p, l, e, R, s, m, args, below, meth, c⟩ := X
  obtain ⟨hx, hb, hml, hown, hts, hK, hkst, hA, hRf, hRl, hcc, hss, hscr⟩ := hG
  intro o1 o2 o3 H locs ls hP hD hS hl
  exact lv_i2c hx hb hd (am_i_eq _).symm (hk o1 (am_o1 (show am_inI _ from am_i_in _) (am_ot o2)) o3 H locs ls hP hD hS hl)
theorem am_c_dup (hG : am_G X C j cells slots sc) {v : am_V} (hd : decode (am_mc j) pc = .ok (.dup, 1)) (hv : am_cat v = 1) (hk : am_W X C j Q cells slots (pc + 1) lv (v :: v :: st) μ) : am_W X C j Q cells slots pc lv (v :: st) μ := by
  obtain ⟨p, l, e, R, s, m, args, below, meth, c⟩ := X
  obtain ⟨hx, hb, hml, hown, hts, hK, hkst, hA, hRf, hRl, hcc, hss, hscr⟩ := hG
  intro o1 o2 o3 H locs ls hP hD hS hl
  exact lv_dup hx hb hd (by rw [am_v_cat]; exact hv) (hk o1 (am_o1 (am_oh o2) o2) o3 H locs ls hP hD hS hl)
theorem am_c_pop (hG : am_G X C j cells slots sc) {v : am_V} (hd : decode (am_mc j) pc = .ok (.pop, 1)) (hv : am_cat v = 1) (hk : am_W X C j Q cells slots (pc + 1) lv st μ) : am_W X C j Q cells slots pc lv (v :: st) μ := by
  obtain ⟨p, l, e, R, s, m, args, below, meth, c⟩ := X
  obtain ⟨hx, hb, hml, hown, hts, hK, hkst, hA, hRf, hRl, hcc, hss, hscr⟩ := hG
  intro o1 o2 o3 H locs ls hP hD hS hl
  exact lv_pop hx hb hd (by rw [am_v_cat]; exact hv) (hk o1 (am_ot o2) o3 H locs ls hP hD hS hl)
theorem am_c_dup_x1 (hG : am_G X C j cells slots sc) {v w : am_V} (hd : decode (am_mc j) pc = .ok (.dup_x1, 1)) (hv : am_cat v = 1) (hw : am_cat w = 1) (hk : am_W X C j Q cells slots (pc + 1) lv (v :: w :: v :: st) μ) : am_W X C j Q cells slots pc lv (v :: w :: st) μ := by
  obtain ⟨p, l, e, R, s, m, args, below, meth, c⟩ := X
  obtain ⟨hx, hb, hml, hown, hts, hK, hkst, hA, hRf, hRl, hcc, hss, hscr⟩ := hG
  intro o1 o2 o3 H locs ls hP hD hS hl
  exact lv_dup_x1 hx hb hd (by rw [am_v_cat]; exact hv) (by rw [am_v_cat]; exact hw) (hk o1 (am_o1 (am_oh o2) (am_o1 (am_oh (am_ot o2)) (am_o1 (am_oh o2) (am_ot (am_ot o2))))) o3 H locs ls hP hD hS hl)
theorem am_c_dup2 (hG : am_G X C j cells slots sc) {v w : am_V} (hd : decode (am_mc j) pc = .ok (.dup2, 1)) (hv : am_cat v = 1) (hw : am_cat w = 1) (hk : am_W X C j Q cells slots (pc + 1) lv (v :: w :: v :: w :: st) μ) : am_W X C j Q cells slots pc lv (v :: w :: st) μ := by
  obtain ⟨p, l, e, R, s, m, args, below, meth, c⟩ := X
  obtain ⟨hx, hb, hml, hown, hts, hK, hkst, hA, hRf, hRl, hcc, hss, hscr⟩ := hG
  intro o1 o2 o3 H locs ls hP hD hS hl
  exact lv_dup2_11 hx hb hd (by rw [am_v_cat]; exact hv) (by rw [am_v_cat]; exact hw) (hk o1 (am_o1 (am_oh o2) (am_o1 (am_oh (am_ot o2)) o2)) o3 H locs ls hP hD hS hl)
theorem am_c_goto (hG : am_G X C j cells slots sc) {off : Int} (hd : decode (am_mc j) pc = .ok (.goto off, 3)) (hp : 0 ≤ (pc : Int) + off) (hk : am_W X C j Q cells slots (am_to pc off) lv st μ) : am_W X C j Q cells slots pc lv st μ := by
  obtain ⟨p, l, e, R, s, m, args, below, meth, c⟩ := X
  obtain ⟨hx, hb, hml, hown, hts, hK, hkst, hA, hRf, hRl, hcc, hss, hscr⟩ := hG
  intro o1 o2 o3 H locs ls hP hD hS hl
  exact lv_goto hx hb hd (am_to_eq hp) (hk o1 o2 o3 H locs ls hP hD hS hl)
theorem am_c_icmp {β : Type} (hG : am_G X C j cells slots sc) {cd : ClassFile.Cond} {off : Int} {b : β} {x y : Int} {T F : Option β} (hd : decode (am_mc j) pc = .ok (.if_icmp cd off, 3)) (hp : 0 ≤ (pc : Int) + off) (h : am_br cd x y T F = some b) (ht : T = some b → am_W X C j Q cells slots (am_to pc off) lv st μ) (hf : F = some b → am_W X C j Q cells slots (pc + 3) lv st μ) : am_W X C j Q cells slots pc lv (.inl y :: .inl x :: st) μ := by
  obtain ⟨p, l, e, R, s, m, args, below, meth, c⟩ := X
  obtain ⟨hx, hb, hml, hown, hts, hK, hkst, hA, hRf, hRl, hcc, hss, hscr⟩ := hG
  intro o1 o2 o3 H locs ls hP hD hS hl
  have hy0 : am_inI y := am_oh o2
  have hx0 : am_inI x := am_oh (am_ot o2)
  have o4 := am_ot (am_ot o2)
  cases cd with
  | eq =>
    have h : (if x = y then T else F) = some b := h
    exact lv_icmp_eq hx hb hd (am_to_eq hp) (fun q => ht (by rw [if_pos ((am_eq32 hx0 hy0).mp q)] at h; exact h) o1 o4 o3 H locs ls hP hD hS hl) (fun q => hf (by rw [if_neg (fun z => q ((am_eq32 hx0 hy0).mpr z))] at h; exact h) o1 o4 o3 H locs ls hP hD hS hl)
  | ne =>
    have h : (if x = y then F else T) = some b := h
    exact lv_icmp_ne hx hb hd (am_to_eq hp) (fun q => ht (by rw [if_neg (fun z => q ((am_eq32 hx0 hy0).mpr z))] at h; exact h) o1 o4 o3 H locs ls hP hD hS hl) (fun q => hf (by rw [if_pos ((am_eq32 hx0 hy0).mp q)] at h; exact h) o1 o4 o3 H locs ls hP hD hS hl)
  | lt =>
    have h : (if x < y then T else F) = some b := h
    exact lv_icmp_lt hx hb hd (am_to_eq hp) (fun q => ht (by rw [if_pos ((am_lt32 hx0 hy0).mp q)] at h; exact h) o1 o4 o3 H locs ls hP hD hS hl) (fun q => hf (by rw [if_neg (fun z => q ((am_lt32 hx0 hy0).mpr z))] at h; exact h) o1 o4 o3 H locs ls hP hD hS hl)
  | ge =>
    have h : (if x < y then F else T) = some b := h
    exact lv_icmp_ge hx hb hd (am_to_eq hp) (fun q => ht (by have z := (am_le32 hy0 hx0).mp q; rw [if_neg (by omega)] at h; exact h) o1 o4 o3 H locs ls hP hD hS hl) (fun q => hf (by have z : ¬ (y ≤ x) := fun w => q ((am_le32 hy0 hx0).mpr w); rw [if_pos (by omega)] at h; exact h) o1 o4 o3 H locs ls hP hD hS hl)
  | gt =>
    have h : (if y < x then T else F) = some b := h
    exact lv_icmp_gt hx hb hd (am_to_eq hp) (fun q => ht (by rw [if_pos ((am_lt32 hy0 hx0).mp q)] at h; exact h) o1 o4 o3 H locs ls hP hD hS hl) (fun q => hf (by rw [if_neg (fun z => q ((am_lt32 hy0 hx0).mpr z))] at h; exact h) o1 o4 o3 H locs ls hP hD hS hl)
  | le =>
    have h : (if y < x then F else T) = some b := h
    exact lv_icmp_le hx hb hd (am_to_eq hp) (fun q => ht (by have z := (am_le32 hx0 hy0).mp q; rw [if_neg (by omega)] at h; exact h) o1 o4 o3 H locs ls hP hD hS hl) (fun q => hf (by have z : ¬ (x ≤ y) := fun w => q ((am_le32 hx0 hy0).mpr w); rw [if_pos (by omega)] at h; exact h) o1 o4 o3 H locs ls hP hD hS hl)
theorem am_c_if {β : Type} (hG : am_G X C j cells slots sc) {cd : ClassFile.Cond} {off : Int} {b : β} {x : Int} {T F : Option β} (hd : decode (am_mc j) pc = .ok (.ifCond cd off, 3)) (hp : 0 ≤ (pc : Int) + off) (h : am_br cd x 0 T F = some b) (ht : T = some b → am_W X C j Q cells slots (am_to pc off) lv st μ) (hf : F = some b → am_W X C j Q cells slots (pc + 3) lv st μ) : am_W X C j Q cells slots pc lv (.inl x :: st) μ := by
  obtain ⟨p, l, e, R, s, m, args, below, meth, c⟩ := X
  obtain ⟨hx, hb, hml, hown, hts, hK, hkst, hA, hRf, hRl, hcc, hss, hscr⟩ := hG
  intro o1 o2 o3 H locs ls hP hD hS hl
  have hx0 : am_inI x := am_oh o2
  have o4 := am_ot o2
  cases cd with
  | eq =>
    have h : (if x = 0 then T else F) = some b := h
    exact lv_if_eq hx hb hd (am_to_eq hp) (fun q => ht (by rw [if_pos ((am_eq32 hx0 am_0in).mp q)] at h; exact h) o1 o4 o3 H locs ls hP hD hS hl) (fun q => hf (by rw [if_neg (fun z => q ((am_eq32 hx0 am_0in).mpr z))] at h; exact h) o1 o4 o3 H locs ls hP hD hS hl)
  | ne =>
    have h : (if x = 0 then F else T) = some b := h
    exact lv_if_ne hx hb hd (am_to_eq hp) (fun q => ht (by rw [if_neg (fun z => q ((am_eq32 hx0 am_0in).mpr z))] at h; exact h) o1 o4 o3 H locs ls hP hD hS hl) (fun q => hf (by rw [if_pos ((am_eq32 hx0 am_0in).mp q)] at h; exact h) o1 o4 o3 H locs ls hP hD hS hl)
  | lt =>
    have h : (if x < 0 then T else F) = some b := h
    exact lv_if_lt hx hb hd (am_to_eq hp) (fun q => ht (by rw [if_pos ((am_lt32 hx0 am_0in).mp q)] at h; exact h) o1 o4 o3 H locs ls hP hD hS hl) (fun q => hf (by rw [if_neg (fun z => q ((am_lt32 hx0 am_0in).mpr z))] at h; exact h) o1 o4 o3 H locs ls hP hD hS hl)
  | ge =>
    have h : (if x < 0 then F else T) = some b := h
    exact lv_if_ge hx hb hd (am_to_eq hp) (fun q => ht (by have z := (am_le32 am_0in hx0).mp q; rw [if_neg (by omega)] at h; exact h) o1 o4 o3 H locs ls hP hD hS hl) (fun q => hf (by have z : ¬ (0 ≤ x) := fun w => q ((am_le32 am_0in hx0).mpr w); rw [if_pos (by omega)] at h; exact h) o1 o4 o3 H locs ls hP hD hS hl)
  | gt =>
    have h : (if 0 < x then T else F) = some b := h
    exact lv_if_gt hx hb hd (am_to_eq hp) (fun q => ht (by rw [if_pos ((am_lt32 am_0in hx0).mp q)] at h; exact h) o1 o4 o3 H locs ls hP hD hS hl) (fun q => hf (by rw [if_neg (fun z => q ((am_lt32 am_0in hx0).mpr z))] at h; exact h) o1 o4 o3 H locs ls hP hD hS hl)
  | le =>
    have h : (if 0 < x then F else T) = some b := h
    exact lv_if_le hx hb hd (am_to_eq hp) (fun q => ht (by have z := (am_le32 hx0 am_0in).mp q; rw [if_neg (by omega)] at h; exact h) o1 o4 o3 H locs ls hP hD hS hl) (fun q => hf (by have z : ¬ (x ≤ 0) := fun w => q ((am_le32 hx0 am_0in).mpr w); rw [if_pos (by omega)] at h; exact h) o1 o4 o3 H locs ls hP hD hS hl)
end C
