/-! The constructors: tables. A constructor has the number of its class. -/
def zc_y (t : Nat) : MethodName := ⟨am_cn t, "<init>", ["()V", "(IZ)V", "()V", "(I)V", "()V", "()V", "()V", "()V", "()V", "()V", "()V", "()V"].getD t "()V"⟩
def zc_c (t : Nat) : ByteArray := match t with
  | 0 => prog_1_method_1_code
  | 1 => prog_8_method_1_code
  | 2 => prog_10_method_1_code
  | 3 => prog_5_method_1_code
  | 4 => prog_6_method_1_code
  | 5 => prog_2_method_1_code
  | 6 => prog_3_method_1_code
  | 7 => prog_11_method_1_code
  | 8 => prog_7_method_1_code
  | 9 => prog_4_method_1_code
  | 10 => prog_9_method_1_code
  | 12 => am_mc 234
  | _ => prog_13_method_1_code
def zc_l (t : Nat) : Nat := [1, 3, 2, 2, 2, 1, 2, 1, 1, 1, 1, 1, 7].getD t 1
def zc_d (t : Nat) : Nat := [4, 1, 2, 1, 3, 2, 2, 1, 1, 1, 1, 1, 13].getD t 1
def zc_r (t : Nat) : Nat := [74, 12, 33, 12, 53, 33, 33, 12, 12, 12, 12, 12, 570].getD t 12
def zc_na (t : Nat) : Nat := [0, 2, 0, 1, 0, 0, 0, 0, 0, 0, 0, 0].getD t 0
def zc_newL : List (Nat × Nat × Nat × Nat) := [(12, 8, 0, 27), (0, 9, 1, 35), (0, 21, 2, 52), (2, 9, 3, 58), (0, 28, 4, 111), (4, 11, 3, 117), (4, 24, 5, 119), (5, 9, 3, 126), (0, 35, 6, 184), (6, 21, 3, 190), (6, 43, 7, 192), (0, 42, 8, 251), (0, 49, 9, 273), (0, 56, 10, 298), (0, 63, 3, 315), (12, 24, 11, 1245)]
def zc_invL : List (Nat × Nat × Nat × Nat) := [(12, 23, 0, 29), (0, 11, 1, 37), (0, 23, 2, 54), (2, 17, 3, 61), (0, 30, 4, 113), (4, 17, 3, 118), (4, 30, 5, 122), (5, 11, 3, 127), (0, 37, 6, 186), (6, 27, 3, 191), (0, 51, 9, 275), (0, 58, 10, 300), (0, 65, 3, 316), (12, 26, 11, 1247)]
def zc_nstL : List (Nat × Nat × Nat × Nat) := [(6, 45, 7, 194), (0, 44, 8, 253)]
def zc_objL : List (Nat × Nat × Nat × Nat) := [(0, 3, 0, 32), (1, 1, 0, 40), (2, 3, 0, 57), (3, 1, 0, 64), (4, 3, 0, 116), (5, 3, 0, 125), (6, 3, 0, 189), (7, 3, 0, 197), (8, 3, 0, 256), (9, 3, 0, 278), (10, 3, 0, 303), (11, 1, 0, 1250)]
def zc_fd (l : List (Nat × Nat × Nat × Nat)) (o x : Nat) : Option Nat := match l.find? (fun q => decide (q.1 = o ∧ q.2.1 = x)) with
  | some q => some q.2.2.1
  | none => none
theorem zc_fd_s {l : List (Nat × Nat × Nat × Nat)} {o x t : Nat} (h : zc_fd l o x = some t) : ∃ p, (o, x, t, p) ∈ l := by
  unfold zc_fd at h
  split at h
  · rename_i q hq
    have h1 := List.find?_some hq
    have h2 := List.mem_of_find?_eq_some hq
    simp only [decide_eq_true_eq] at h1
    obtain ⟨q1, q2, q3, q4⟩ := q
    obtain ⟨rfl, rfl⟩ := h1
    cases h
    exact ⟨q4, h2⟩
  · cases h
theorem zc_new_all : (zc_newL.all fun q => decide (tables_1[q.2.2.2]? = some (.classLink (am_cn q.1) q.2.1 (am_cn q.2.2.1)))) = true := by decide +kernel
theorem zc_inv_all : (zc_invL.all fun q => decide (tables_1[q.2.2.2]? = some (.methodLink (am_cn q.1) q.2.1 (zc_y q.2.2.1)) ∧ q.2.2.1 < 12)) = true := by decide +kernel
theorem zc_nst_all : (zc_nstL.all fun q => decide (q = (6, 45, 7, 194) ∨ q = (0, 44, 8, 253))) = true := by decide +kernel
theorem zc_obj_all : (zc_objL.all fun q => decide (tables_1[q.2.2.2]? = some (.methodLink (am_cn q.1) q.2.1 objectInit))) = true := by decide +kernel
theorem zc_new_ok {o x t : Nat} (h : zc_fd zc_newL o x = some t) : Cond.classLink (am_cn o) x (am_cn t) ∈ am_TS := by
  obtain ⟨p, hp⟩ := zc_fd_s h
  have z := List.all_eq_true.mp zc_new_all _ hp
  exact am_in_1 (of_decide_eq_true z) rfl
theorem zc_inv_ok {o x t : Nat} (h : zc_fd zc_invL o x = some t) : Cond.methodLink (am_cn o) x (zc_y t) ∈ am_TS ∧ t < 12 := by
  obtain ⟨p, hp⟩ := zc_fd_s h
  have z := of_decide_eq_true (List.all_eq_true.mp zc_inv_all _ hp)
  exact ⟨am_in_1 z.1 rfl, z.2⟩
theorem zc_obj_ok {o x t : Nat} (h : zc_fd zc_objL o x = some t) : Cond.methodLink (am_cn o) x objectInit ∈ am_TS := by
  obtain ⟨p, hp⟩ := zc_fd_s h
  have z := List.all_eq_true.mp zc_obj_all _ hp
  exact am_in_1 (of_decide_eq_true z) rfl
def zc_p1 (t : Nat) : Nat := [28, 36, 53, 60, 112, 121, 185, 193, 252, 274, 299, 1246].getD t 0
def zc_p2 (t : Nat) : Nat := [1, 2, 3, 4, 5, 6, 7, 8, 9, 10, 11, 12].getD t 0
def zc_p3 (t : Nat) : Nat := [30, 38, 55, 62, 114, 123, 187, 195, 254, 276, 301, 1248].getD t 0
def zc_p4 (t : Nat) : Nat := [31, 39, 56, 63, 115, 124, 188, 196, 255, 277, 302, 1249].getD t 0
theorem zc_q1 : ∀ t, t < 12 → tables_1[zc_p1 t]? = some (.instantiable (am_cn t) (am_nf t)) := by decide +kernel
theorem zc_q2 : ∀ t, t < 12 → tables_1[zc_p2 t]? = some (.initialized (am_cn t)) := by decide +kernel
theorem zc_q3 : ∀ t, t < 12 → tables_1[zc_p3 t]? = some (.instanceMethod (zc_y t)) := by decide +kernel
theorem zc_q4 : ∀ t, t < 12 → tables_1[zc_p4 t]? = some (.code (zc_y t) (zc_c t) (zc_l t) none) := by decide +kernel
theorem zc_w1 {t : Nat} (h : t < 12) : Cond.instantiable (am_cn t) (am_nf t) ∈ am_TS := am_in_1 (zc_q1 t h) rfl
theorem zc_w2 {t : Nat} (h : t < 12) : Cond.initialized (am_cn t) ∈ am_TS := am_in_1 (zc_q2 t h) rfl
theorem zc_w3 {t : Nat} (h : t < 12) : Cond.instanceMethod (zc_y t) ∈ am_TS := am_in_1 (zc_q3 t h) rfl
theorem zc_w4 {t : Nat} (h : t < 12) : Cond.code (zc_y t) (zc_c t) (zc_l t) none ∈ am_TS := am_in_1 (zc_q4 t h) rfl
theorem zc_o1 : Cond.instanceMethod objectInit ∈ am_TS := am_in_1 (p := 33) (by decide +kernel) rfl
theorem zc_o2 : Cond.code objectInit ⟨#[0xb1]⟩ 1 none ∈ am_TS := am_in_1 (p := 34) (by decide +kernel) rfl
def zc_w (t : Nat) : List Cond := .code (zc_y t) (zc_c t) (zc_l t) none :: am_TS
theorem zc_good (t : Nat) (h : t < 12) : GoodIn am_TS (zc_w t) := by
  intro w hw
  have hm : w ∈ am_TS := by
    rcases List.mem_cons.mp hw with rfl | h2
    · exact zc_w4 h
    · exact h2
  exact ⟨hm, good_of_word (List.mem_filter.mp hm).2⟩
theorem zc_cn : ∀ t, t < 12 → (am_cl[t]?).map (fun q => q.1) = some (am_cn t) := by decide +kernel
theorem zc_yd : ∀ t, t < 12 → (parseMethodDescriptor (zc_y t).desc).map (fun d => d.parameters.length) = some (zc_na t) := by decide +kernel
def zc_at : ArrayType → Nat
  | .int => 16
  | .long => 17
  | .char => 18
  | .byte => 19
  | .boolean => 20
  | _ => 99
def zc_ty (t : Nat) : FieldType := match t with
  | 16 => .int
  | 17 => .long
  | 18 => .char
  | 19 => .byte
  | 20 => .boolean
  | _ => .short
def zc_p5 (t : Nat) : Nat := [110, 109, 51, 314, 1414].getD (t - 16) 0
theorem zc_q5 : ∀ t, t < 21 → 16 ≤ t → tables_1[zc_p5 t]? = some (.arrayClass (zc_ty t)) := by decide +kernel
