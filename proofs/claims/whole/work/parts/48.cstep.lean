/-! The constructors: the machine, and what a stretch of it means. -/
def zc_ge (n k : Nat) (r : Option zc_S) : Option zc_S := match r with
  | some S' => if n ≤ S'.1 ∧ k ≤ S'.2.1 then some S' else none
  | none => none
theorem zc_ge_s {n k : Nat} {r : Option zc_S} {S' : zc_S} (h : zc_ge n k r = some S') : r = some S' ∧ n ≤ S'.1 ∧ k ≤ S'.2.1 := by
  unfold zc_ge at h
  split at h
  · split at h
    · cases h
      exact ⟨rfl, by assumption⟩
    · cases h
  · cases h
def zc_rr (st : List am_V) (f : Nat → Nat → Nat → Nat → List am_V → Option zc_S) : Option zc_S := match st with
  | .inr (.inr (tv, v)) :: .inr (.inr (t, o)) :: r => f tv v t o r
  | _ => none
def zc_rir (st : List am_V) (f : Nat → Nat → Int → Nat → Nat → List am_V → Option zc_S) : Option zc_S := match st with
  | .inr (.inr (tv, v)) :: .inl i :: .inr (.inr (t, o)) :: r => f tv v i t o r
  | _ => none
theorem zc_rr_s {st : List am_V} {f : Nat → Nat → Nat → Nat → List am_V → Option zc_S} {b : zc_S} (h : zc_rr st f = some b) : ∃ tv v t o r, st = .inr (.inr (tv, v)) :: .inr (.inr (t, o)) :: r ∧ f tv v t o r = some b := by
  unfold zc_rr at h; split at h
  · exact ⟨_, _, _, _, _, rfl, h⟩
  · cases h
theorem zc_rir_s {st : List am_V} {f : Nat → Nat → Int → Nat → Nat → List am_V → Option zc_S} {b : zc_S} (h : zc_rir st f = some b) : ∃ tv v i t o r, st = .inr (.inr (tv, v)) :: .inl i :: .inr (.inr (t, o)) :: r ∧ f tv v i t o r = some b := by
  unfold zc_rir at h; split at h
  · exact ⟨_, _, _, _, _, _, rfl, h⟩
  · cases h
/-- the words that a constructor needs beside the good ones -/
def zc_x (s : State) : Prop := va_AO RA3 s ∧ va_AO RA5 s ∧ va_Nw (.methodLinkNest (am_cn 6) 45 (zc_y 7) "ChartPress") s ∧ va_Nw (.methodLinkNest (am_cn 0) 44 (zc_y 8) "ChartPress") s
def zc_eq (C' C : am_C) (n0 : Nat) : Prop := C'.1 = C.1 ∧ C'.2.1 = C.2.1 ∧ C'.2.2.2 = C.2.2.2 ∧ ∀ o, o < n0 → C'.2.2.1 o = C.2.2.1 o
def zc_ok (n : Nat) (v : am_V) : Prop := match v with
  | .inl x => am_inI x
  | .inr (.inl _) => False
  | .inr (.inr q) => q.1 < 30 ∧ q.2 < n ∧ am_cls q.2 = q.1
/-- a local may hold what is no cell of ours -/
def zc_okl (n : Nat) (v : am_V) : Prop := zc_ok n v ∨ ∃ q, v = .inr (.inr q) ∧ 30 ≤ q.1
def zc_Q (C : am_C) (n0 : Nat) (S' : zc_S) : Array Value → State → Outcome → State → Prop := fun _ st oc t => oc = .returned none ∧ (∃ C', zc_eq C' C n0 ∧ va_P C.1 am_cl (zc_ws C' S') t.heap ∧ va_D C.2.2.2.1 (zc_ws C' S') ∧ zc_I S') ∧ va_F C.2.2.2.1 st t
def zc_G (X : am_K) (C : am_C) (j n0 k0 : Nat) (S' : zc_S) : Prop := match X with
  | (p, _, _, R, s, m, args, _, meth, c) => p.tables.exec = Jvm.exec ∧ c.code = zc_c j ∧ c.maxLocals = zc_l j ∧ s.vm.findClass (am_cn j) = some m.cls ∧ (∀ w ∈ am_TS, w.before args s = true) ∧ va_K C.1 am_cl (am_tys C) s ∧ zc_x s ∧ (∀ q, s.heap.size ≤ q → C.2.2.2.1 q) ∧ zc_d j ≤ R.frames ∧ zc_r j ≤ R.locals ∧ (j < 12 → meth.name = "<init>") ∧ (j < 12 → meth.sig.returnType = none) ∧ meth.locks = false ∧ S'.1 - n0 ≤ R.cells ∧ S'.2.1 - k0 ≤ R.slots
def zc_A (C C' : am_C) (n0 k0 : Nat) (S' S : zc_S) (lv : am_L) (st : List am_V) (s : State) (H : Heap) (locs : List Loc) : Prop := zc_eq C' C n0 ∧ n0 ≤ S.1 ∧ k0 ≤ S.2.1 ∧ S.1 ≤ S'.1 ∧ S.2.1 ≤ S'.2.1 ∧ zc_I S ∧ (∀ q ∈ lv, zc_okl S.1 q.2) ∧ (∀ v ∈ st, zc_ok S.1 v) ∧ va_P C.1 am_cl (zc_ws C' S) H ∧ va_D C.2.2.2.1 (zc_ws C' S) ∧ va_S C.2.2.2.1 s.heap H locs
def zc_E (X : am_K) (C : am_C) (n0 k0 : Nat) (S' : zc_S) : State → Prop := match X with
  | (p, l, e, R, s, m, args, below, meth, c) => MQ below (zc_Q C n0 S') args s (S'.1 - n0) (S'.2.1 - k0) C.2.2.2.1
def zc_W (X : am_K) (C : am_C) (j n0 k0 : Nat) (Q : State → Prop) (S' : zc_S) (pc : Nat) (lv : am_L) (st : List am_V) (S : zc_S) : Prop := match X with
  | (p, l, e, R, s, m, args, below, meth, c) => ∀ (C' : am_C) (H : Heap) (locs : List Loc) (ls : Array Slot), zc_A C C' n0 k0 S' S lv st s H locs → lv_has ls (zc_l j) (lv.map fun q => (q.1, am_v C' q.2)) → W p l e R s m args below meth c H locs (S.1 - n0) (S.2.1 - k0) Q (F0 m pc ls (st.map (am_v C')))
theorem zc_oc {n : Nat} {v : am_V} {st : List am_V} (h : zc_ok n v) (hs : ∀ w ∈ st, zc_ok n w) : ∀ w ∈ v :: st, zc_ok n w := by
  intro w hw
  rcases List.mem_cons.mp hw with rfl | h2
  · exact h
  · exact hs w h2
theorem zc_oh {n : Nat} {v : am_V} {st : List am_V} (hs : ∀ w ∈ v :: st, zc_ok n w) : zc_ok n v := hs v List.mem_cons_self
theorem zc_ot {n : Nat} {v : am_V} {st : List am_V} (hs : ∀ w ∈ v :: st, zc_ok n w) : ∀ w ∈ st, zc_ok n w := fun w hw => hs w (List.mem_cons_of_mem _ hw)
theorem zc_lk_i {n : Nat} {lv : am_L} {i : Nat} {x : Int} (h : am_lk lv i = some (.inl x)) (ho : ∀ q ∈ lv, zc_okl n q.2) : zc_ok n (.inl x) := by
  rcases ho (i, .inl x) (am_lk_mem h) with z | ⟨q, z, -⟩
  · exact z
  · cases z
theorem zc_lk_r {n : Nat} {lv : am_L} {i t o : Nat} (h : am_lk lv i = some (.inr (.inr (t, o)))) (ht : t < 30) (ho : ∀ q ∈ lv, zc_okl n q.2) : zc_ok n (.inr (.inr (t, o))) := by
  rcases ho (i, .inr (.inr (t, o))) (am_lk_mem h) with z | ⟨q, z, z2⟩
  · exact z
  · cases z
    exact absurd z2 (by show ¬ 30 ≤ t; omega)
theorem zc_s1_ok {n : Nat} {lv : am_L} {i : Nat} {v : am_V} (hv : zc_ok n v) (ho : ∀ q ∈ lv, zc_okl n q.2) : ∀ q ∈ am_s1 lv i v, zc_okl n q.2 := by
  intro q hq
  rcases List.mem_cons.mp hq with rfl | h2
  · exact Or.inl hv
  · exact ho q (List.mem_filter.mp h2).1
theorem zc_ok_mono {n k : Nat} {v : am_V} (h : zc_ok n v) (hk : n ≤ k) : zc_ok k v := by
  rcases v with x | x | q
  · exact h
  · exact h
  · exact ⟨h.1, Nat.lt_of_lt_of_le h.2.1 hk, h.2.2⟩
theorem zc_okl_mono {n k : Nat} {v : am_V} (h : zc_okl n v) (hk : n ≤ k) : zc_okl k v := h.imp (fun z => zc_ok_mono z hk) id
/-- values named before a cell was made are the same behind it -/
theorem zc_v_eq {C C' : am_C} {n : Nat} {v : am_V} (he : zc_eq C' C n) (h : zc_ok n v) : am_v C' v = am_v C v := by
  rcases v with x | x | q
  · rfl
  · exact absurd h id
  · show Value.ref (am_ra C' q.1 q.2) = Value.ref (am_ra C q.1 q.2)
    unfold am_ra
    rw [if_pos h.1, if_pos h.1, he.2.2.2 _ h.2.1]
theorem zc_vl_eq {C C' : am_C} {n : Nat} {v : am_V} (he : zc_eq C' C n) (h : zc_okl n v) : am_v C' v = am_v C v := by
  rcases h with h | ⟨q, rfl, hq⟩
  · exact zc_v_eq he h
  · show Value.ref (am_ra C' q.1 q.2) = Value.ref (am_ra C q.1 q.2)
    unfold am_ra
    rw [if_neg (by omega), if_neg (by omega), he.2.2.1]
theorem zc_lv_eq {C C' : am_C} {n : Nat} {lv : am_L} (he : zc_eq C' C n) (h : ∀ q ∈ lv, zc_okl n q.2) : (lv.map fun q => (q.1, am_v C' q.2)) = lv.map fun q => (q.1, am_v C q.2) :=
  List.map_congr_left (fun q hq => by rw [zc_vl_eq he (h q hq)])
theorem zc_st_eq {C C' : am_C} {n : Nat} {st : List am_V} (he : zc_eq C' C n) (h : ∀ v ∈ st, zc_ok n v) : st.map (am_v C') = st.map (am_v C) :=
  List.map_congr_left (fun v hv => zc_v_eq he (h v hv))
theorem zc_eq_up (C : am_C) (n q : Nat) : zc_eq (zc_up C n q) C n := ⟨rfl, rfl, rfl, fun o ho => by show (if o = n then q else _) = _; rw [if_neg (by omega)]⟩
theorem zc_eq_tr {C C' C'' : am_C} {n k : Nat} (h1 : zc_eq C'' C' k) (h2 : zc_eq C' C n) (h : n ≤ k) : zc_eq C'' C n := ⟨h1.1.trans h2.1, h1.2.1.trans h2.2.1, h1.2.2.1.trans h2.2.2.1, fun o ho => (h1.2.2.2 o (Nat.lt_of_lt_of_le ho h)).trans (h2.2.2.2 o ho)⟩
theorem zc_eq_rf (C : am_C) (n : Nat) : zc_eq C C n := ⟨rfl, rfl, rfl, fun _ _ => rfl⟩
theorem zc_ra (C : am_C) {t o : Nat} (h : t < 30) : am_v C (.inr (.inr (t, o))) = .ref (C.2.2.1 o) := by
  show Value.ref (am_ra C t o) = _
  rw [am_ra_w C o h]
section CM
variable {X : am_K} {C : am_C} {j n0 k0 : Nat} {S' S : zc_S} {Q : State → Prop} {pc : Nat} {lv : am_L} {st : List am_V}
theorem zc_c_iconst (hG : zc_G X C j n0 k0 S') {n : Int} (hd : decode (zc_c j) pc = .ok (.iconst n, 1)) (hn : -128 ≤ n ∧ n ≤ 127) (hk : zc_W X C j n0 k0 Q S' (pc + 1) lv (.inl n :: st) S) : zc_W X C j n0 k0 Q S' pc lv st S := by
  obtain ⟨p, l, e, R, s, m, args, below, meth, c⟩ := X
  obtain ⟨hx, hb, hml, hown, hts, hK, hcx, hA, hRf, hRl, hin, hret, hlk, hRc, hRs⟩ := hG
  intro C' H locs ls ⟨q0, q1, q2, q3, q4, hI, o1, o2, hP, hD, hS⟩ hl
  exact lv_iconst hx hb hd rfl (hk C' H locs ls ⟨q0, q1, q2, q3, q4, hI, o1, zc_oc (show am_inI n by unfold am_inI; omega) o2, hP, hD, hS⟩ hl)
theorem zc_c_bipush (hG : zc_G X C j n0 k0 S') {n : Int} (hd : decode (zc_c j) pc = .ok (.bipush n, 2)) (hn : -128 ≤ n ∧ n ≤ 127) (hk : zc_W X C j n0 k0 Q S' (pc + 2) lv (.inl n :: st) S) : zc_W X C j n0 k0 Q S' pc lv st S := by
  obtain ⟨p, l, e, R, s, m, args, below, meth, c⟩ := X
  obtain ⟨hx, hb, hml, hown, hts, hK, hcx, hA, hRf, hRl, hin, hret, hlk, hRc, hRs⟩ := hG
  intro C' H locs ls ⟨q0, q1, q2, q3, q4, hI, o1, o2, hP, hD, hS⟩ hl
  exact lv_bipush hx hb hd (am_8 hn) (hk C' H locs ls ⟨q0, q1, q2, q3, q4, hI, o1, zc_oc (show am_inI n by unfold am_inI; omega) o2, hP, hD, hS⟩ hl)
theorem zc_c_sipush (hG : zc_G X C j n0 k0 S') {n : Int} (hd : decode (zc_c j) pc = .ok (.sipush n, 3)) (hn : -32768 ≤ n ∧ n ≤ 32767) (hk : zc_W X C j n0 k0 Q S' (pc + 3) lv (.inl n :: st) S) : zc_W X C j n0 k0 Q S' pc lv st S := by
  obtain ⟨p, l, e, R, s, m, args, below, meth, c⟩ := X
  obtain ⟨hx, hb, hml, hown, hts, hK, hcx, hA, hRf, hRl, hin, hret, hlk, hRc, hRs⟩ := hG
  intro C' H locs ls ⟨q0, q1, q2, q3, q4, hI, o1, o2, hP, hD, hS⟩ hl
  exact lv_sipush hx hb hd (am_16 hn) (hk C' H locs ls ⟨q0, q1, q2, q3, q4, hI, o1, zc_oc (show am_inI n by unfold am_inI; omega) o2, hP, hD, hS⟩ hl)
theorem zc_c_iload_n (hG : zc_G X C j n0 k0 S') {n : Fin 4} {x : Int} (hd : decode (zc_c j) pc = .ok (.iload_n n, 1)) (hn : am_lk lv n = some (.inl x)) (hk : zc_W X C j n0 k0 Q S' (pc + 1) lv (.inl x :: st) S) : zc_W X C j n0 k0 Q S' pc lv st S := by
  obtain ⟨p, l, e, R, s, m, args, below, meth, c⟩ := X
  obtain ⟨hx, hb, hml, hown, hts, hK, hcx, hA, hRf, hRl, hin, hret, hlk, hRc, hRs⟩ := hG
  intro C' H locs ls ⟨q0, q1, q2, q3, q4, hI, o1, o2, hP, hD, hS⟩ hl
  exact lv_iload_n hx hb hd rfl (am_lk_at (C := C') hn hl) (hk C' H locs ls ⟨q0, q1, q2, q3, q4, hI, o1, zc_oc (zc_lk_i hn o1) o2, hP, hD, hS⟩ hl)
theorem zc_c_aload_n (hG : zc_G X C j n0 k0 S') {n : Fin 4} {t o : Nat} (hd : decode (zc_c j) pc = .ok (.aload_n n, 1)) (hn : am_lk lv n = some (.inr (.inr (t, o)))) (ht : t < 30) (hk : zc_W X C j n0 k0 Q S' (pc + 1) lv (.inr (.inr (t, o)) :: st) S) : zc_W X C j n0 k0 Q S' pc lv st S := by
  obtain ⟨p, l, e, R, s, m, args, below, meth, c⟩ := X
  obtain ⟨hx, hb, hml, hown, hts, hK, hcx, hA, hRf, hRl, hin, hret, hlk, hRc, hRs⟩ := hG
  intro C' H locs ls ⟨q0, q1, q2, q3, q4, hI, o1, o2, hP, hD, hS⟩ hl
  exact lv_aload_n hx hb hd rfl (am_lk_at (C := C') hn hl) (hk C' H locs ls ⟨q0, q1, q2, q3, q4, hI, o1, zc_oc (zc_lk_r hn ht o1) o2, hP, hD, hS⟩ hl)
theorem zc_c_istore_n (hG : zc_G X C j n0 k0 S') {n : Fin 4} {x : Int} (hd : decode (zc_c j) pc = .ok (.istore_n n, 1)) (hn : (n : Nat) < zc_l j) (hk : zc_W X C j n0 k0 Q S' (pc + 1) (am_s1 lv n (.inl x)) st S) : zc_W X C j n0 k0 Q S' pc lv (.inl x :: st) S := by
  obtain ⟨p, l, e, R, s, m, args, below, meth, c⟩ := X
  obtain ⟨hx, hb, hml, hown, hts, hK, hcx, hA, hRf, hRl, hin, hret, hlk, hRc, hRs⟩ := hG
  intro C' H locs ls ⟨q0, q1, q2, q3, q4, hI, o1, o2, hP, hD, hS⟩ hl
  exact lv_istore_n hx hb hd rfl hl hn (am_s1_map C' lv n (.inl x)) (fun ls2 hl2 => hk C' H locs ls2 ⟨q0, q1, q2, q3, q4, hI, zc_s1_ok (zc_oh o2) o1, zc_ot o2, hP, hD, hS⟩ hl2)
theorem zc_c_astore_n (hG : zc_G X C j n0 k0 S') {n : Fin 4} {t o : Nat} (hd : decode (zc_c j) pc = .ok (.astore_n n, 1)) (hn : (n : Nat) < zc_l j) (hk : zc_W X C j n0 k0 Q S' (pc + 1) (am_s1 lv n (.inr (.inr (t, o)))) st S) : zc_W X C j n0 k0 Q S' pc lv (.inr (.inr (t, o)) :: st) S := by
  obtain ⟨p, l, e, R, s, m, args, below, meth, c⟩ := X
  obtain ⟨hx, hb, hml, hown, hts, hK, hcx, hA, hRf, hRl, hin, hret, hlk, hRc, hRs⟩ := hG
  intro C' H locs ls ⟨q0, q1, q2, q3, q4, hI, o1, o2, hP, hD, hS⟩ hl
  exact lv_astore_n hx hb hd rfl hl hn (am_s1_map C' lv n (.inr (.inr (t, o)))) (fun ls2 hl2 => hk C' H locs ls2 ⟨q0, q1, q2, q3, q4, hI, zc_s1_ok (zc_oh o2) o1, zc_ot o2, hP, hD, hS⟩ hl2)
theorem zc_c_iinc (hG : zc_G X C j n0 k0 S') {n : Nat} {d x : Int} (hd : decode (zc_c j) pc = .ok (.iinc n d, 3)) (hx0 : am_lk lv n = some (.inl x)) (hn : n < zc_l j) (hk : zc_W X C j n0 k0 Q S' (pc + 3) (am_s1 lv n (.inl (w32 (x + d)))) st S) : zc_W X C j n0 k0 Q S' pc lv st S := by
  obtain ⟨p, l, e, R, s, m, args, below, meth, c⟩ := X
  obtain ⟨hx, hb, hml, hown, hts, hK, hcx, hA, hRf, hRl, hin, hret, hlk, hRc, hRs⟩ := hG
  intro C' H locs ls ⟨q0, q1, q2, q3, q4, hI, o1, o2, hP, hD, hS⟩ hl
  obtain ⟨k, hkk⟩ := List.getElem?_of_mem (List.mem_map.mpr ⟨(n, .inl x), am_lk_mem hx0, rfl⟩ : (n, am_v C' (.inl x)) ∈ lv.map fun q => (q.1, am_v C' q.2))
  have e1 : Int32.ofInt x + Int32.ofInt d = Int32.ofInt (w32 (x + d)) := by rw [am_w_of]; exact (Int32.ofInt_add x d).symm
  exact lv_iinc hx hb hd hl hkk e1 hn (am_s1_map C' lv n (.inl (w32 (x + d)))) (fun ls2 hl2 => hk C' H locs ls2 ⟨q0, q1, q2, q3, q4, hI, zc_s1_ok (show am_inI _ from am_w_in _) o1, o2, hP, hD, hS⟩ hl2)
theorem zc_c_dup (hG : zc_G X C j n0 k0 S') {v : am_V} (hd : decode (zc_c j) pc = .ok (.dup, 1)) (hv : am_cat v = 1) (hk : zc_W X C j n0 k0 Q S' (pc + 1) lv (v :: v :: st) S) : zc_W X C j n0 k0 Q S' pc lv (v :: st) S := by
  obtain ⟨p, l, e, R, s, m, args, below, meth, c⟩ := X
  obtain ⟨hx, hb, hml, hown, hts, hK, hcx, hA, hRf, hRl, hin, hret, hlk, hRc, hRs⟩ := hG
  intro C' H locs ls ⟨q0, q1, q2, q3, q4, hI, o1, o2, hP, hD, hS⟩ hl
  exact lv_dup hx hb hd (by rw [am_v_cat]; exact hv) (hk C' H locs ls ⟨q0, q1, q2, q3, q4, hI, o1, zc_oc (zc_oh o2) o2, hP, hD, hS⟩ hl)
theorem zc_c_goto (hG : zc_G X C j n0 k0 S') {off : Int} (hd : decode (zc_c j) pc = .ok (.goto off, 3)) (hp : 0 ≤ (pc : Int) + off) (hk : zc_W X C j n0 k0 Q S' (am_to pc off) lv st S) : zc_W X C j n0 k0 Q S' pc lv st S := by
  obtain ⟨p, l, e, R, s, m, args, below, meth, c⟩ := X
  obtain ⟨hx, hb, hml, hown, hts, hK, hcx, hA, hRf, hRl, hin, hret, hlk, hRc, hRs⟩ := hG
  intro C' H locs ls ⟨q0, q1, q2, q3, q4, hI, o1, o2, hP, hD, hS⟩ hl
  exact lv_goto hx hb hd (am_to_eq hp) (hk C' H locs ls ⟨q0, q1, q2, q3, q4, hI, o1, o2, hP, hD, hS⟩ hl)
theorem zc_c_ge (hG : zc_G X C j n0 k0 S') {off : Int} {x y : Int} (hd : decode (zc_c j) pc = .ok (.if_icmp .ge off, 3)) (hp : 0 ≤ (pc : Int) + off) (hk : if x < y then zc_W X C j n0 k0 Q S' (pc + 3) lv st S else zc_W X C j n0 k0 Q S' (am_to pc off) lv st S) : zc_W X C j n0 k0 Q S' pc lv (.inl y :: .inl x :: st) S := by
  obtain ⟨p, l, e, R, s, m, args, below, meth, c⟩ := X
  obtain ⟨hx, hb, hml, hown, hts, hK, hcx, hA, hRf, hRl, hin, hret, hlk, hRc, hRs⟩ := hG
  intro C' H locs ls ⟨q0, q1, q2, q3, q4, hI, o1, o2, hP, hD, hS⟩ hl
  have hX : am_inI x := zc_oh (zc_ot o2)
  have hY : am_inI y := zc_oh o2
  have o3 := zc_ot (zc_ot o2)
  refine lv_icmp_ge hx hb hd (am_to_eq hp) (fun h => ?_) (fun h => ?_)
  · rw [if_neg (fun z => by rw [am_le32 hY hX] at h; omega)] at hk
    exact hk C' H locs ls ⟨q0, q1, q2, q3, q4, hI, o1, o3, hP, hD, hS⟩ hl
  · rw [if_pos (by rw [am_le32 hY hX] at h; omega)] at hk
    exact hk C' H locs ls ⟨q0, q1, q2, q3, q4, hI, o1, o3, hP, hD, hS⟩ hl
theorem zc_va {A : Nat → Prop} {ws ws' : va_W} (h : va_D A ws) (e : ws = ws') : va_D A ws' := e ▸ h
theorem zc_c_getfield (hG : zc_G X C j n0 k0 S') {x t o : Nat} {q : Nat × Nat × Nat × Nat} (hd : decode (zc_c j) pc = .ok (.getfield x, 3)) (hq : tb_f j x = some q) (ht : t = q.1) (h5 : q.2.2.1 = 5) (hs : S.2.2.1 o q.2.1 = true) (hcl : am_cls (am_ref o q.2.1) = q.2.2.2) (hk : zc_W X C j n0 k0 Q S' (pc + 3) lv (.inr (.inr (q.2.2.2, am_ref o q.2.1)) :: st) S) : zc_W X C j n0 k0 Q S' pc lv (.inr (.inr (t, o)) :: st) S := by
  obtain ⟨p, l, e, R, s, m, args, below, meth, c⟩ := X
  obtain ⟨hx, hb, hml, hown, hts, hK, hcx, hA, hRf, hRl, hin, hret, hlk, hRc, hRs⟩ := hG
  intro C' H locs ls ⟨q0, q1, q2, q3, q4, hI, o1, o2, hP, hD, hS⟩ hl
  subst ht
  obtain ⟨f1, f2, f3, f4, w, f5, f6⟩ := am_f_ok hq
  obtain ⟨Cn, T, N, ty, c1, c2, c3, c4, c5, c6⟩ := am_co q.1 f1
  obtain ⟨w0, w1, w2⟩ := zc_oh o2
  have w1 : o < S.1 := w1
  have e5 : w = .fieldLink (am_cn j) x Cn (T q.2.1).2.1 (T q.2.1).2.2.1 := by
    unfold am_lnk at f5
    rw [c1] at f5
    exact (Option.some.inj f5).symm
  subst e5
  have hk2 : q.2.1 < N := by rw [c2]; exact f2
  have hr30 : q.2.2.2 < 30 := (f4 h5).2
  have hv : zc_ok S.1 (.inr (.inr (q.2.2.2, am_ref o q.2.1))) := ⟨hr30, (hI.1 _ _ hs).2, hcl⟩
  have hz := hk C' H locs ls ⟨q0, q1, q2, q3, q4, hI, o1, zc_oc hv (zc_ot o2), hP, hD, hS⟩ hl
  rw [List.map_cons, zc_ra C' hr30] at hz
  rw [List.map_cons, zc_ra C' w0]
  refine va_get (D := C.1) (ci := q.1) (v := .ref (C'.2.2.1 (am_ref o q.2.1))) (C := Cn) (T := T) (N := N) hx hb hts c3 hown hK hP o (fs := zc_fs C' S.2.2.1 S.2.2.2 o q.1) ?_ c1 q.2.1 hk2 (hts _ f6) (fun _ h9 => by rw [(c6 _ hk2).1] at h9; exact h9) ?_ hd hz
  · rw [zc_ws_at C' S w1, zc_cell_o C' _ _ w2 (by omega)]
  · rw [zc_fs_at C' _ _ o q.1 f2, zc_fv_r C' _ _ (by rw [← f3, h5]) hs]
theorem zc_c_putref (hG : zc_G X C j n0 k0 S') {x t o tv v : Nat} {q : Nat × Nat × Nat × Nat} (hd : decode (zc_c j) pc = .ok (.putfield x, 3)) (hq : tb_f j x = some q) (ht : t = q.1) (htj : q.1 = j) (h5 : q.2.2.1 = 5) (hv : v = am_ref o q.2.1) (hfn : am_fn q.1 q.2.1 = true) (hk : zc_W X C j n0 k0 Q S' (pc + 3) lv st (S.1, S.2.1, zc_us S.2.2.1 o q.2.1, S.2.2.2)) : zc_W X C j n0 k0 Q S' pc lv (.inr (.inr (tv, v)) :: .inr (.inr (t, o)) :: st) S := by
  obtain ⟨p, l, e, R, s, m, args, below, meth, c⟩ := X
  obtain ⟨hx, hb, hml, hown, hts, hK, hcx, hA, hRf, hRl, hin, hret, hlk, hRc, hRs⟩ := hG
  intro C' H locs ls ⟨q0, q1, q2, q3, q4, hI, o1, o2, hP, hD, hS⟩ hl
  subst ht hv
  obtain ⟨f1, f2, f3, f4, w, f5, f6⟩ := am_f_ok hq
  obtain ⟨Cn, T, N, ty, hco⟩ := am_co q.1 f1
  obtain ⟨c1, c2, c3, c4, c5, c6⟩ := hco
  obtain ⟨w0, w1, w2⟩ := zc_oh (zc_ot o2)
  obtain ⟨v0, v1, v2⟩ := zc_oh o2
  have w1 : o < S.1 := w1
  have e5 : w = .fieldLink (am_cn j) x Cn (T q.2.1).2.1 (T q.2.1).2.2.1 := by
    unfold am_lnk at f5
    rw [c1] at f5
    exact (Option.some.inj f5).symm
  subst e5
  have hk2 : q.2.1 < N := by rw [c2]; exact f2
  have f3' : am_ft q.1 q.2.1 = 5 := by rw [← f3, h5]
  have hCn : Cn = am_cn j := by
    have z := zc_cn q.1 f1
    rw [c1, htj] at z
    exact Option.some.inj z
  obtain ⟨d1, d2, d3, d4, d5⟩ := c6 _ hk2
  have hty2 := c4 _ hk2
  have hdv := zc_dv_ok f1 ⟨c1, c2, c3, c4, c5, c6⟩ hk2
  have hnl : defaultValue (ty q.2.1) = .null := by rw [hdv]; simp only [zc_dv, f3']
  have hfit : ∀ a : Nat, narrow (ty q.2.1) (.ref a) = .ref a ∧ fits (ty q.2.1) (.ref a) = true := by
    intro a
    generalize ty q.2.1 = y at hnl
    cases y <;> first | (exact ⟨rfl, rfl⟩) | (cases hnl; done)
  rw [List.map_cons, List.map_cons, zc_ra C' w0, zc_ra C' v0]
  have ec : (Sum.inr (q.1, (zc_fs C' S.2.2.1 S.2.2.2 o q.1).set q.2.1 (.ref (C'.2.2.1 (am_ref o q.2.1)))) : va_E) = zc_cell C' (zc_us S.2.2.1 o q.2.1) S.2.2.2 o := by
    rw [zc_cell_o C' _ _ w2 (by omega), zc_fs_set C' (zc_fv_r C' (zc_us S.2.2.1 o q.2.1) S.2.2.2 f3' (zc_us_at _ _ _)) (fun i hi => zc_fv_us C' _ _ hi)]
  refine va_putF (D := C.1) (ci := q.1) (v := .ref (C'.2.2.1 (am_ref o q.2.1))) (ty := ty q.2.1) (C := Cn) (T := T) (N := N) hx hb hts c3 ty c4 c5 hown hK hP hD hS o (fs := zc_fs C' S.2.2.1 S.2.2.2 o q.1) ?_ c1 q.2.1 hk2 (hts _ f6) (fun _ h9 => by rw [d1] at h9; exact h9) (by rw [d2]; exact hfn) (hin (by omega)) (by rw [d1]; exact hCn) hty2 (hfit _).1 (hfit _).2 (by unfold zc_fs; simpa using f2) hd (fun H1 locs1 hP1 hD1 hS1 => ?_)
  · rw [zc_ws_at C' S w1, zc_cell_o C' _ _ w2 (by omega)]
  · rw [zc_ws_set C' (S := S) (S' := (S.1, S.2.1, zc_us S.2.2.1 o q.2.1, S.2.2.2)) rfl w1 ec (fun a ha => zc_cell_us C' _ _ ha)] at hP1 hD1
    exact hk C' H1 locs1 ls ⟨q0, q1, q2, q3, q4, zc_I_us hI w1 v1, o1, zc_ot (zc_ot o2), hP1, hD1, hS1⟩ hl
theorem zc_c_putint (hG : zc_G X C j n0 k0 S') {x t o : Nat} {v : Int} {q : Nat × Nat × Nat × Nat} (hd : decode (zc_c j) pc = .ok (.putfield x, 3)) (hq : tb_f j x = some q) (ht : t = q.1) (htj : q.1 = j) (hv : q.2.2.1 = 0 ∨ (q.2.2.1 = 2 ∧ (v = 0 ∨ v = 1))) (hk : zc_W X C j n0 k0 Q S' (pc + 3) lv st (S.1, S.2.1, S.2.2.1, am_up S.2.2.2 o q.2.1 v)) : zc_W X C j n0 k0 Q S' pc lv (.inl v :: .inr (.inr (t, o)) :: st) S := by
  obtain ⟨p, l, e, R, s, m, args, below, meth, c⟩ := X
  obtain ⟨hx, hb, hml, hown, hts, hK, hcx, hA, hRf, hRl, hin, hret, hlk, hRc, hRs⟩ := hG
  intro C' H locs ls ⟨q0, q1, q2, q3, q4, hI, o1, o2, hP, hD, hS⟩ hl
  subst ht
  obtain ⟨f1, f2, f3, f4, w, f5, f6⟩ := am_f_ok hq
  obtain ⟨Cn, T, N, ty, hco⟩ := am_co q.1 f1
  obtain ⟨c1, c2, c3, c4, c5, c6⟩ := hco
  obtain ⟨w0, w1, w2⟩ := zc_oh (zc_ot o2)
  have w1 : o < S.1 := w1
  have e5 : w = .fieldLink (am_cn j) x Cn (T q.2.1).2.1 (T q.2.1).2.2.1 := by
    unfold am_lnk at f5
    rw [c1] at f5
    exact (Option.some.inj f5).symm
  subst e5
  have hk2 : q.2.1 < N := by rw [c2]; exact f2
  have hCn : Cn = am_cn j := by
    have z := zc_cn q.1 f1
    rw [c1, htj] at z
    exact Option.some.inj z
  obtain ⟨d1, d2, d3, d4, d5⟩ := c6 _ hk2
  have hty2 := c4 _ hk2
  have hft : am_ft q.1 q.2.1 ≠ 1 ∧ am_ft q.1 q.2.1 ≠ 5 := by rw [← f3]; omega
  have hfit : narrow (ty q.2.1) (.int (Int32.ofInt v)) = .int (Int32.ofInt v) ∧ fits (ty q.2.1) (.int (Int32.ofInt v)) = true := by
    rcases hv with h0 | ⟨h2, rfl | rfl⟩
    · rw [d3 (by rw [← f3, h0])]; exact ⟨rfl, rfl⟩
    · rw [d5 (by rw [← f3, h2])]; exact ⟨rfl, rfl⟩
    · rw [d5 (by rw [← f3, h2])]; exact ⟨rfl, rfl⟩
  have ea : (Value.int (Int32.ofInt v)) = am_v C' (.inl v) := rfl
  rw [List.map_cons, List.map_cons, zc_ra C' w0, ← ea]
  have ec : (Sum.inr (q.1, (zc_fs C' S.2.2.1 S.2.2.2 o q.1).set q.2.1 (.int (Int32.ofInt v))) : va_E) = zc_cell C' S.2.2.1 (am_up S.2.2.2 o q.2.1 v) o := by
    rw [zc_cell_o C' _ _ w2 (by omega), zc_fs_set C' (σ' := S.2.2.1) (μ' := am_up S.2.2.2 o q.2.1 v) (by rw [zc_fv_n C' _ _ hft.1 hft.2, am_up_self]) (fun i hi => zc_fv_um C' _ _ hi)]
  have key : ∀ (H1 : Heap) (locs1 : List Loc), va_P C.1 am_cl ((zc_ws C' S).set o (C'.2.2.1 o, .inr (q.1, (zc_fs C' S.2.2.1 S.2.2.2 o q.1).set q.2.1 (.int (Int32.ofInt v))))) H1 → va_D C.2.2.2.1 ((zc_ws C' S).set o (C'.2.2.1 o, .inr (q.1, (zc_fs C' S.2.2.1 S.2.2.2 o q.1).set q.2.1 (.int (Int32.ofInt v))))) → va_S C.2.2.2.1 s.heap H1 locs1 → W p l e R s m args below meth c H1 locs1 (S.1 - n0) (S.2.1 - k0) Q (F0 m (pc + 3) ls (st.map (am_v C'))) := by
    intro H1 locs1 hP1 hD1 hS1
    rw [zc_ws_set C' (S := S) (S' := (S.1, S.2.1, S.2.2.1, am_up S.2.2.2 o q.2.1 v)) rfl w1 ec (fun a ha => zc_cell_um C' _ _ ha)] at hP1 hD1
    exact hk C' H1 locs1 ls ⟨q0, q1, q2, q3, q4, zc_I_up hI w1 (by have w2 : am_cls o = q.1 := w2; omega), o1, zc_ot (zc_ot o2), hP1, hD1, hS1⟩ hl
  have hat : (zc_ws C' S)[o]? = some (C'.2.2.1 o, .inr (q.1, zc_fs C' S.2.2.1 S.2.2.2 o q.1)) := by rw [zc_ws_at C' S w1, zc_cell_o C' _ _ w2 (by omega)]
  by_cases hfn : am_fn q.1 q.2.1 = true
  · exact va_putF (D := C.1) (ci := q.1) (v := .int (Int32.ofInt v)) (ty := ty q.2.1) (C := Cn) (T := T) (N := N) hx hb hts c3 ty c4 c5 hown hK hP hD hS o (fs := zc_fs C' S.2.2.1 S.2.2.2 o q.1) hat c1 q.2.1 hk2 (hts _ f6) (fun _ h9 => by rw [d1] at h9; exact h9) (by rw [d2]; exact hfn) (hin (by omega)) (by rw [d1]; exact hCn) hty2 hfit.1 hfit.2 (by unfold zc_fs; simpa using f2) hd key
  · exact va_put (D := C.1) (ci := q.1) (v := .int (Int32.ofInt v)) (ty := ty q.2.1) (C := Cn) (T := T) (N := N) hx hb hts c3 ty c4 c5 hown hK hP hD hS o (fs := zc_fs C' S.2.2.1 S.2.2.2 o q.1) hat c1 q.2.1 hk2 (hts _ f6) (fun _ h9 => by rw [d1] at h9; exact h9) (by rw [d2]; simpa using hfn) hty2 hfit.1 hfit.2 (by unfold zc_fs; simpa using f2) hd key
/-- the array classes' places -/
theorem zc_tys (C : am_C) {t : Nat} (h : 16 ≤ t) (h2 : t ≤ 22) : ∃ ty, (am_tys C)[t - 16]? = some (C.2.1 t, ty) ∧ (t < 21 → ty = zc_ty t) ∧ (t = 21 → ty = .object RA3) ∧ (t = 22 → ty = .object RA5) := by
  obtain rfl | rfl | rfl | rfl | rfl | rfl | rfl : t = 16 ∨ t = 17 ∨ t = 18 ∨ t = 19 ∨ t = 20 ∨ t = 21 ∨ t = 22 := by omega
  · exact ⟨_, rfl, fun _ => rfl, fun h => by omega, fun h => by omega⟩
  · exact ⟨_, rfl, fun _ => rfl, fun h => by omega, fun h => by omega⟩
  · exact ⟨_, rfl, fun _ => rfl, fun h => by omega, fun h => by omega⟩
  · exact ⟨_, rfl, fun _ => rfl, fun h => by omega, fun h => by omega⟩
  · exact ⟨_, rfl, fun _ => rfl, fun h => by omega, fun h => by omega⟩
  · exact ⟨_, rfl, fun h => by omega, fun _ => rfl, fun h => by omega⟩
  · exact ⟨_, rfl, fun h => by omega, fun h => by omega, fun _ => rfl⟩
theorem zc_c_alen (hG : zc_G X C j n0 k0 S') {t o : Nat} (hd : decode (zc_c j) pc = .ok (.arraylength, 1)) (ht : 16 ≤ t ∧ t ≤ 22) (hk : zc_W X C j n0 k0 Q S' (pc + 1) lv (.inl (am_len o) :: st) S) : zc_W X C j n0 k0 Q S' pc lv (.inr (.inr (t, o)) :: st) S := by
  obtain ⟨p, l, e, R, s, m, args, below, meth, c⟩ := X
  obtain ⟨hx, hb, hml, hown, hts, hK, hcx, hA, hRf, hRl, hin, hret, hlk, hRc, hRs⟩ := hG
  intro C' H locs ls ⟨q0, q1, q2, q3, q4, hI, o1, o2, hP, hD, hS⟩ hl
  obtain ⟨w0, w1, w2⟩ := zc_oh o2
  obtain ⟨ty, t1, -⟩ := zc_tys C ht.1 ht.2
  rw [List.map_cons, zc_ra C' w0]
  have hlen := am_len_lt o
  refine va_alen (D := C.1) hx hb hK hP o (t - 16) (x := (am_len o, zc_arr C' S.2.2.1 S.2.2.2 o (am_ft t 0))) (by rw [zc_ws_at C' S w1, zc_cell_a C' _ _ w2 (by omega), q0.2.1]) t1 rfl hd ?_
  exact hk C' H locs ls ⟨q0, q1, q2, q3, q4, hI, o1, zc_oc (show am_inI _ by unfold am_inI; omega) (zc_ot o2), hP, hD, hS⟩ hl
theorem zc_c_aastore (hG : zc_G X C j n0 k0 S') {t o tv v : Nat} {i : Int} (hd : decode (zc_c j) pc = .ok (.aastore, 1)) (ht : (t = 21 ∧ tv = 3) ∨ (t = 22 ∧ tv = 5)) (hi : 0 ≤ i ∧ i < am_len o) (hv : v = am_ref o i.toNat) (hk : zc_W X C j n0 k0 Q S' (pc + 1) lv st (S.1, S.2.1, zc_us S.2.2.1 o i.toNat, S.2.2.2)) : zc_W X C j n0 k0 Q S' pc lv (.inr (.inr (tv, v)) :: .inl i :: .inr (.inr (t, o)) :: st) S := by
  obtain ⟨p, l, e, R, s, m, args, below, meth, c⟩ := X
  obtain ⟨hx, hb, hml, hown, hts, hK, hcx, hA, hRf, hRl, hin, hret, hlk, hRc, hRs⟩ := hG
  intro C' H locs ls ⟨q0, q1, q2, q3, q4, hI, o1, o2, hP, hD, hS⟩ hl
  obtain ⟨w0, w1, w2⟩ := zc_oh (zc_ot (zc_ot o2))
  obtain ⟨v0, v1, v2⟩ := zc_oh o2
  have w1 : o < S.1 := w1
  have v1 : v < S.1 := v1
  have hi0 : am_inI i := zc_oh (zc_ot o2)
  obtain ⟨vi1, vi2⟩ := am_vpin hi0 hi
  obtain ⟨ty, t1, -, t2, t3⟩ := zc_tys C (t := t) (by omega) (by omega)
  obtain ⟨Cn, T, N, ty1, c1, -⟩ := am_co tv (by omega)
  have hty : ty = .object Cn := by
    rcases ht with ⟨rfl, rfl⟩ | ⟨rfl, rfl⟩
    · rw [t2 rfl]
      have z := zc_cn 3 (by decide)
      rw [c1] at z
      have z : Cn = am_cn 3 := Option.some.inj z
      rw [z]
      rfl
    · rw [t3 rfl]
      have z := zc_cn 5 (by decide)
      rw [c1] at z
      have z : Cn = am_cn 5 := Option.some.inj z
      rw [z]
      rfl
  have hf5 : am_ft t 0 = 5 := by rcases ht with ⟨rfl, -⟩ | ⟨rfl, -⟩ <;> rfl
  have hca : zc_cell C' S.2.2.1 S.2.2.2 o = .inl (C.2.1 t, am_len o, .inr (.inr (.inr (.inr (fun i => if S.2.2.1 o i = true then some (C'.2.2.1 (am_ref o i)) else none))))) := by
    rw [zc_cell_a C' _ _ w2 (by omega), q0.2.1, hf5]
    rfl
  have ea : am_v C' (.inl i) = .int (Int32.ofInt i) := rfl
  rw [List.map_cons, List.map_cons, List.map_cons, zc_ra C' w0, zc_ra C' v0, ea]
  refine va_astq (D := C.1) hx hb hK hP hD hS o (t - 16) v tv (r := (Cn, T, N)) (f := fun i => if S.2.2.1 o i = true then some (C'.2.2.1 (am_ref o i)) else none) (by rw [zc_ws_at C' S w1, hca]) (by rw [t1, hty]) (by rw [zc_ws_at C' S v1, zc_cell_o C' _ _ v2 (by omega)]) c1 vi1 hd (fun H1 locs1 hP1 hD1 hS1 => ?_)
  have ec : (.inl (C.2.1 t, am_len o, .inr (.inr (.inr (.inr (va_up (fun i => if S.2.2.1 o i = true then some (C'.2.2.1 (am_ref o i)) else none) (Int32.ofInt i).toNatClampNeg (some (C'.2.2.1 v))))))) : va_E) = zc_cell C' (zc_us S.2.2.1 o i.toNat) S.2.2.2 o := by
    rw [zc_cell_a C' _ _ w2 (by omega), q0.2.1, hf5, vi2, hv]
    show _ = (.inl (C.2.1 t, am_len o, .inr (.inr (.inr (.inr (fun k => if zc_us S.2.2.1 o i.toNat o k = true then some (C'.2.2.1 (am_ref o k)) else none))))) : va_E)
    congr 7
    funext k
    unfold va_up zc_us
    rw [if_pos rfl]
    by_cases hki : k = i.toNat
    · subst hki
      simp
    · simp [hki]
  rw [zc_ws_set C' (S := S) (S' := (S.1, S.2.1, zc_us S.2.2.1 o i.toNat, S.2.2.2)) rfl w1 ec (fun a ha => zc_cell_us C' _ _ ha)] at hP1 hD1
  exact hk C' H1 locs1 ls ⟨q0, q1, q2, q3, q4, zc_I_us hI w1 (by rw [← hv]; exact v1), o1, zc_ot (zc_ot (zc_ot o2)), hP1, hD1, hS1⟩ hl
theorem zc_dfs (C : am_C) {S : zc_S} (hI : zc_I S) (t : Nat) : (List.range (am_nf t)).map (zc_dv t) = zc_fs C S.2.2.1 S.2.2.2 S.1 t :=
  List.map_congr_left (fun k _ => (zc_fv_0 C hI t k).symm)
theorem zc_c_new (hG : zc_G X C j n0 k0 S') {x t : Nat} (hd : decode (zc_c j) pc = .ok (.new x, 3)) (hn : zc_fd zc_newL j x = some t) (ht : t < 12) (hcl : am_cls S.1 = t) (h1 : S.1 + 1 ≤ S'.1) (h2 : S.2.1 + am_nf t ≤ S'.2.1) (hk : zc_W X C j n0 k0 Q S' (pc + 3) lv (.inr (.inr (t, S.1)) :: st) (S.1 + 1, S.2.1 + am_nf t, S.2.2)) : zc_W X C j n0 k0 Q S' pc lv st S := by
  obtain ⟨p, l, e, R, s, m, args, below, meth, c⟩ := X
  obtain ⟨hx, hb, hml, hown, hts, hK, hcx, hA, hRf, hRl, hin, hret, hlk, hRc, hRs⟩ := hG
  intro C' H locs ls ⟨q0, q1, q2, q3, q4, hI, o1, o2, hP, hD, hS⟩ hl
  obtain ⟨Cn, T, N, ty, hco⟩ := am_co t ht
  obtain ⟨c1, c2, c3, c4, c5, c6⟩ := hco
  have hCn : Cn = am_cn t := by
    have z := zc_cn t ht
    rw [c1] at z
    exact Option.some.inj z
  have hN : N = am_nf t := c2
  refine va_new (D := C.1) (ci := t) (fs := (List.range (am_nf t)).map (zc_dv t)) (C := Cn) (T := T) (N := N) hx hb hts c3 ty c4 hown (by rw [hCn]; exact hts _ (zc_new_ok hn)) (by rw [hCn, hN]; exact hts _ (zc_w1 ht)) (by rw [hCn]; exact hts _ (zc_w2 ht)) hK hP hD hS hA c1 (fun i hi => ?_) (by omega) (by omega) hd (fun q H1 hP1 hD1 hS1 => ?_)
  · rw [zc_dv_ok ht ⟨c1, c2, c3, c4, c5, c6⟩ hi]
    show _ = (List.map (zc_dv t) (List.range (am_nf t))).getD i _
    rw [List.getD_eq_getElem?_getD, List.getElem?_map, List.getElem?_range (by omega)]
    rfl
  · have ew : (Sum.inr (t, (List.range (am_nf t)).map (zc_dv t)) : va_E) = zc_cell (zc_up C' S.1 q) S.2.2.1 S.2.2.2 S.1 := by
      rw [zc_cell_o _ _ _ hcl (by omega), zc_dfs (zc_up C' S.1 q) hI t]
    rw [zc_ws_push C' hI (k := S.2.1 + am_nf t) ew] at hP1 hD1
    have e1 : S.1 - n0 + 1 = S.1 + 1 - n0 := by omega
    have e2 : S.2.1 - k0 + N = S.2.1 + am_nf t - k0 := by omega
    rw [e1, e2]
    have hz := hk (zc_up C' S.1 q) H1 locs ls ⟨zc_eq_tr (zc_eq_up C' S.1 q) q0 q1, by show n0 ≤ S.1 + 1; omega, by show k0 ≤ S.2.1 + am_nf t; omega, h1, h2, zc_I_push hI _, fun q hq => zc_okl_mono (o1 q hq) (Nat.le_succ _), zc_oc (show zc_ok (S.1 + 1) (.inr (.inr (t, S.1))) from ⟨by show t < 30; omega, Nat.lt_succ_self _, hcl⟩) (fun v hv => zc_ok_mono (o2 v hv) (Nat.le_succ _)), hP1, hD1, hS1⟩ (by rw [zc_lv_eq (zc_eq_up C' S.1 q) o1]; exact hl)
    rw [List.map_cons, zc_ra _ (by omega), zc_st_eq (zc_eq_up C' S.1 q) o2] at hz
    have eq1 : (zc_up C' S.1 q).2.2.1 S.1 = q := by show (if S.1 = S.1 then q else _) = q; rw [if_pos rfl]
    rw [eq1] at hz
    exact hz
theorem zc_rng {n : Nat} (h : n < 2 ^ 31) : am_inI (n : Int) ∧ ¬ Int32.ofInt (n : Int) < 0 ∧ (Int32.ofInt (n : Int)).toNatClampNeg = n := by
  have hi : am_inI (n : Int) := by unfold am_inI; omega
  have e := am_i_of hi
  refine ⟨hi, ?_, ?_⟩
  · rw [Int32.lt_iff_toInt_lt, e]
    show ¬ (n : Int) < (0 : Int32).toInt
    rw [show (0 : Int32).toInt = 0 from rfl]
    omega
  · have z : (Int32.ofInt (n : Int)).toNatClampNeg = (Int32.ofInt (n : Int)).toInt.toNat := rfl
    rw [z, e]
    rfl
theorem zc_arr0 (C : am_C) {S : zc_S} (hI : zc_I S) {t : Nat} (ht : 16 ≤ t) (ht2 : t < 21) (cA : ClassId) : vp_cell cA (am_len S.1, zc_arr C S.2.2.1 S.2.2.2 S.1 (am_ft t 0)) = arrV cA (am_len S.1) (fun _ => defaultValue (zc_ty t)) := by
  have e1 : ∀ k, S.2.2.2 S.1 k = 0 := fun k => hI.2.1 _ _ (Nat.le_refl _)
  have e2 : zc_arr C S.2.2.1 S.2.2.2 S.1 (am_ft t 0) = if t = 17 then .inr (.inl (fun _ => 0)) else .inl (fun _ => 0) := by
    obtain rfl | rfl | rfl | rfl | rfl : t = 16 ∨ t = 17 ∨ t = 18 ∨ t = 19 ∨ t = 20 := by omega
    · show Sum.inl _ = _
      rw [if_neg (by decide)]
      congr 1
      funext i
      rw [e1]
      rfl
    · show Sum.inr (Sum.inl _) = _
      rw [if_pos rfl]
      congr 2
      funext i
      rw [e1]
      rfl
    · show Sum.inl _ = _
      rw [if_neg (by decide)]
      congr 1
      funext i
      rw [e1]
      rfl
    · show Sum.inl _ = _
      rw [if_neg (by decide)]
      congr 1
      funext i
      rw [e1]
      rfl
    · show Sum.inl _ = _
      rw [if_neg (by decide)]
      congr 1
      funext i
      rw [e1]
      rfl
  rw [e2]
  obtain rfl | rfl | rfl | rfl | rfl : t = 16 ∨ t = 17 ∨ t = 18 ∨ t = 19 ∨ t = 20 := by omega
  all_goals rfl
def zc_cb (t : Nat) : Bool := componentBytes (zc_ty t) ≤ 8
theorem zc_cb_all : ∀ t, t < 21 → zc_cb t = true := by decide +kernel
theorem zc_len_lt (o : Nat) : am_len o < 10000 := by
  unfold am_len
  have h : ∀ x ∈ am_lenL, x < 10000 := by decide +kernel
  rcases am_getD am_lenL o 0 with z | z
  · exact h _ z
  · rw [z]; decide
theorem zc_at_ty : ∀ y : ArrayType, zc_at y < 21 → newarray.typeOf y = zc_ty (zc_at y) := by
  intro y; cases y <;> first | (intro _; rfl) | (intro h; exact absurd h (by decide))
theorem zc_at_ge : ∀ y : ArrayType, 16 ≤ zc_at y := by intro y; cases y <;> decide
theorem zc_RA {U : State} {a b : ClassId} {t : Nat} (ht : t < 21) (h1 : va_RA U a (zc_ty t)) (h2 : va_RA U b (zc_ty t)) : a = b := by
  have h : ∀ y : FieldType, (∀ Cn, y ≠ .object Cn) → va_RA U a y → va_RA U b y → a = b := by
    intro y hy h1 h2
    cases y
    case object Cn => exact absurd rfl (hy Cn)
    all_goals exact Option.some.inj ((show U.vm.findClass _ = some a from h1).symm.trans (show U.vm.findClass _ = some b from h2))
  refine h _ ?_ h1 h2
  intro Cn
  unfold zc_ty
  split <;> intro q <;> cases q
theorem zc_c_newarray (hG : zc_G X C j n0 k0 S') {y : ArrayType} (hd : decode (zc_c j) pc = .ok (.newarray y, 2)) (ht : zc_at y < 21) (hcl : am_cls S.1 = zc_at y) (h1 : S.1 + 1 ≤ S'.1) (h2 : S.2.1 + am_len S.1 ≤ S'.2.1) (hk : zc_W X C j n0 k0 Q S' (pc + 2) lv (.inr (.inr (zc_at y, S.1)) :: st) (S.1 + 1, S.2.1 + am_len S.1, S.2.2)) : zc_W X C j n0 k0 Q S' pc lv (.inl (am_len S.1) :: st) S := by
  obtain ⟨p, l, e, R, s, m, args, below, meth, c⟩ := X
  obtain ⟨hx, hb, hml, hown, hts, hK, hcx, hA, hRf, hRl, hin, hret, hlk, hRc, hRs⟩ := hG
  intro C' H locs ls ⟨q0, q1, q2, q3, q4, hI, o1, o2, hP, hD, hS⟩ hl
  have h16 := zc_at_ge y
  have hty := zc_at_ty y ht
  generalize zc_at y = t at *
  have hlen := zc_len_lt S.1
  obtain ⟨n1, n2, n3⟩ := zc_rng (n := am_len S.1) (by omega)
  have hcb : componentBytes (zc_ty t) ≤ 8 := by
    have z := zc_cb_all t ht
    unfold zc_cb at z
    simpa using z
  have hbytes : am_len S.1 * componentBytes (zc_ty t) ≤ 536870912 := by
    have := Nat.mul_le_mul (Nat.le_of_lt hlen) hcb
    omega
  have ea : am_v C' (.inl (am_len S.1)) = .int (Int32.ofInt (am_len S.1)) := rfl
  have o3 := zc_ot o2
  rw [List.map_cons, ea]
  have w5 : Cond.arrayClass (zc_ty t) ∈ am_TS := am_in_1 (zc_q5 t ht h16) rfl
  refine va_newa (D := C.1) (a0 := (am_len S.1, zc_arr C' S.2.2.1 S.2.2.2 S.1 (am_ft t 0))) hx hb (by rw [hty]; exact hts _ w5) hty hK hP hD hS hA (fun cA => zc_arr0 C' hI h16 ht cA) n2 n3 hbytes (by omega) (by omega) hd (fun q cA H1 hK1 hP1 hD1 hS1 => ?_)
  obtain ⟨ty, t1, t2, -⟩ := zc_tys C h16 (by omega)
  have ecA : cA = C.2.1 t := by
    have r1 := (hK.2 (t - 16) _ t1).2
    have r2 := (hK1.2 (am_tys C).length (cA, zc_ty t) (by rw [List.getElem?_append_right (Nat.le_refl _), Nat.sub_self]; rfl)).2
    rw [t2 ht] at r1
    exact zc_RA ht r2 r1
  subst ecA
  have ew : (Sum.inl (C.2.1 t, am_len S.1, zc_arr C' S.2.2.1 S.2.2.2 S.1 (am_ft t 0)) : va_E) = zc_cell (zc_up C' S.1 q) S.2.2.1 S.2.2.2 S.1 := by
    rw [zc_cell_up C' hI _ _ _ (Nat.le_refl _), zc_cell_a _ _ _ hcl (by omega), q0.2.1]
  rw [zc_ws_push C' hI (k := S.2.1 + am_len S.1) ew] at hP1 hD1
  have e1 : S.1 - n0 + 1 = S.1 + 1 - n0 := by omega
  have e2 : S.2.1 - k0 + am_len S.1 = S.2.1 + am_len S.1 - k0 := by omega
  rw [e1, e2]
  have hz := hk (zc_up C' S.1 q) H1 locs ls ⟨zc_eq_tr (zc_eq_up C' S.1 q) q0 q1, by show n0 ≤ S.1 + 1; omega, by show k0 ≤ S.2.1 + am_len S.1; omega, h1, h2, zc_I_push hI _, fun q hq => zc_okl_mono (o1 q hq) (Nat.le_succ _), zc_oc (show zc_ok (S.1 + 1) (.inr (.inr (t, S.1))) from ⟨by show t < 30; omega, Nat.lt_succ_self _, hcl⟩) (fun v hv => zc_ok_mono (o3 v hv) (Nat.le_succ _)), hP1, hD1, hS1⟩ (by rw [zc_lv_eq (zc_eq_up C' S.1 q) o1]; exact hl)
  rw [List.map_cons, zc_ra _ (by omega), zc_st_eq (zc_eq_up C' S.1 q) o3] at hz
  have eq1 : (zc_up C' S.1 q).2.2.1 S.1 = q := by show (if S.1 = S.1 then q else _) = q; rw [if_pos rfl]
  rw [eq1] at hz
  exact hz
theorem zc_c_anew (hG : zc_G X C j n0 k0 S') {x t t2 : Nat} (hd : decode (zc_c j) pc = .ok (.anewarray x, 3)) (hn : zc_fd zc_newL j x = some t2) (ht : (t = 21 ∧ t2 = 3) ∨ (t = 22 ∧ t2 = 5)) (hcl : am_cls S.1 = t) (h1 : S.1 + 1 ≤ S'.1) (h2 : S.2.1 + am_len S.1 ≤ S'.2.1) (hk : zc_W X C j n0 k0 Q S' (pc + 3) lv (.inr (.inr (t, S.1)) :: st) (S.1 + 1, S.2.1 + am_len S.1, S.2.2)) : zc_W X C j n0 k0 Q S' pc lv (.inl (am_len S.1) :: st) S := by
  obtain ⟨p, l, e, R, s, m, args, below, meth, c⟩ := X
  obtain ⟨hx, hb, hml, hown, hts, hK, hcx, hA, hRf, hRl, hin, hret, hlk, hRc, hRs⟩ := hG
  intro C' H locs ls ⟨q0, q1, q2, q3, q4, hI, o1, o2, hP, hD, hS⟩ hl
  have hlen := zc_len_lt S.1
  obtain ⟨n1, n2, n3⟩ := zc_rng (n := am_len S.1) (by omega)
  have ea : am_v C' (.inl (am_len S.1)) = .int (Int32.ofInt (am_len S.1)) := rfl
  have o3 := zc_ot o2
  rw [List.map_cons, ea]
  have hAO : va_AO (am_cn t2) s := by
    rcases ht with ⟨-, rfl⟩ | ⟨-, rfl⟩
    · exact hcx.1
    · exact hcx.2.1
  refine va_newq (D := C.1) hx hb hown (hts _ (zc_new_ok hn)) hAO hK hP hD hS hA n2 n3 (by omega) (by omega) (by omega) hd (fun q cA H1 hK1 hP1 hD1 hS1 => ?_)
  obtain ⟨ty, t1, -, t3, t4⟩ := zc_tys C (t := t) (by omega) (by omega)
  have ety : ty = .object (am_cn t2) := by
    rcases ht with ⟨rfl, rfl⟩ | ⟨rfl, rfl⟩
    · exact t3 rfl
    · exact t4 rfl
  have ecA : cA = C.2.1 t := by
    have r1 := (hK.2 (t - 16) _ t1).2
    have r2 := (hK1.2 (am_tys C).length (cA, .object (am_cn t2)) (by rw [List.getElem?_append_right (Nat.le_refl _), Nat.sub_self]; rfl)).2
    rw [ety] at r1
    obtain ⟨-, -, -, -, -, r1⟩ := r1
    obtain ⟨-, -, -, -, -, r2⟩ := r2
    exact Option.some.inj (r2.symm.trans r1)
  subst ecA
  have hf5 : am_ft t 0 = 5 := by rcases ht with ⟨rfl, -⟩ | ⟨rfl, -⟩ <;> rfl
  have ew : (.inl (C.2.1 t, am_len S.1, .inr (.inr (.inr (.inr (fun _ => none))))) : va_E) = zc_cell (zc_up C' S.1 q) S.2.2.1 S.2.2.2 S.1 := by
    rw [zc_cell_up C' hI _ _ _ (Nat.le_refl _), zc_cell_a _ _ _ hcl (by omega), q0.2.1, hf5]
    show _ = (.inl (C.2.1 t, am_len S.1, .inr (.inr (.inr (.inr (fun k => if S.2.2.1 S.1 k = true then some (C'.2.2.1 (am_ref S.1 k)) else none))))) : va_E)
    congr 7
    funext k
    rw [if_neg (fun h => absurd (hI.1 _ _ h).1 (Nat.lt_irrefl _))]
  rw [zc_ws_push C' hI (k := S.2.1 + am_len S.1) ew] at hP1 hD1
  have e1 : S.1 - n0 + 1 = S.1 + 1 - n0 := by omega
  have e2 : S.2.1 - k0 + am_len S.1 = S.2.1 + am_len S.1 - k0 := by omega
  rw [e1, e2]
  have hz := hk (zc_up C' S.1 q) H1 locs ls ⟨zc_eq_tr (zc_eq_up C' S.1 q) q0 q1, by show n0 ≤ S.1 + 1; omega, by show k0 ≤ S.2.1 + am_len S.1; omega, h1, h2, zc_I_push hI _, fun q hq => zc_okl_mono (o1 q hq) (Nat.le_succ _), zc_oc (show zc_ok (S.1 + 1) (.inr (.inr (t, S.1))) from ⟨by show t < 30; omega, Nat.lt_succ_self _, hcl⟩) (fun v hv => zc_ok_mono (o3 v hv) (Nat.le_succ _)), hP1, hD1, hS1⟩ (by rw [zc_lv_eq (zc_eq_up C' S.1 q) o1]; exact hl)
  rw [List.map_cons, zc_ra _ (by omega), zc_st_eq (zc_eq_up C' S.1 q) o3] at hz
  have eq1 : (zc_up C' S.1 q).2.2.1 S.1 = q := by show (if S.1 = S.1 then q else _) = q; rw [if_pos rfl]
  rw [eq1] at hz
  exact hz
theorem zc_c_return (hj : j < 12) (hG : zc_G X C j n0 k0 S) (hd : decode (zc_c j) pc = .ok (.return_, 1)) : zc_W X C j n0 k0 (zc_E X C n0 k0 S) S pc lv [] S := by
  obtain ⟨p, l, e, R, s, m, args, below, meth, c⟩ := X
  obtain ⟨hx, hb, hml, hown, hts, hK, hcx, hA, hRf, hRl, hin, hret, hlk, hRc, hRs⟩ := hG
  intro C' H locs ls ⟨q0, q1, q2, q3, q4, hI, o1, o2, hP, hD, hS⟩ hl
  exact W.vret hx hb (hret hj) (fun t ht hW => ⟨rfl, ⟨C', q0, by rw [ht]; exact hP, hD, hI⟩, by rw [← ht] at hS; exact ⟨hS.1, hS.2.1⟩⟩) hS.2.2 hd hlk
theorem zc_c_object (hG : zc_G X C j n0 k0 S') {x t u o : Nat} (hj : 1 ≤ zc_d j ∧ 12 ≤ zc_r j) (hd : decode (zc_c j) pc = .ok (.invokespecial x, 3)) (hn : zc_fd zc_objL j x = some u) (hk : zc_W X C j n0 k0 Q S' (pc + 3) lv [] S) : zc_W X C j n0 k0 Q S' pc lv [.inr (.inr (t, o))] S := by
  obtain ⟨p, l, e, R, s, m, args, below, meth, c⟩ := X
  obtain ⟨hx, hb, hml, hown, hts, hK, hcx, hA, hRf, hRl, hin, hret, hlk, hRc, hRs⟩ := hG
  intro C' H locs ls ⟨q0, q1, q2, q3, q4, hI, o1, o2, hP, hD, hS⟩ hl
  refine W.objInit hx hb hown (hts _ (zc_obj_ok hn)) (hts _ zc_o1) (hts _ zc_o2) rfl (by rw [hml]; exact hl.1) rfl hd (by omega) ?_ ?_
  · exact Nat.le_trans (Nat.le_of_ble_eq_true rfl) (Nat.le_trans hj.2 hRl)
  · exact hk C' H locs ls ⟨q0, q1, q2, q3, q4, hI, o1, zc_ot o2, hP, hD, hS⟩ hl
def zc_Pc (C : am_C) (S : zc_S) (vs : List am_V) : Array Value → State → Prop := va_Pc (vs.map (am_v C)) (fun U => va_P C.1 am_cl (zc_ws C S) U.heap ∧ va_D C.2.2.2.1 (zc_ws C S) ∧ va_K C.1 am_cl (am_tys C) U ∧ zc_x U ∧ ∀ q, U.heap.size ≤ q → C.2.2.2.1 q)
/-- constructor t leads from S to S1 -/
def zc_Sd (t : Nat) (vs : List am_V) (S S1 : zc_S) : Prop := zc_I S → (∀ v ∈ vs, zc_ok S.1 v) → ∀ (l : Launch) (C : am_C), Met l (zc_y t) (zc_w t) ({ frames := zc_d t, cells := S1.1 - S.1, slots := S1.2.1 - S.2.1, locals := zc_r t } : Room) (zc_Pc C S vs) (zc_Q C S.1 S1) (S1.1 - S.1) (S1.2.1 - S.2.1) C.2.2.2.1
theorem zc_x.next {s U : State} (h : zc_x s) (hW : s.WarmedH U.vm) : zc_x U := ⟨h.1.moved hW.alike, h.2.1.moved hW.alike, va_Nw.warmM hW h.2.2.1, va_Nw.warmM hW h.2.2.2⟩
theorem zc_x.same {s U : State} (h : zc_x s) (e : U.vm = s.vm) : zc_x U := by
  have ha : s.vm.Alike U.vm := by rw [e]; exact Vm.Alike.refl s.vm
  refine ⟨h.1.moved ha, h.2.1.moved ha, ?_, ?_⟩
  · exact va_tabs rfl e.symm h.2.2.1
  · exact va_tabs rfl e.symm h.2.2.2
theorem zc_blind (C : am_C) (S : zc_S) (vs : List am_V) : FrameBlind (zc_Pc C S vs) := by
  intro a U g mk q
  obtain ⟨q0, qP, qD, qK, qx, qA⟩ := q
  exact ⟨q0, qP, qD, va_K.moved (u := U) (U := U.calling g mk a) (Vm.Alike.refl U.vm) qK, qx.same rfl, qA⟩
theorem zc_args_ok {n : Nat} : ∀ (i : Nat) (vs : List am_V), (∀ v ∈ vs, zc_ok n v) → ∀ q ∈ am_args i vs, zc_okl n q.2
  | _, [], _, q, hq => by cases hq
  | i, v :: vs, h, q, hq => by
    rcases List.mem_cons.mp hq with rfl | h2
    · exact Or.inl (h v List.mem_cons_self)
    · exact zc_args_ok _ vs (fun w hw => h w (List.mem_cons_of_mem _ hw)) q h2
theorem zc_cat {n : Nat} : ∀ {st : List am_V}, (∀ v ∈ st, zc_ok n v) → (st.map am_cat).sum = st.length
  | [], _ => rfl
  | v :: r, h => by
    have e : am_cat v = 1 := by
      have := h v List.mem_cons_self
      rcases v with x | x | q
      · rfl
      · exact absurd this id
      · rfl
    rw [List.map_cons, List.sum_cons, zc_cat (fun w hw => h w (List.mem_cons_of_mem _ hw)), e, List.length_cons]
    omega
set_option maxHeartbeats 2000000 in
theorem zc_c_call (hG : zc_G X C j n0 k0 S') {x t o : Nat} {as rest : List am_V} {S1 : zc_S} (hd : decode (zc_c j) pc = .ok (.invokespecial x, 3)) (hn : zc_fd zc_invL j x = some t ∨ (zc_fd zc_invL j x = none ∧ zc_fd zc_nstL j x = some t)) (hdep : zc_d t + 1 ≤ zc_d j ∧ 8 + (zc_l t + 11) + zc_r t ≤ zc_r j) (hst : st = as.reverse ++ .inr (.inr (t, o)) :: rest) (has : as.length = zc_na t) (hrest : rest.length ≤ 8) (hSd : zc_Sd t (.inr (.inr (t, o)) :: as) S S1) (g1 : S.1 ≤ S1.1) (g2 : S.2.1 ≤ S1.2.1) (g3 : S1.1 ≤ S'.1) (g4 : S1.2.1 ≤ S'.2.1) (hk : zc_W X C j n0 k0 Q S' (pc + 3) lv rest S1) : zc_W X C j n0 k0 Q S' pc lv st S := by
  obtain ⟨p, l, e, R, s, m, args, below, meth, c⟩ := X
  obtain ⟨hx, hb, hml, hown, hts, hK, hcx, hA, hRf, hRl, hin, hret, hlk, hRc, hRs⟩ := hG
  intro C' H locs ls ⟨q0, q1, q2, q3, q4, hI, o1, o2, hP, hD, hS⟩ hl
  subst hst
  have hor : zc_ok S.1 (.inr (.inr (t, o))) := o2 _ (List.mem_append_right _ List.mem_cons_self)
  have ho3 : ∀ v ∈ rest, zc_ok S.1 v := fun v hv => o2 v (List.mem_append_right _ (List.mem_cons_of_mem _ hv))
  obtain ⟨D0, g0, a, A, sr⟩ := C
  obtain ⟨D, g, a', AS'⟩ := C'
  obtain ⟨e1, e2, e3, e4⟩ := q0
  dsimp only at e1 e2 e3 e4
  subst e1 e2
  cases e3
  have ht12 : t < 12 := by
    rcases hn with h | ⟨-, h⟩
    · exact (zc_inv_ok h).2
    · obtain ⟨pp, hp⟩ := zc_fd_s h
      have z := of_decide_eq_true (List.all_eq_true.mp zc_nst_all _ hp)
      rcases z with z | z <;> (cases z; decide)
  have hov : ∀ v ∈ (.inr (.inr (t, o)) :: as : List am_V), zc_ok S.1 v := zc_oc hor (fun v hv => o2 v (List.mem_append_left _ (List.mem_reverse.mpr hv)))
  have g3' := hSd hI hov l (D, g, a', A, sr)
  have hpre : PreS s H (zc_Pc (D, g, a', A, sr) S (.inr (.inr (t, o)) :: as)) (.ref (a' o) :: as.map (am_v (D, g, a', A, sr))) := ⟨zc_blind _ S _, fun U hU hW => ⟨by rw [List.map_cons, zc_ra _ hor.1], by rw [hU]; exact hP, hD, va_K.moved hW.alike hK, hcx.next hW, fun q hq => hA q (Nat.le_trans hS.1 (by rw [hU] at hq; exact hq))⟩⟩
  have hroom : 2 * (F0 m pc ls ((as.reverse ++ .inr (.inr (t, o)) :: rest).map (am_v (D, g, a', A, sr)))).monitorRoom + ((rest.map (am_v (D, g, a', A, sr))).map fun v => v.category).sum ≤ 8 := by
    refine lv_room ?_
    rw [List.map_map, show ((fun v : Value => v.category) ∘ am_v (D, g, a', A, sr)) = am_cat from funext (am_v_cat _), zc_cat ho3]
    exact hrest
  have hstk : (F0 m pc ls ((as.reverse ++ .inr (.inr (t, o)) :: rest).map (am_v (D, g, a', A, sr)))).stack = (as.map (am_v (D, g, a', A, sr))).reverse ++ .ref (a' o) :: rest.map (am_v (D, g, a', A, sr)) := by
    show (as.reverse ++ .inr (.inr (t, o)) :: rest).map (am_v (D, g, a', A, sr)) = _
    rw [List.map_append, List.map_cons, zc_ra _ hor.1, List.map_reverse]
  have hpd := zc_yd t ht12
  have hcl : (zc_y t).cls ≠ "java/lang/invoke/MethodHandle" ∧ (zc_y t).cls ≠ "java/lang/invoke/VarHandle" := by
    have z : ∀ t, t < 12 → (zc_y t).cls ≠ "java/lang/invoke/MethodHandle" ∧ (zc_y t).cls ≠ "java/lang/invoke/VarHandle" := by decide +kernel
    exact z t ht12
  have hR2 : (zc_d t) + 1 ≤ R.frames ∧ 8 + (zc_l t + 11) + zc_r t ≤ R.locals := ⟨by omega, by omega⟩
  have hf : S.1 - n0 + (S1.1 - S.1) ≤ R.cells ∧ S.2.1 - k0 + (S1.2.1 - S.2.1) ≤ R.slots := ⟨by omega, by omega⟩
  have hrun : va_Run p l e R s m args below meth c H locs (S.1 - n0) (S.2.1 - k0) (S1.1 - S.1) (S1.2.1 - S.2.1) (F0 m pc ls ((as.reverse ++ .inr (.inr (t, o)) :: rest).map (am_v (D, g, a', A, sr)))) (rest.map (am_v (D, g, a', A, sr))) (zc_Q (D, g, a', A, sr) S.1 S1 (Value.ref (a' o) :: as.map (am_v (D, g, a', A, sr))).toArray) A := by
    rcases hn with h | ⟨-, h⟩
    · exact va_runI (Ts := am_TS) (own := am_cn j) (n := zc_na t) ⟨hx, hb, hml, hown, hts⟩ g3' ⟨callB_of (zc_na t) hts (zc_good t ht12) rfl rfl rfl (hts _ (zc_w2 ht12)) (hts _ (zc_inv_ok h).1) ⟨hcl.1, hcl.2, hpd⟩ hR2, rfl, hts _ (zc_w3 ht12)⟩ hpre rfl (by rw [List.length_map]; exact has) hl.1 hstk hroom hd hf
    · obtain ⟨pp, hp⟩ := zc_fd_s h
      have z := of_decide_eq_true (List.all_eq_true.mp zc_nst_all _ hp)
      have hlink : va_Nw (.methodLinkNest (am_cn j) x (zc_y t) "ChartPress") s := by
        rcases z with z | z
        · cases z; first | exact hcx.2.2.1 | exact hcx.2.2.2
        · cases z; first | exact hcx.2.2.1 | exact hcx.2.2.2
      exact va_runIN (Ts := am_TS) (own := am_cn j) (host := "ChartPress") (n := zc_na t) ⟨hx, hb, hml, hown, hts⟩ g3' ⟨va_cnB (zc_na t) hts (zc_good t ht12) rfl rfl rfl hlink (hts _ (zc_w2 ht12)) ⟨hcl.1, hcl.2, hpd⟩ hR2, rfl, hts _ (zc_w3 ht12)⟩ hpre rfl (by rw [List.length_map]; exact has) hl.1 hstk hroom hd hf
  intro T hT Y
  obtain ⟨v, st₀, tt, T', L, h0, Y', hL, r1, r2, ⟨hv, ⟨C2, eC, hP1, hD1, hI1⟩, ⟨hz, hkp⟩⟩, go⟩ := hrun T hT Y
  have ev : v = none := by cases hv; rfl
  subst ev
  rw [h0] at hz hkp
  have hS1 : va_S A s.heap T'.heap (locs ++ L) := ⟨Nat.le_trans hS.1 (by rw [r1]; exact hz), fun q h1 h2 => by rw [r1, hkp q (Nat.lt_of_lt_of_le h1 hS.1) h2]; exact hS.2.1 q h1 h2, fun q hq => by
      rcases List.mem_append.mp hq with h | h
      · exact hS.2.2 q h
      · exact hL q h⟩
  have hz := hk C2 T'.heap (locs ++ L) ls ⟨zc_eq_tr eC ⟨rfl, rfl, rfl, e4⟩ q1, by omega, by omega, g3, g4, hI1, fun q hq => zc_okl_mono (o1 q hq) g1, fun v hv => zc_ok_mono (ho3 v hv) g1, by rw [r1]; exact hP1, hD1, hS1⟩ (by rw [zc_lv_eq eC o1]; exact hl)
  rw [zc_st_eq eC ho3] at hz
  have e5 : S.1 - n0 + (S1.1 - S.1) = S1.1 - n0 := by omega
  have e6 : S.2.1 - k0 + (S1.2.1 - S.2.1) = S1.2.1 - k0 := by omega
  rw [e5, e6] at Y'
  obtain ⟨t2, a1, b1⟩ := hz T' rfl Y'
  exact ⟨t2, go t2 a1, b1⟩
end CM
