/-! What a good text says. -/
def QI (cols : Nat) (s : QC) : Prop := (s.2.1 = -1 ∨ s.2.1 = 0 ∨ s.2.1 = 1) ∧ (s.2.2.1 = -1 ∨ (0 ≤ s.2.2.1 ∧ s.2.2.1 < (cols : Int))) ∧ (s.2.2.2 = 0 ∨ (3 ≤ s.2.2.2 ∧ s.2.2.2 ≤ 9))
theorem q_cl_QI {fs : List (List Int)} {cols : Nat} {r r' : List (List Int)} {s s' : QC} (h : q_cl fs cols r s = some (r', s')) (hI : QI cols s) : QI cols s' := by
  obtain ⟨i1, i2, i3⟩ := hI
  have cr := colN_rng fs cols (hdW r.tail)
  unfold q_cl at h
  split at h
  · split at h
    · cases h
    · split at h
      · cases h; exact ⟨i1, i2, i3⟩
      · cases h
  · split at h
    · split at h
      · split at h
        · cases h; exact ⟨by dsimp only; omega, i2, i3⟩
        · split at h
          · cases h; exact ⟨by dsimp only; omega, i2, i3⟩
          · cases h
      · cases h
    · split at h
      · split at h
        · split at h
          · cases h
          · cases h; exact ⟨i1, by dsimp only; omega, i3⟩
        · cases h
      · split at h
        · split at h
          · split at h
            · next q => cases h; exact ⟨i1, i2, by dsimp only; omega⟩
            · cases h
          · cases h
        · cases h
theorem q_run_QI {fs : List (List Int)} {cols : Nat} : ∀ (k : Nat) (r : List (List Int)) (s s' : QC), q_run fs cols k r s = some s' → QI cols s → QI cols s'
  | 0, r, s, s', h, hI => by
    unfold q_run at h
    split at h
    · cases h; exact hI
    · cases h
  | k + 1, r, s, s', h, hI => by
    unfold q_run at h
    split at h
    · cases h; exact hI
    · cases hc : q_cl fs cols r s with
      | none => rw [hc] at h; cases h
      | some p => rw [hc] at h; exact q_run_QI k p.1 p.2 s' h (q_cl_QI hc hI)
theorem q_mk_v (w : List Int) : q_mk w = -1 ∨ q_mk w = 0 ∨ q_mk w = 1 ∨ q_mk w = 2 := by
  unfold q_mk
  repeat' split
  all_goals omega
theorem q_me_v (w : List Int) : q_me w = -1 ∨ (0 ≤ q_me w ∧ q_me w ≤ 4) := by
  unfold q_me
  repeat' split
  all_goals omega
theorem q_HS {fs : List (List Int)} {cols recs : Nat} {ws : List (List Int)} {h : Int × Int × Int × Int} {s : QC} (hq : q_good fs cols (sp_ty fs cols recs) ws h s) : ∃ x, HS fs cols recs h s x := by
  obtain ⟨ha, hf, hst⟩ := hq
  unfold q_all at ha
  cases hp : q_hh fs cols (sp_ty fs cols recs) ws with
  | none => rw [hp] at ha; cases ha
  | some p =>
    rw [hp] at ha
    dsimp only at ha
    cases hr : q_run fs cols p.1.length p.1 ([], 0, -1, 0) with
    | none => rw [hr] at ha; cases ha
    | some s1 =>
      rw [hr] at ha
      dsimp only at ha
      injection ha with ha
      injection ha with e1 e2
      obtain ⟨i1, i2, i3⟩ := q_run_QI _ _ _ _ hr ⟨by dsimp only; omega, by dsimp only; omega, by dsimp only; omega⟩
      rw [e2] at i1 i2 i3
      unfold q_hh at hp
      have mv := q_mk_v (hdW ws)
      have cx := colN_rng fs cols (hdW ws.tail.tail)
      split at hp
      · cases hp
      · split at hp
        · next n1 n2 =>
          cases hy : yR fs cols (sp_ty fs cols recs) ws.tail.tail.tail with
          | none => rw [hy] at hp; cases hp
          | some q =>
            rw [hy] at hp
            dsimp only at hp
            injection hp with hp
            rw [← hp] at e1
            dsimp only at e1
            have yf : (q.2.1 = 0 ∧ q.2.2 = -1) ∨ ((q.2.1 ≠ 0 ∧ 0 ≤ q.2.1 ∧ q.2.1 ≤ 4) ∧ 0 ≤ q.2.2 ∧ q.2.2 < (cols : Int) ∧ sp_ty fs cols recs q.2.2.toNat = 1) := by
              have me := q_me_v (hdW ws.tail.tail.tail.tail)
              have cy := colN_rng fs cols (hdW ws.tail.tail.tail.tail.tail)
              unfold yR at hy
              split at hy
              · split at hy
                · cases hy
                · split at hy
                  · injection hy with hy; rw [← hy]; exact Or.inl ⟨rfl, rfl⟩
                  · split at hy
                    · cases hy
                    · split at hy
                      · next m1 m2 m3 m4 => injection hy with hy; rw [← hy]; exact Or.inr ⟨by dsimp only; omega, by dsimp only; omega, by dsimp only; omega, m4⟩
                      · cases hy
              · cases hy
            rw [← e1]
            rw [← e1] at hst
            have hst' : s.2.2.1 = -1 ∨ (q_mk (hdW ws) = 0 ∧ (q.2.1 = 0 ∨ q.2.1 = 1)) := hst
            refine ⟨(colN fs cols (hdW ws.tail.tail)).toNat, ?_, ?_, ?_, ?_, ?_, i1, i2, hst', i3⟩
            · omega
            · dsimp only; omega
            · dsimp only; omega
            · dsimp only; omega
            · dsimp only
              rcases yf with w | ⟨w1, w2, w3, w4⟩
              · exact Or.inl w
              · exact Or.inr ⟨w1.1, w2, w3, w4⟩
        · cases hp
/-! Every value lies on the scale. -/
section OS
variable {seg : Nat → Nat → Int} {S : Nat} {O : List Nat}
theorem e_bar_le : ∀ n k, k < n → (e_bar seg S O n).1 ≤ e_bl seg S (O.getD k 0) ∧ e_ab seg S (O.getD k 0) ≤ (e_bar seg S O n).2
  | 0, k, h => absurd h (by omega)
  | n + 1, k, h => by
    have e : e_bar seg S O (n + 1) = (min (e_bar seg S O n).1 (e_bl seg S (O.getD n 0)), max (e_bar seg S O n).2 (e_ab seg S (O.getD n 0))) := rfl
    rw [e]
    dsimp only
    by_cases q : k = n
    · rw [q]; omega
    · have := e_bar_le n k (by omega); omega
theorem e_val_le : ∀ n k, k < n → (e_val seg S O n).1 ≤ dsum (seg (O.getD k 0)) S ∧ dsum (seg (O.getD k 0)) S ≤ (e_val seg S O n).2
  | 0, k, h => absurd h (by omega)
  | n + 1, k, h => by
    have e : e_val seg S O (n + 1) = (min (e_val seg S O n).1 (dsum (seg (O.getD n 0)) S), max (e_val seg S O n).2 (dsum (seg (O.getD n 0)) S)) := rfl
    rw [e]
    dsimp only
    by_cases q : k = n
    · rw [q]; omega
    · have := e_val_le n k (by omega); omega
theorem e_mono (g j : Nat) : ∀ d, e_bl seg (j + d) g ≤ e_bl seg j g ∧ e_ab seg j g ≤ e_ab seg (j + d) g
  | 0 => ⟨Int.le_refl _, Int.le_refl _⟩
  | d + 1 => by
    have := e_mono g j d
    have e1 : e_bl seg (j + (d + 1)) g = e_bl seg (j + d) g + min (seg g (j + d)) 0 := rfl
    have e2 : e_ab seg (j + (d + 1)) g = e_ab seg (j + d) g + max (seg g (j + d)) 0 := rfl
    omega
theorem e_1_le (p : Int × Int) : (e_1 p).1 ≤ p.1 ∧ p.2 ≤ (e_1 p).2 := by
  unfold e_1
  split
  · dsimp only; omega
  · exact ⟨Int.le_refl _, Int.le_refl _⟩
theorem hV_of {st fi la mk : Int} {n : Nat} (hS : SN st fi la n (e_1 (e_0 mk seg S O)).1 (e_1 (e_0 mk seg S O)).2) (h0 : mk = 0) : hV fi la seg S O := fun i hi j hj => by
  obtain ⟨d, rfl⟩ : ∃ d, S = j + d := ⟨S - j, by omega⟩
  have a := e_bar_le (seg := seg) (S := j + d) (O := O) O.length i hi
  have b := e_mono (seg := seg) (O.getD i 0) j d
  have c := e_1_le (e_0 mk seg (j + d) O)
  have e : e_0 mk seg (j + d) O = e_bar seg (j + d) O O.length := by unfold e_0; rw [if_pos h0]
  obtain ⟨_, _, _, _, ⟨f1, f2⟩, _⟩ := hS
  rw [e] at c f1 f2
  omega
theorem hT_of {st fi la mk : Int} {n : Nat} (hS : SN st fi la n (e_1 (e_0 mk seg S O)).1 (e_1 (e_0 mk seg S O)).2) (h0 : mk ≠ 0) : hT fi la seg S O := fun i hi => by
  have a := e_val_le (seg := seg) (S := S) (O := O) O.length i hi
  have c := e_1_le (e_0 mk seg S O)
  have e : e_0 mk seg S O = e_val seg S O O.length := by unfold e_0; rw [if_neg h0]
  obtain ⟨_, _, _, _, ⟨f1, f2⟩, _⟩ := hS
  rw [e] at c f1 f2
  omega
end OS
/-! The figures. -/
section FGc
variable {st fi la lo hi : Int} {n : Nat} {M S : Nat} {seg : Nat → Nat → Int} {lab : Nat → List Int} {O : List Nat}
theorem rf_16 : am_ref 0 9 = 238 ∧ am_len 238 = 7 ∧ am_ref 0 10 = 239 ∧ am_len 239 = 8 ∧ am_ref 240 51 = 260 ∧ am_len 260 = 7 ∧ am_ref 240 53 = 261 ∧ am_len 261 = 8 := by decide +kernel
theorem L162_ok (hM : M ≤ 12) (hO8 : O.length ≤ 8) (hOm : ∀ g ∈ O, g < M) : ∀ (m N i : Nat) (μ : am_M) (y : Int), m < N → y = i → i + m = O.length → GC M S seg lab O μ → (∀ j, j < i → μ 239 j = o_divl (dsum (seg (O.getD j 0)) S) 27720) → ∃ y' μ', L162_98 0 N y μ = some (.inr (y', μ')) ∧ (∀ j, j < O.length → μ' 239 j = o_divl (dsum (seg (O.getD j 0)) S) 27720) ∧ ∀ c t, c ≠ 239 → μ' c t = μ c t
  | m, 0, _, _, _, hN, _, _, _, _ => absurd hN (by omega)
  | 0, N + 1, i, μ, y, hN, hy, hm, hG, h => by
    rw [L162_98, rf_14.2.2.1]
    unfold fn101
    rw [am_op_some]
    dsimp only
    rw [if_neg (by rw [hG.2.1]; omega)]
    exact ⟨_, _, rfl, fun j hj => h j (by omega), fun _ _ _ => rfl⟩
  | m + 1, N + 1, i, μ, y, hN, hy, hm, hG, h => by
    rw [L162_98, rf_14.2.2.1, rf_16.2.2.1, rf_16.2.2.2.1]
    unfold fn101
    rw [am_op_some]
    dsimp only
    rw [if_pos (by rw [hG.2.1]; omega), if_pos (by omega), fn109_ok hG hM (by omega) hOm (i := i) (by omega) hy, am_op_some]
    dsimp only
    rw [if_pos (by omega), w32_id (by omega) (by omega), show y.toNat = i by omega]
    obtain ⟨y', μ2, u1, u2, u3⟩ := L162_ok hM hO8 hOm m N (i + 1) (am_up μ 239 i (o_divl (dsum (seg (O.getD i 0)) S) 27720)) (y + 1) (by omega) (by omega) (by omega) (hG.fr hM (fun c t _ _ => up_ne (by omega))) (fun j hj => by
      by_cases e : j = i
      · rw [e, am_up_at]
      · rw [up_ne (by omega)]; exact h j (by omega))
    exact ⟨y', μ2, u1, u2, fun c t hc => by rw [u3 c t hc, up_ne (by omega)]⟩
/-- seven figures -/
def FG7 (c : Nat) (Lf fi la st : Int) (n sr : Nat) (f : Nat → Int) : Prop := f 0 = (c : Int) ∧ f 1 = Lf ∧ f 2 = fi ∧ f 3 = la ∧ f 4 = st ∧ f 5 = (n : Int) ∧ f 6 = (sr : Int)
theorem fn162_ok {Lf : Int} {sr : Nat} (hS : SN st fi la n lo hi) (hM : M ≤ 12) (hO8 : O.length ≤ 8) (hOm : ∀ g ∈ O, g < M) {μ : am_M} (hG : GC M S seg lab O μ) (hC3 : C3 st fi la μ) (h2 : μ 231 2 = Lf) (h5 : μ 231 5 = (sr : Int)) : ∃ μ', fn162 0 μ = some (0, μ') ∧ FG7 O.length Lf fi la st n sr (μ' 238) ∧ (∀ j, j < O.length → μ' 239 j = o_divl (dsum (seg (O.getD j 0)) S) 27720) ∧ μ' 0 11 = 1 ∧ ∀ c t, c ≠ 238 → c ≠ 239 → ¬ (c = 0 ∧ t = 11) → μ' c t = μ c t := by
  obtain ⟨c2, c3, c4⟩ := hC3
  unfold fn162 fn101 fn135 fn159 fn160 fn161 fn146
  rw [rf_14.2.2.1, rf_14.2.2.2.1, rf_14.2.2.2.2.1, rf_16.1, rf_16.2.1, am_op_some]
  dsimp only
  rw [hG.2.1, if_pos (by omega), am_op_some, show (0 : Int).toNat = 0 from rfl]
  dsimp only
  have e1 : am_up μ 238 0 ((O.length : Nat) : Int) 231 2 = Lf := by rw [up_ne (by omega)]; exact h2
  rw [e1, if_pos (by omega), am_op_some, show (1 : Int).toNat = 1 from rfl]
  dsimp only
  have e2 : am_up (am_up μ 238 0 ((O.length : Nat) : Int)) 238 1 Lf 230 3 = fi := by rw [up_ne (by omega), up_ne (by omega)]; exact c3
  rw [e2, if_pos (by omega), am_op_some, show (2 : Int).toNat = 2 from rfl]
  dsimp only
  have e3 : am_up (am_up (am_up μ 238 0 ((O.length : Nat) : Int)) 238 1 Lf) 238 2 fi 230 4 = la := by rw [up_ne (by omega), up_ne (by omega), up_ne (by omega)]; exact c4
  rw [e3, if_pos (by omega), am_op_some, show (3 : Int).toNat = 3 from rfl]
  dsimp only
  have e4 : am_up (am_up (am_up (am_up μ 238 0 ((O.length : Nat) : Int)) 238 1 Lf) 238 2 fi) 238 3 la 230 2 = st := by rw [up_ne (by omega), up_ne (by omega), up_ne (by omega), up_ne (by omega)]; exact c2
  rw [e4, if_pos (by omega), show (4 : Int).toNat = 4 from rfl]
  have K : ∀ c t, c ≠ 238 → am_up (am_up (am_up (am_up (am_up μ 238 0 ((O.length : Nat) : Int)) 238 1 Lf) 238 2 fi) 238 3 la) 238 4 st c t = μ c t := fun c t hc => by rw [up_ne (by omega), up_ne (by omega), up_ne (by omega), up_ne (by omega), up_ne (by omega)]
  have k0 : am_up (am_up (am_up (am_up (am_up μ 238 0 ((O.length : Nat) : Int)) 238 1 Lf) 238 2 fi) 238 3 la) 238 4 st 238 0 = ((O.length : Nat) : Int) := by rw [up_ne (by omega), up_ne (by omega), up_ne (by omega), up_ne (by omega), am_up_at]
  have k1 : am_up (am_up (am_up (am_up (am_up μ 238 0 ((O.length : Nat) : Int)) 238 1 Lf) 238 2 fi) 238 3 la) 238 4 st 238 1 = Lf := by rw [up_ne (by omega), up_ne (by omega), up_ne (by omega), am_up_at]
  have k2 : am_up (am_up (am_up (am_up (am_up μ 238 0 ((O.length : Nat) : Int)) 238 1 Lf) 238 2 fi) 238 3 la) 238 4 st 238 2 = fi := by rw [up_ne (by omega), up_ne (by omega), am_up_at]
  have k3 : am_up (am_up (am_up (am_up (am_up μ 238 0 ((O.length : Nat) : Int)) 238 1 Lf) 238 2 fi) 238 3 la) 238 4 st 238 3 = la := by rw [up_ne (by omega), am_up_at]
  have k4 : am_up (am_up (am_up (am_up (am_up μ 238 0 ((O.length : Nat) : Int)) 238 1 Lf) 238 2 fi) 238 3 la) 238 4 st 238 4 = st := am_up_at _ _ _ _
  generalize am_up (am_up (am_up (am_up (am_up μ 238 0 ((O.length : Nat) : Int)) 238 1 Lf) 238 2 fi) 238 3 la) 238 4 st = μ1 at *
  rw [fn115_ok hS (show C3 st fi la μ1 from ⟨by rw [K _ _ (by omega)]; exact c2, by rw [K _ _ (by omega)]; exact c3, by rw [K _ _ (by omega)]; exact c4⟩), am_op_some]
  dsimp only
  rw [if_pos (by omega), am_op_some, show (5 : Int).toNat = 5 from rfl]
  dsimp only
  have e6 : am_up μ1 238 5 (n : Int) 231 5 = (sr : Int) := by rw [up_ne (by omega), K _ _ (by omega)]; exact h5
  rw [e6, if_pos (by omega), show (6 : Int).toNat = 6 from rfl]
  have K2 : ∀ c t, c ≠ 238 → am_up (am_up μ1 238 5 (n : Int)) 238 6 (sr : Int) c t = μ c t := fun c t hc => by rw [up_ne (by omega), up_ne (by omega), K c t hc]
  obtain ⟨y', μ2, u1, u2, u3⟩ := L162_ok (S := S) (seg := seg) (lab := lab) hM hO8 hOm O.length am_fuel 0 (am_up (am_up μ1 238 5 (n : Int)) 238 6 (sr : Int)) 0 (by unfold am_fuel; omega) rfl (by omega) (hG.fr hM (fun c t _ _ => K2 c t (by omega))) (fun j hj => absurd hj (by omega))
  rw [u1, am_op_some, am_lp_r]
  refine ⟨am_up μ2 0 11 1, rfl, ?_, fun j hj => by rw [up_ne (by omega)]; exact u2 j hj, am_up_at _ _ _ _, fun c t h1 h2 h3 => by rw [up_ne h3, u3 c t h2, K2 c t h1]⟩
  have V : ∀ t, am_up μ2 0 11 1 238 t = am_up (am_up μ1 238 5 (n : Int)) 238 6 (sr : Int) 238 t := fun t => by rw [up_ne (by omega), u3 _ _ (by omega)]
  refine ⟨?_, ?_, ?_, ?_, ?_, ?_, ?_⟩
  · show am_up μ2 0 11 1 238 0 = _; rw [V, up_ne (by omega), up_ne (by omega)]; exact k0
  · show am_up μ2 0 11 1 238 1 = _; rw [V, up_ne (by omega), up_ne (by omega)]; exact k1
  · show am_up μ2 0 11 1 238 2 = _; rw [V, up_ne (by omega), up_ne (by omega)]; exact k2
  · show am_up μ2 0 11 1 238 3 = _; rw [V, up_ne (by omega), up_ne (by omega)]; exact k3
  · show am_up μ2 0 11 1 238 4 = _; rw [V, up_ne (by omega), up_ne (by omega)]; exact k4
  · show am_up μ2 0 11 1 238 5 = _; rw [V, up_ne (by omega), am_up_at]
  · show am_up μ2 0 11 1 238 6 = _; rw [V, am_up_at]
end FGc
section FGr
variable {fs : List (List Int)} {cols recs x : Nat} {ws : List (List Int)} {h : Int × Int × Int × Int} {s : QC}
theorem L227_ok (hO8 : (k_O fs cols recs x h s).length ≤ 8) : ∀ (m N i : Nat) (μ : am_M) (y : Int), m < N → y = i → i + m = (k_O fs cols recs x h s).length → RG fs cols recs x ws h s μ → (∀ j, j < i → μ 261 j = o_divl (dsum (k_seg fs cols recs x h s ((k_O fs cols recs x h s).getD j 0)) (k_S fs cols recs x s)) 27720) → ∃ y' μ', L227_119 240 N y μ = some (.inr (y', μ')) ∧ (∀ j, j < (k_O fs cols recs x h s).length → μ' 261 j = o_divl (dsum (k_seg fs cols recs x h s ((k_O fs cols recs x h s).getD j 0)) (k_S fs cols recs x s)) 27720) ∧ ∀ c t, c ≠ 261 → μ' c t = μ c t
  | m, 0, _, _, _, hN, _, _, _, _ => absurd hN (by omega)
  | 0, N + 1, i, μ, y, hN, hy, hm, hG, hh => by
    rw [L227_119, if_neg (by rw [hG.2.2.2.1]; omega)]
    exact ⟨_, _, rfl, fun j hj => hh j (by omega), fun _ _ _ => rfl⟩
  | m + 1, N + 1, i, μ, y, hN, hy, hm, hG, hh => by
    have h13 := hG.1.1.2.2.2.2.2.1
    have hi : i < (k_O fs cols recs x h s).length := by omega
    have hmm := kO_at (fs := fs) (cols := cols) (recs := recs) (x := x) (s := s) (h := h) hi
    have hgl := (kO_m hmm).1
    have hfl := kF_len (fs := fs) (cols := cols) (x := x) (s := s) h13
    have h56 := hG.2.2.2.2.1 i hi
    have h55 := hG.2.2.2.2.2.1 _ hmm
    obtain ⟨r31, l31, r32, l32, r34, l34, r35, l35, r36, l36, r37, l37⟩ := rf_12
    rw [L227_119, r36, l36, r35, l35, rf_16.2.2.2.2.2.2.1, rf_16.2.2.2.2.2.2.2, if_pos (by rw [hG.2.2.2.1]; omega), if_pos (by omega), show y.toNat = i by omega, h56, if_pos (by omega), if_pos (by omega), Int.toNat_natCast, h55, w32_id (by omega) (by omega)]
    obtain ⟨y', μ2, u1, u2, u3⟩ := L227_ok hO8 m N (i + 1) (am_up μ 261 i (o_divl (k_tot fs cols recs x h s ((k_O fs cols recs x h s).getD i 0)) 27720)) (y + 1) (by omega) (by omega) (by omega) (hG.fr (fun c t hc => up_ne (by omega))) (fun j hj => by
      by_cases e : j = i
      · rw [e, am_up_at]; rfl
      · rw [up_ne (by omega)]; exact hh j (by omega))
    exact ⟨y', μ2, u1, u2, fun c t hc => by rw [u3 c t hc, up_ne (by omega)]⟩
end FGr
def g1 (z : am_M) : am_M := am_up z 260 0 (z 240 47)
def g2 (z : am_M) : am_M := am_up (g1 z) 260 1 (g1 z 240 45)
def g3 (z : am_M) : am_M := am_up (g2 z) 260 2 (g2 z 240 42)
def g4 (z : am_M) : am_M := am_up (g3 z) 260 3 (g3 z 240 43)
def g5 (z : am_M) : am_M := am_up (g4 z) 260 4 (g4 z 240 41)
def g6 (z : am_M) : am_M := am_up (g5 z) 260 5 (g5 z 240 44)
def g7 (z : am_M) : am_M := am_up (g6 z) 260 6 (g6 z 240 46)
theorem g7_ok (z : am_M) : (g7 z 260 0 = z 240 47 ∧ g7 z 260 1 = z 240 45 ∧ g7 z 260 2 = z 240 42 ∧ g7 z 260 3 = z 240 43 ∧ g7 z 260 4 = z 240 41 ∧ g7 z 260 5 = z 240 44 ∧ g7 z 260 6 = z 240 46) ∧ ∀ c t, c ≠ 260 → g7 z c t = z c t := by
  have f1 : ∀ c t, ¬ (c = 260 ∧ t = 0) → g1 z c t = z c t := fun c t hc => up_ne hc
  have f2 : ∀ c t, ¬ (c = 260 ∧ t = 1) → g2 z c t = g1 z c t := fun c t hc => up_ne hc
  have f3 : ∀ c t, ¬ (c = 260 ∧ t = 2) → g3 z c t = g2 z c t := fun c t hc => up_ne hc
  have f4 : ∀ c t, ¬ (c = 260 ∧ t = 3) → g4 z c t = g3 z c t := fun c t hc => up_ne hc
  have f5 : ∀ c t, ¬ (c = 260 ∧ t = 4) → g5 z c t = g4 z c t := fun c t hc => up_ne hc
  have f6 : ∀ c t, ¬ (c = 260 ∧ t = 5) → g6 z c t = g5 z c t := fun c t hc => up_ne hc
  have f7 : ∀ c t, ¬ (c = 260 ∧ t = 6) → g7 z c t = g6 z c t := fun c t hc => up_ne hc
  have a1 : g1 z 260 0 = z 240 47 := am_up_at _ _ _ _
  have a2 : g2 z 260 1 = g1 z 240 45 := am_up_at _ _ _ _
  have a3 : g3 z 260 2 = g2 z 240 42 := am_up_at _ _ _ _
  have a4 : g4 z 260 3 = g3 z 240 43 := am_up_at _ _ _ _
  have a5 : g5 z 260 4 = g4 z 240 41 := am_up_at _ _ _ _
  have a6 : g6 z 260 5 = g5 z 240 44 := am_up_at _ _ _ _
  have a7 : g7 z 260 6 = g6 z 240 46 := am_up_at _ _ _ _
  refine ⟨⟨?_, ?_, ?_, ?_, ?_, ?_, ?_⟩, fun c t hc => by rw [f7 c t (by omega), f6 c t (by omega), f5 c t (by omega), f4 c t (by omega), f3 c t (by omega), f2 c t (by omega), f1 c t (by omega)]⟩
  · rw [f7 _ _ (by omega), f6 _ _ (by omega), f5 _ _ (by omega), f4 _ _ (by omega), f3 _ _ (by omega), f2 _ _ (by omega), a1]
  · rw [f7 _ _ (by omega), f6 _ _ (by omega), f5 _ _ (by omega), f4 _ _ (by omega), f3 _ _ (by omega), a2, f1 _ _ (by omega)]
  · rw [f7 _ _ (by omega), f6 _ _ (by omega), f5 _ _ (by omega), f4 _ _ (by omega), a3, f2 _ _ (by omega), f1 _ _ (by omega)]
  · rw [f7 _ _ (by omega), f6 _ _ (by omega), f5 _ _ (by omega), a4, f3 _ _ (by omega), f2 _ _ (by omega), f1 _ _ (by omega)]
  · rw [f7 _ _ (by omega), f6 _ _ (by omega), a5, f4 _ _ (by omega), f3 _ _ (by omega), f2 _ _ (by omega), f1 _ _ (by omega)]
  · rw [f7 _ _ (by omega), a6, f5 _ _ (by omega), f4 _ _ (by omega), f3 _ _ (by omega), f2 _ _ (by omega), f1 _ _ (by omega)]
  · rw [a7, f6 _ _ (by omega), f5 _ _ (by omega), f4 _ _ (by omega), f3 _ _ (by omega), f2 _ _ (by omega), f1 _ _ (by omega)]
