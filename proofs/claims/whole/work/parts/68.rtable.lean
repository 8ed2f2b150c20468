/-! The table as the reference holds it. -/
theorem sp_num_rng {g : Nat → Int} {n : Nat} {v : Int} (h : sp_num g n = some v) : -10000000000000 ≤ v ∧ v ≤ 10000000000000 := by
  unfold sp_num at h
  have hmn : sp_m g n ≤ 1 := by unfold sp_m; split <;> omega
  have hd := sd_dig g n n (sp_m g n) (by omega)
  generalize sp_m g n = m at *
  generalize hw : sd g n m = w at *
  have r1 := sd_v_rng g w m 0 0 hd (by omega) (by decide)
  have sg : ∀ x : Int, 0 ≤ x → x ≤ 10000000000000 → -10000000000000 ≤ sp_sg m x ∧ sp_sg m x ≤ 10000000000000 := fun x h1 h2 => by unfold sp_sg; split <;> omega
  split at h
  · cases h
  · rename_i hb
    have p6 : ∀ x, x < 7 → pw (0 + x) ≤ 1000000 := by decide
    have pz := p6 w (by omega)
    split at h
    · cases h
      exact sg _ (by omega) (by omega)
    · split at h
      · have hd2 := sd_dig g n n (m + w + 1) (by omega)
        generalize sd g n (m + w + 1) = b at *
        split at h
        · rename_i hx
          cases h
          have r2 := sd_v_rng g b (m + w + 1) (0 + w) _ hd2 r1.1 r1.2
          have p9 : ∀ x, x < 10 → pw (0 + x) ≤ 1000000000 := by decide
          have pz9 := p9 (w + b) (by omega)
          rw [show 0 + (w + b) = 0 + w + b by omega] at pz9
          have p3 : ∀ x, x < 4 → 1 ≤ pw x ∧ pw x ≤ 1000 := by decide
          have pc := p3 (3 - b) (by omega)
          refine sg _ (Int.mul_nonneg r2.1 (by omega)) ?_
          calc _ ≤ sd_v g b (m + w + 1) (sd_v g w m 0) * 1000 := Int.mul_le_mul_of_nonneg_left pc.2 r2.1
            _ ≤ 10000000000000 := by omega
        · cases h
      · cases h
theorem sp_date_rng {g : Nat → Int} {n : Nat} {v : Int} (h : sp_date g n = some v) : 0 ≤ v ∧ v ≤ 10000000000000 := by
  unfold sp_date at h
  split at h
  · rename_i hs
    obtain ⟨h1, h2, h3, h4, h5, h6⟩ := hs
    split at h
    · cases h
      obtain ⟨y1, y2, y3⟩ := sp_rng h2
      obtain ⟨m1, m2, m3⟩ := sp_rng h4
      obtain ⟨d1, d2, d3⟩ := sp_rng h6
      rw [show pw 4 = 10000 from rfl] at y3
      rw [show pw 2 = 100 from rfl] at m3 d3
      omega
    · cases h
  · cases h
theorem sp_v_N (l : List Int) : (o_cmp (sp_v (sp_N l)) (-9223372036854775808) = 0) ↔ (sp_N l).isSome = false := by
  rw [o_cmp_eq]
  cases h : sp_N l with
  | none => exact ⟨fun _ => rfl, fun _ => rfl⟩
  | some v =>
    have z := sp_num_rng h
    constructor
    · intro e
      have e : v = -9223372036854775808 := e
      omega
    · intro e; cases e
theorem sp_v_D (l : List Int) : (o_cmp (sp_v (sp_D l)) (-9223372036854775808) = 0) ↔ (sp_D l).isSome = false := by
  rw [o_cmp_eq]
  cases h : sp_D l with
  | none => exact ⟨fun _ => rfl, fun _ => rfl⟩
  | some v =>
    have z := sp_date_rng h
    constructor
    · intro e
      have e : v = -9223372036854775808 := e
      omega
    · intro e; cases e
/-- a table within the limits, as the reference holds it -/
def RT (μ : am_M) (fs : List (List Int)) (cols recs : Nat) : Prop := μ 240 7 = cols ∧ μ 240 8 = recs ∧ 1 ≤ cols ∧ cols ≤ 5 ∧ 1 ≤ recs ∧ recs ≤ 13 ∧ fs.length = recs * cols ∧ (∀ l ∈ fs, l.length ≤ 12 ∧ Cr l) ∧ ps_tot fs ≤ 400 ∧ ∀ f, f < fs.length → μ 243 f = ((ps_tot (fs.take f) : Nat) : Int) ∧ μ 244 f = (((fs.getD f []).length : Nat) : Int) ∧ ∀ i, i < (fs.getD f []).length → μ 245 (ps_tot (fs.take f) + i) = (fs.getD f []).getD i 0
theorem RT.idx {μ : am_M} {fs : List (List Int)} {cols recs : Nat} (h : RT μ fs cols recs) {r c : Nat} (hr : r < recs) (hc : c < cols) : r * cols + c < fs.length ∧ r * cols + c < 65 ∧ r * cols ≤ 60 := by
  obtain ⟨-, -, h1, h2, h3, h4, h5, -⟩ := h
  have e1 : r * cols + cols ≤ recs * cols := by
    have := Nat.mul_le_mul_right cols (show r + 1 ≤ recs by omega)
    rw [Nat.add_mul, Nat.one_mul] at this
    exact this
  have e2 : recs * cols ≤ 13 * 5 := Nat.mul_le_mul h4 h2
  have e3 : r * cols ≤ 12 * 5 := Nat.mul_le_mul (by omega) h2
  omega
theorem tot_le (fs : List (List Int)) {f : Nat} (hf : f < fs.length) : ps_tot (fs.take f) + (fs.getD f []).length ≤ ps_tot fs := by
  have e1 : fs = fs.take f ++ (fs.getD f []) :: fs.drop (f + 1) := by
    rw [List.getD_eq_getElem?_getD, List.getElem?_eq_getElem hf]
    simp
  have e2 := congrArg ps_tot e1
  rw [e2]
  unfold ps_tot
  simp
theorem RT.sp {μ : am_M} {fs : List (List Int)} {cols recs : Nat} (h : RT μ fs cols recs) {f : Nat} (hf : f < fs.length) : Sp μ 1 (ps_tot (fs.take f)) (fs.getD f []).length (sp_g (fs.getD f [])) := by
  have z := tot_le fs hf
  have ht := h.2.2.2.2.2.2.2.2.1
  exact Or.inl ⟨rfl, by omega, fun i hi => (h.2.2.2.2.2.2.2.2.2 f hf).2.2 i hi⟩
theorem fn173_ok {μ : am_M} {fs : List (List Int)} {cols recs : Nat} (h : RT μ fs cols recs) {r c : Nat} (hr : r < recs) (hc : c < cols) {a b : Int} (ha : a = (r : Int) - 1) (hb : b = c) : fn173 240 a b μ = some (((r * cols + c : Nat) : Int), μ) := by
  obtain ⟨i1, i2, i3⟩ := h.idx hr hc
  have h2 := h.2.2.2.1
  have h4 := h.2.2.2.2.2.1
  subst ha hb
  unfold fn173
  rw [h.1, w32_id (x := (r : Int) - 1 + 1) (by omega) (by omega), show (r : Int) - 1 + 1 = r by omega, show (cols : Int) * (r : Int) = ((r * cols : Nat) : Int) by simp [Int.mul_comm], w32_id (x := ((r * cols : Nat) : Int)) (by omega) (by omega), w32_id (by omega) (by omega)]
  congr 2
theorem L180_ok {μ : am_M} {fs : List (List Int)} {cols recs c : Nat} (h : RT μ fs cols recs) (hc : c < cols) : ∀ (k N r : Nat) (nb db : Bool) (x : Int), k < N → x = r → r + k + 1 = recs → ∃ x', L180_7 240 (c : Int) N (bI nb) (bI db) x μ = some (.inr (bI (sp_al (fun l => (sp_N l).isSome) (sp_c fs cols c) k r nb), bI (sp_al (fun l => (sp_D l).isSome) (sp_c fs cols c) k r db), x', μ))
  | k, 0, _, _, _, _, hN, _, _ => absurd hN (by omega)
  | 0, N + 1, r, nb, db, x, hN, hx, hk => by
    have h4 := h.2.2.2.2.2.1
    subst hx
    rw [L180_7, if_neg (by rw [w32_id (by omega) (by omega), h.2.1]; omega)]
    exact ⟨_, rfl⟩
  | k + 1, N + 1, r, nb, db, x, hN, hx, hk => by
    have h4 := h.2.2.2.2.2.1
    obtain ⟨i1, i2, i3⟩ := h.idx (r := r + 1) (by omega) hc
    have hsp := h.sp i1
    obtain ⟨y1, y2, y3⟩ := h.2.2.2.2.2.2.2.2.2 _ i1
    subst hx
    have hu : ∀ P b, sp_al P (sp_c fs cols c) (k + 1) r b = sp_al P (sp_c fs cols c) k (r + 1) (if (fs.getD ((r + 1) * cols + c) []).length = 0 then b else b && P (fs.getD ((r + 1) * cols + c) [])) := fun P b => rfl
    rw [hu, hu, L180_7, if_pos (by rw [w32_id (by omega) (by omega), h.2.1]; omega), fn173_ok h (r := r + 1) (by omega) hc (by omega) rfl, am_op_some, rf_3.2.2.1, rf_3.2.2.2.1, rf_3.2.2.2.2.1, rf_3.2.2.2.2.2.1]
    dsimp only
    rw [if_pos (by omega), Int.toNat_natCast, w32_id (x := (r : Int) + 1) (by omega) (by omega)]
    have go := fun (nb db : Bool) => L180_ok h hc k N (r + 1) nb db ((r : Int) + 1) (by omega) (by omega) (by omega)
    have hix : (0 : Int) ≤ (((r + 1) * cols + c : Nat) : Int) ∧ (((r + 1) * cols + c : Nat) : Int) < ((420 : Nat) : Int) := by omega
    generalize hf : (r + 1) * cols + c = f at *
    by_cases hl : (fs.getD f []).length = 0
    · rw [if_neg (by rw [y2]; omega), if_pos hl, if_pos hl]
      exact go nb db
    · have f176 := fn176_ok hsp (by omega) (a := μ 243 f) (b := μ 244 f) y1 y2
      have f179 := fn179_ok hsp (a := μ 243 f) (b := μ 244 f) y1 y2
      rw [show sp_num (sp_g (fs.getD f [])) (fs.getD f []).length = sp_N (fs.getD f []) from rfl] at f176
      rw [show sp_date (sp_g (fs.getD f [])) (fs.getD f []).length = sp_D (fs.getD f []) from rfl] at f179
      rw [if_pos (by rw [y2]; omega), if_neg hl, if_neg hl]
      simp only [hix, f176, f179, am_op_some, sp_v_N, sp_v_D, and_self, if_true]
      generalize (sp_N (fs.getD f [])).isSome = pn
      generalize (sp_D (fs.getD f [])).isSome = pd
      cases nb <;> cases db <;> cases pn <;> cases pd <;> first | exact go false false | exact go false true | exact go true false | exact go true true
theorem fn180_ok {μ : am_M} {fs : List (List Int)} {cols recs c : Nat} (h : RT μ fs cols recs) (hc : c < cols) {x : Int} (hx : x = c) : fn180 240 x μ = some (sp_ty fs cols recs c, μ) := by
  subst hx
  have h3 := h.2.2.2.2.1
  have h4 := h.2.2.2.2.2.1
  unfold fn180
  obtain ⟨x', q⟩ := L180_ok h hc (recs - 1) am_fuel 0 true true 0 (by unfold am_fuel; omega) rfl (by omega)
  rw [show (1 : Int) = bI true from rfl, q, am_op_some, am_lp_r]
  dsimp only
  unfold sp_ty
  cases sp_al (fun l => (sp_N l).isSome) (sp_c fs cols c) (recs - 1) 0 true <;> cases sp_al (fun l => (sp_D l).isSome) (sp_c fs cols c) (recs - 1) 0 true <;> rfl
theorem L181_222_ok {fs : List (List Int)} (hlen : fs.length ≤ 420) : ∀ (k N f : Nat) (μ : am_M) (b : Bool) (x : Int), k < N → x = f → f + k = fs.length → μ 240 9 = (fs.length : Nat) → (∀ i, i < fs.length → μ 244 i = (((fs.getD i []).length : Nat) : Int)) → μ 240 14 = bI b →
    ∃ x' μ', L181_222 240 N x μ = some (.inr (x', μ')) ∧ μ' 240 14 = bI (b || !ps_al (fs.drop f)) ∧ ∀ q t, ¬ (q = 240 ∧ t = 14) → μ' q t = μ q t
  | k, 0, _, _, _, _, hN, _, _, _, _, _ => absurd hN (by omega)
  | 0, N + 1, f, μ, b, x, hN, hx, hk, h9, hL, h14 => by
    rw [L181_222, if_neg (by rw [h9]; omega)]
    refine ⟨x, μ, rfl, ?_, fun _ _ _ => rfl⟩
    rw [List.drop_eq_nil_of_le (by omega), h14]
    cases b <;> rfl
  | k + 1, N + 1, f, μ, b, x, hN, hx, hk, h9, hL, h14 => by
    subst hx
    have ed : fs.drop f = (fs.getD f []) :: fs.drop (f + 1) := by
      rw [List.drop_eq_getElem_cons (by omega), List.getD_eq_getElem?_getD, List.getElem?_eq_getElem (by omega)]
      rfl
    have ea : ps_al (fs.drop f) = (decide ((fs.getD f []).length ≤ 12) && ps_al (fs.drop (f + 1))) := by
      rw [ed]; rfl
    have go : ∀ v : Bool, v = (b || !decide ((fs.getD f []).length ≤ 12)) → ∃ x' μ', L181_222 240 N ((f : Int) + 1) (am_up μ 240 14 (bI v)) = some (.inr (x', μ')) ∧ μ' 240 14 = bI (b || !ps_al (fs.drop f)) ∧ ∀ q t, ¬ (q = 240 ∧ t = 14) → μ' q t = μ q t := by
      intro v hv
      have fr : ∀ q t, ¬ (q = 240 ∧ t = 14) → (am_up μ 240 14 (bI v)) q t = μ q t := fun q t e => by
        by_cases hq : q = 240
        · rw [am_up_s _ _ (fun ht => e ⟨hq, ht⟩)]
        · rw [am_up_c _ _ hq]
      obtain ⟨x', μ', q1, q2, q3⟩ := L181_222_ok hlen k N (f + 1) (am_up μ 240 14 (bI v)) v ((f : Int) + 1) (by omega) (by omega) (by omega) (by rw [fr 240 9 (by omega)]; exact h9) (fun i hi => by rw [fr 244 i (by omega)]; exact hL i hi) (am_up_at _ _ _ _)
      refine ⟨x', μ', q1, ?_, fun q t e => by rw [q3 q t e, fr q t e]⟩
      rw [q2, ea, hv]
      congr 1
      cases b <;> cases decide ((fs.getD f []).length ≤ 12) <;> cases ps_al (fs.drop (f + 1)) <;> rfl
    rw [L181_222, if_pos (by rw [h9]; omega), rf_3.2.2.2.2.1, rf_3.2.2.2.2.2.1, Int.toNat_natCast, w32_id (by omega) (by omega)]
    cases hb : b with
    | true =>
      rw [if_neg (by rw [h14, hb]; decide)]
      rw [hb] at go
      exact go true rfl
    | false =>
      rw [if_pos (by rw [h14, hb]; rfl), if_pos (by omega)]
      rw [hb] at go
      by_cases h12 : (fs.getD f []).length ≤ 12
      · rw [if_neg (by rw [hL f (by omega)]; omega)]
        exact go false (by rw [decide_eq_true h12]; rfl)
      · rw [if_pos (by rw [hL f (by omega)]; omega)]
        exact go true (by rw [decide_eq_false h12]; rfl)
theorem RT.fr {μ μ' : am_M} {fs : List (List Int)} {cols recs : Nat} (h : RT μ fs cols recs) (hf : ∀ q t, q ≠ 246 → ¬ (q = 240 ∧ t = 14) → μ' q t = μ q t) : RT μ' fs cols recs := by
  obtain ⟨h1, h2, h3, h4, h5, h6, h7, h8, h9, h10⟩ := h
  refine ⟨by rw [hf 240 7 (by omega) (by omega)]; exact h1, by rw [hf 240 8 (by omega) (by omega)]; exact h2, h3, h4, h5, h6, h7, h8, h9, fun f hff => ?_⟩
  obtain ⟨y1, y2, y3⟩ := h10 f hff
  exact ⟨by rw [hf 243 f (by omega) (by omega)]; exact y1, by rw [hf 244 f (by omega) (by omega)]; exact y2, fun i hi => by rw [hf 245 _ (by omega) (by omega)]; exact y3 i hi⟩
theorem L181_268_ok {fs : List (List Int)} {cols recs : Nat} : ∀ (k N m : Nat) (μ : am_M) (x : Int), k < N → x = m → m + k = 5 → RT μ fs cols recs → μ 240 14 = 0 → (∀ c, c < m → c < cols → μ 246 c = sp_ty fs cols recs c) →
    ∃ x' μ', L181_268 240 N x μ = some (.inr (x', μ')) ∧ (∀ c, c < cols → μ' 246 c = sp_ty fs cols recs c) ∧ (∀ q t, q ≠ 246 → μ' q t = μ q t)
  | k, 0, _, _, _, hN, _, _, _, _, _ => absurd hN (by omega)
  | 0, N + 1, m, μ, x, hN, hx, hk, h, h14, hT => by
    rw [L181_268, if_neg (by omega)]
    have h4 := h.2.2.2.1
    exact ⟨x, μ, rfl, fun c hc => hT c (by omega) hc, fun _ _ _ => rfl⟩
  | k + 1, N + 1, m, μ, x, hN, hx, hk, h, h14, hT => by
    subst hx
    have go : ∀ v : Int, (m < cols → v = sp_ty fs cols recs m) → ∃ x' μ', L181_268 240 N ((m : Int) + 1) (am_up μ 246 m v) = some (.inr (x', μ')) ∧ (∀ c, c < cols → μ' 246 c = sp_ty fs cols recs c) ∧ (∀ q t, q ≠ 246 → μ' q t = μ q t) := by
      intro v hv
      obtain ⟨x', μ', q1, q2, q3⟩ := L181_268_ok k N (m + 1) (am_up μ 246 m v) ((m : Int) + 1) (by omega) (by omega) (by omega) (h.fr (fun q t e1 e2 => am_up_c _ _ e1)) (by rw [am_up_c _ _ (by decide)]; exact h14) (fun c e1 e2 => by
        by_cases hc : c = m
        · subst hc
          rw [am_up_at]; exact hv e2
        · rw [am_up_s _ _ hc]; exact hT c (by omega) e2)
      exact ⟨x', μ', q1, q2, fun q t e => by rw [q3 q t e, am_up_c _ _ e]⟩
    rw [L181_268, if_pos (by omega), if_pos h14, rf_3.2.2.2.2.2.2.2.2.1, rf_3.2.2.2.2.2.2.2.2.2, Int.toNat_natCast, w32_id (by omega) (by omega)]
    by_cases hm : m < cols
    · rw [if_pos (by rw [h.1]; omega), fn180_ok h hm rfl, am_op_some]
      dsimp only
      rw [if_pos (by omega)]
      exact go _ (fun _ => rfl)
    · rw [if_neg (by rw [h.1]; omega), if_pos (by omega)]
      exact go 0 (fun z => absurd z hm)
/-- where readData changes something -/
def Fdd (μ μ' : am_M) : Prop := ∀ c t, ¬ (c = 240 ∧ (t = 7 ∨ t = 8 ∨ t = 9 ∨ t = 12 ∨ t = 14)) → ¬ (243 ≤ c ∧ c ≤ 246) → μ' c t = μ c t
/-- readData -/
theorem fn181_ok {D : Nat → Int} {n : Nat} {μ : am_M} (hS : RSrc μ D n) :
    ((ps_D D n).2.2.2.2.2.1 = false → ∃ μ', fn181 240 μ = some (0, μ') ∧ Fdd μ μ') ∧
    ((ps_D D n).2.2.2.2.2.1 = true → ∃ μ', fn181 240 μ = some (1, μ') ∧ μ' 240 14 = bI (!ps_in (ps_D D n)) ∧ μ' 240 7 = ((ps_D D n).2.2.2.1 : Nat) ∧ (ps_in (ps_D D n) = true → RT μ' (ps_D D n).2.1 (ps_D D n).2.2.2.1 (ps_D D n).2.2.2.2.1 ∧ ∀ c, c < (ps_D D n).2.2.2.1 → μ' 246 c = sp_ty (ps_D D n).2.1 (ps_D D n).2.2.2.1 (ps_D D n).2.2.2.2.1 c) ∧ Fdd μ μ') := by
  have hn := hS.2.1
  unfold fn181
  generalize hμ0 : am_up (am_up (am_up (am_up μ 240 7 0) 240 8 0) 240 9 0) 240 12 0 = μ0
  have f0 : ∀ c t, ¬ (c = 240 ∧ (t = 7 ∨ t = 8 ∨ t = 9 ∨ t = 12)) → μ0 c t = μ c t := fun c t h => by
    rw [← hμ0]
    by_cases hc : c = 240
    · rw [am_up_s _ _ (by omega), am_up_s _ _ (by omega), am_up_s _ _ (by omega), am_up_s _ _ (by omega)]
    · rw [am_up_c _ _ hc, am_up_c _ _ hc, am_up_c _ _ hc, am_up_c _ _ hc]
  have hR0 : RI μ0 ps_0 := by
    rw [← hμ0]
    exact ⟨rfl, rfl, rfl, rfl, fun f hf => absurd hf (Nat.not_lt_zero _)⟩
  have hS0 : RSrc μ0 D n := hS.fr (f0 240 1 (by omega)) (fun i => f0 241 i (by omega))
  have hend := ps_ended (D := D) hn
  obtain ⟨u1, u2⟩ := L181_26_ok (D := D) (n := n) 401 am_fuel μ0 ps_0 (by decide) hS0 hR0 (PI_0 n) (Nat.le_refl _) rfl hend
  have hwi : WI (ps_D D n) := WI.run 401 ps_0 WI_0
  have hfc : FC (ps_D D n) := FC.run (fun i hi => (hS.2.2 i hi).2) 401 ps_0 (fun l hl => by cases hl)
  have hpi : PI n (ps_D D n) := by
    have z : ∀ j s, PI n s → PI n (ps_run D n j s) := by
      intro j
      induction j with
      | zero => exact fun s h => h
      | succ j ih =>
        intro s h
        unfold ps_run
        by_cases h1 : s.2.2.2.2.2.2 = true
        · rw [if_pos h1]; exact h
        · rw [if_neg h1]
          exact ih _ (h.step (by simpa using h1)).1
    exact z 401 ps_0 (PI_0 n)
  have htot : ps_tot (ps_D D n).2.1 ≤ (ps_D D n).1 := by
    have z : ∀ j s, PI n s → ps_tot s.2.1 ≤ s.1 → ps_tot (ps_run D n j s).2.1 ≤ (ps_run D n j s).1 := by
      intro j
      induction j with
      | zero => exact fun s _ h => h
      | succ j ih =>
        intro s hp h
        unfold ps_run
        by_cases h1 : s.2.2.2.2.2.2 = true
        · rw [if_pos h1]; exact h
        · rw [if_neg h1]
          exact ih _ (hp.step (by simpa using h1)).1 (ps_tot_step hp h)
    exact z 401 ps_0 (PI_0 n) (Nat.le_refl _)
  change ((ps_D D n).2.2.2.2.2.1 = false → _) at u1
  change ((ps_D D n).2.2.2.2.2.1 = true → _) at u2
  change (ps_D D n).2.2.2.2.2.2 = true at hend
  refine ⟨fun hw => ?_, fun hw => ?_⟩
  · obtain ⟨μ', q1, q2⟩ := u1 hw
    have q1 : L181_26 240 am_fuel 0 0 1 μ0 = some (.inl (0, μ')) := q1
    rw [q1, am_op_some, am_lp_l]
    exact ⟨μ', rfl, fun c t e1 e2 => by rw [q2 c t (by omega) (by omega), f0 c t (by omega)]⟩
  · obtain ⟨p, k, μ1, q1, q2, q3⟩ := u2 hw
    have q1 : L181_26 240 am_fuel 0 0 1 μ0 = some (.inr (p, k, 0, μ1)) := q1
    have q2 : RI μ1 (ps_D D n) := q2
    rw [q1, am_op_some, am_lp_r]
    have hfr : ∀ c t, ¬ (c = 240 ∧ (t = 7 ∨ t = 8 ∨ t = 9 ∨ t = 12)) → ¬ (243 ≤ c ∧ c ≤ 245) → μ1 c t = μ c t := fun c t e1 e2 => by rw [q3 c t e1 e2, f0 c t e1]
    generalize ps_D D n = s at *
    obtain ⟨g7, g8, g9, g12, gL⟩ := q2
    obtain ⟨w1, w2, w3⟩ := hwi hw
    obtain ⟨w4, w5⟩ := w2 hend
    have w6 := w3 w5
    have hlen : s.2.1.length ≤ 401 := by have := hpi.2.2.2.2.1; omega
    dsimp only
    -- behind the records
    have tail : ∀ b : Bool, b = !(decide (s.2.2.2.1 ≤ 5) && decide (s.2.2.2.2.1 ≤ 13)) → ∃ μ', (am_op (L181_222 240 am_fuel 0 (am_up μ1 240 14 (bI b))) (fun s => am_lp s (fun q2 => some q2) (fun t2 => (am_op (L181_268 240 am_fuel 0 t2.2) (fun s => am_lp s (fun q3 => some q3) (fun t3 => some ((1 : Int), t3.2))))))) = some (1, μ') ∧ μ' 240 14 = bI (!ps_in s) ∧ μ' 240 7 = (s.2.2.2.1 : Nat) ∧ (ps_in s = true → RT μ' s.2.1 s.2.2.2.1 s.2.2.2.2.1 ∧ ∀ c, c < s.2.2.2.1 → μ' 246 c = sp_ty s.2.1 s.2.2.2.1 s.2.2.2.2.1 c) ∧ Fdd μ μ' := by
      intro b hb
      have fr : ∀ q t, ¬ (q = 240 ∧ t = 14) → (am_up μ1 240 14 (bI b)) q t = μ1 q t := fun q t e => by
        by_cases hq : q = 240
        · rw [am_up_s _ _ (fun ht => e ⟨hq, ht⟩)]
        · rw [am_up_c _ _ hq]
      obtain ⟨x2, μ2, r1, r2, r3⟩ := L181_222_ok (fs := s.2.1) (by omega) s.2.1.length am_fuel 0 (am_up μ1 240 14 (bI b)) b 0 (by unfold am_fuel; omega) rfl (by omega) (by rw [fr 240 9 (by omega)]; exact g9) (fun i hi => by rw [fr 244 i (by omega)]; exact (gL i hi).2.1) (am_up_at _ _ _ _)
      rw [r1, am_op_some, am_lp_r]
      dsimp only
      have e14 : (b || !ps_al (s.2.1.drop 0)) = !ps_in s := by
        rw [List.drop_zero, hb]
        unfold ps_in
        cases ps_al s.2.1 <;> cases decide (s.2.2.2.1 ≤ 5) <;> cases decide (s.2.2.2.2.1 ≤ 13) <;> rfl
      rw [e14] at r2
      have fr2 : ∀ q t, ¬ (q = 240 ∧ t = 14) → μ2 q t = μ1 q t := fun q t e => by rw [r3 q t e, fr q t e]
      have fd2 : Fdd μ μ2 := fun c t e1 e2 => by rw [fr2 c t (by omega), hfr c t (by omega) (by omega)]
      cases hin : ps_in s with
      | false =>
        rw [hin] at r2
        rw [show am_fuel = 9999 + 1 from rfl, L181_268, if_pos (by decide), if_neg (by rw [r2]; decide), am_op_some, am_lp_r]
        exact ⟨μ2, rfl, r2, by rw [fr2 240 7 (by omega)]; exact g7, (fun z => by cases z), fd2⟩
      | true =>
        rw [hin] at r2
        have hin' := hin
        unfold ps_in at hin'
        rw [Bool.and_eq_true, Bool.and_eq_true, decide_eq_true_eq, decide_eq_true_eq] at hin'
        obtain ⟨⟨ha, h5⟩, h13⟩ := hin'
        have hRT : RT μ2 s.2.1 s.2.2.2.1 s.2.2.2.2.1 := by
          refine ⟨by rw [fr2 240 7 (by omega)]; exact g7, by rw [fr2 240 8 (by omega)]; exact g8, w6, h5, w5, h13, by rw [w1, w4, Nat.add_zero], fun l hl => ⟨of_decide_eq_true (List.all_eq_true.mp ha l hl), hfc l hl⟩, by have := hpi.1; omega, fun f hf => ?_⟩
          obtain ⟨y1, y2, y3⟩ := gL f hf
          exact ⟨by rw [fr2 243 f (by omega)]; exact y1, by rw [fr2 244 f (by omega)]; exact y2, fun i hi => by rw [fr2 245 _ (by omega)]; exact y3 i hi⟩
        obtain ⟨x3, μ3, t1, t2, t3⟩ := L181_268_ok 5 am_fuel 0 μ2 0 (by decide) rfl rfl hRT r2 (fun c hc => absurd hc (Nat.not_lt_zero _))
        rw [t1, am_op_some, am_lp_r]
        refine ⟨μ3, rfl, by rw [t3 240 14 (by decide)]; exact r2, by rw [t3 240 7 (by decide), fr2 240 7 (by omega)]; exact g7, fun _ => ⟨hRT.fr (fun q t e1 e2 => t3 q t e1), t2⟩, fun c t e1 e2 => by rw [t3 c t (by omega), fd2 c t e1 e2]⟩
    by_cases h5 : s.2.2.2.1 ≤ 5
    · rw [if_neg (by rw [g7]; omega)]
      by_cases h13 : s.2.2.2.2.1 ≤ 13
      · rw [if_neg (by rw [g8]; omega)]
        exact tail false (by simp [h5, h13])
      · rw [if_pos (by rw [g8]; omega)]
        exact tail true (by simp [h13])
    · rw [if_pos (by rw [g7]; omega)]
      exact tail true (by simp [h5])
