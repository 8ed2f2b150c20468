theorem zc_arrV {cA : ClassId} {n : Nat} {f g : Nat → Value} (h : ∀ i, i < n → f i = g i) : arrV cA n f = arrV cA n g := by
  unfold arrV
  congr 1
  apply Array.ext
  · simp
  · intro i h1 h2
    simp only [Array.getElem_ofFn]
    exact h i (by simpa using h1)
/-- all is made: the world is the abstract machine's -/
theorem zc_cells {C : am_C} {S : zc_S} (hc : zc_chk S = true) {D : va_G} {a o : Nat} {H : Heap} (ho : o < 263) (h : va_at D am_cl (a, zc_cell C S.2.2.1 S.2.2.2 o) H) : va_at D am_cl (a, am_cell C S.2.2.2 o) H := by
  have z := List.all_eq_true.mp hc o (List.mem_range.mpr ho)
  by_cases h16 : am_cls o < 16
  · rw [if_pos h16] at z
    have e : zc_fs C S.2.2.1 S.2.2.2 o (am_cls o) = am_fs C S.2.2.2 o (am_cls o) := by
      unfold zc_fs am_fs
      refine List.map_congr_left (fun k hk => ?_)
      have y := List.all_eq_true.mp z k hk
      by_cases f1 : am_ft (am_cls o) k = 1
      · simp only [zc_fv, am_fv, f1]
      · by_cases f5 : am_ft (am_cls o) k = 5
        · rw [if_pos f5] at y
          simp only [zc_fv, am_fv, f5, y, if_true]
        · rw [zc_fv_n C _ _ f1 f5, am_fv_n f1 f5]
    rw [zc_cell_o C _ _ rfl h16, e] at h
    rw [am_cell_o C _ rfl h16]
    exact h
  · rw [if_neg h16] at z
    rw [zc_cell_a C _ _ rfl h16] at h
    rw [am_cell_a C _ rfl h16]
    by_cases h21 : am_cls o < 21
    · have e : zc_arr C S.2.2.1 S.2.2.2 o (am_ft (am_cls o) 0) = am_arr C S.2.2.2 o (am_ft (am_cls o) 0) := by
        obtain e | e | e | e | e : am_cls o = 16 ∨ am_cls o = 17 ∨ am_cls o = 18 ∨ am_cls o = 19 ∨ am_cls o = 20 := by omega
        all_goals (rw [e]; rfl)
      rw [e] at h
      exact h
    · rw [if_neg h21] at z
      have h5 : am_ft (am_cls o) 0 = 5 := by
        unfold am_ft
        rw [if_neg h16, List.getD_eq_getElem?_getD, List.getElem?_eq_none (by show 5 ≤ am_cls o - 16; omega)]
        rfl
      rw [h5] at h ⊢
      have e : arrV (C.2.1 (am_cls o)) (am_len o) (fun j => va_rf (if S.2.2.1 o j = true then some (C.2.2.1 (am_ref o j)) else none)) = arrV (C.2.1 (am_cls o)) (am_len o) (fun j => va_rf (some (C.2.2.1 (am_ref o j)))) :=
        zc_arrV (fun i hi => by rw [if_pos (List.all_eq_true.mp z i (List.mem_range.mpr hi))])
      have h : H[a]? = some (arrV (C.2.1 (am_cls o)) (am_len o) (fun j => va_rf (if S.2.2.1 o j = true then some (C.2.2.1 (am_ref o j)) else none))) := h
      show H[a]? = some (arrV (C.2.1 (am_cls o)) (am_len o) (fun j => va_rf (some (C.2.2.1 (am_ref o j)))))
      rw [← e]
      exact h
theorem zc_whole {C : am_C} {S : zc_S} (hc : zc_chk S = true) (hn : S.1 = 263) {D : va_G} {A : Nat → Prop} {H : Heap} (hP : va_P D am_cl (zc_ws C S) H) (hD : va_D A (zc_ws C S)) : va_P D am_cl (am_ws C S.2.2.2) H ∧ va_D A (am_ws C S.2.2.2) := by
  have hat : ∀ (k : Nat) (q : Nat × va_E), (am_ws C S.2.2.2)[k]? = some q → k < 263 ∧ q = (C.2.2.1 k, am_cell C S.2.2.2 k) := by
    intro k q h
    by_cases hk : k < 263
    · rw [am_ws_at C _ hk] at h
      exact ⟨hk, (Option.some.inj h).symm⟩
    · have : (am_ws C S.2.2.2)[k]? = none := by unfold am_ws am_N; simp; omega
      rw [this] at h
      cases h
  refine ⟨fun k q h => ?_, fun i j p q hi hj e => ?_, fun k q h => ?_⟩
  · obtain ⟨hk, rfl⟩ := hat k q h
    exact zc_cells hc hk (hP k _ (zc_ws_at C S (by omega)))
  · obtain ⟨h1, rfl⟩ := hat i p hi
    obtain ⟨h2, rfl⟩ := hat j q hj
    exact hD.1 i j _ _ (zc_ws_at C S (by omega)) (zc_ws_at C S (by omega)) e
  · obtain ⟨hk, rfl⟩ := hat k q h
    exact hD.2 k (C.2.2.1 k, zc_cell C S.2.2.1 S.2.2.2 k) (zc_ws_at C S (by omega))
theorem zc_okM {S : zc_S} (hc : zc_chk S = true) (hI : zc_I S) : am_okM S.2.2.2 := by
  intro o k
  by_cases ho : o < 263
  · have z := List.all_eq_true.mp hc o (List.mem_range.mpr ho)
    by_cases h16 : am_cls o < 16
    · rw [if_pos h16] at z
      by_cases hk : k < am_nf (am_cls o)
      · have y := List.all_eq_true.mp z k (List.mem_range.mpr hk)
        by_cases h5 : am_ft (am_cls o) k = 5
        · rw [h5]; exact trivial
        · rw [if_neg h5] at y
          simp only [Bool.or_eq_true, decide_eq_true_eq] at y
          unfold am_inT
          split
          · unfold am_inI; omega
          · unfold am_inJ; omega
          · omega
          · omega
          · omega
          · trivial
      · have h5 : am_ft (am_cls o) k = 5 := by
          have y : ∀ t, t < 16 → (am_ftL.getD t []).length ≤ am_nf t := by decide +kernel
          unfold am_ft
          rw [if_pos h16, List.getD_eq_getElem?_getD, List.getElem?_eq_none (by have := y _ h16; omega)]
          rfl
        rw [h5]; exact trivial
    · rw [hI.2.2 o k (by omega)]
      unfold am_inT
      split
      · unfold am_inI; omega
      · unfold am_inJ; omega
      · omega
      · omega
      · omega
      · trivial
  · have hl : am_clsL.length = 263 := by decide +kernel
    have e : am_cls o = 99 := by
      unfold am_cls
      rw [List.getD_eq_getElem?_getD, List.getElem?_eq_none (by omega)]
      rfl
    rw [e]
    exact trivial
theorem zc_R {S : zc_S} (h : zc_ini S = true) : am_R S.2.2.2 := by
  unfold zc_ini at h
  simp only [decide_eq_true_eq] at h
  obtain ⟨h1, h2, h3, h4, h5, h6, h183, h7, h8, h9, h10, h11, h12⟩ := h
  refine ⟨⟨by omega, by omega, by omega, fun i hi => ?_⟩, ⟨by omega, by omega, by omega, fun i hi => ?_⟩, ⟨h5, h6, h183⟩, ⟨by omega, by omega, by omega, by omega, by omega, by omega⟩, by omega, fun h => absurd h12 h⟩
  · exfalso; omega
  · exfalso; omega
