/-! The instruction tables are what the claim's bytes decode to. -/
def am_il (i : Instr) : Nat := match i with
  | .bipush _ => 2
  | .sipush _ => 3
  | .ldc _ => 2
  | .ldc2_w _ => 3
  | .iload _ => 2
  | .lload _ => 2
  | .aload _ => 2
  | .istore _ => 2
  | .lstore _ => 2
  | .astore _ => 2
  | .iinc _ _ => 3
  | .ifCond _ _ => 3
  | .if_icmp _ _ => 3
  | .goto _ => 3
  | .getfield _ => 3
  | .putfield _ => 3
  | .getstatic _ => 3
  | .invokevirtual _ => 3
  | .invokestatic _ => 3
  | .invokespecial _ => 3
  | .new _ => 3
  | .anewarray _ => 3
  | .newarray _ => 2
  | _ => 1
def am_isw (i : Instr) : Bool := match i with
  | .tableswitch _ _ _ _ => true
  | _ => false
def am_jmp (pc : Nat) (i : Instr) : Bool := match i with
  | .ifCond _ off => decide (0 ≤ (pc : Int) + off)
  | .if_icmp _ off => decide (0 ≤ (pc : Int) + off)
  | .goto off => decide (0 ≤ (pc : Int) + off)
  | .tableswitch d _ _ offs => decide (0 ≤ (pc : Int) + d) && offs.toList.all (fun o => decide (0 ≤ (pc : Int) + o))
  | _ => true
def am_cll (j : Nat) (i : Instr) : Bool := match i with
  | .invokevirtual x => (match tb_m (am_mo j) x with | some q => decide (am_md q.1 + 1 ≤ am_md j) && decide (8 + (am_ml q.1 + 11) + am_lr q.1 ≤ am_lr j) && decide (am_rcg q.1 ≠ 0) | none => true)
  | .invokestatic x => (match tb_m (am_mo j) x with | some q => decide (am_md q.1 + 1 ≤ am_md j) && decide (8 + (am_ml q.1 + 11) + am_lr q.1 ≤ am_lr j) && decide (am_rcg q.1 = 0) | none => true)
  | _ => true
def ck_i (j : Nat) (q : Nat × Instr) : Bool := (match decode (am_mc j) q.1 with | .ok (i, len) => decide (i = q.2) && (decide (len = am_il q.2) || am_isw q.2) | .error _ => false) && am_jmp q.1 q.2 && am_cll j q.2
def ck_d (j : Nat) : Bool := (tb_cd j).all (ck_i j)
set_option maxRecDepth 100000 in
set_option maxHeartbeats 4000000 in
theorem ck_d_0 : ((List.range 18).all fun i => ck_d (0 + i)) = true := by decide +kernel
set_option maxRecDepth 100000 in
set_option maxHeartbeats 4000000 in
theorem ck_d_18 : ((List.range 8).all fun i => ck_d (18 + i)) = true := by decide +kernel
set_option maxRecDepth 100000 in
set_option maxHeartbeats 4000000 in
theorem ck_d_26 : ((List.range 11).all fun i => ck_d (26 + i)) = true := by decide +kernel
set_option maxRecDepth 100000 in
set_option maxHeartbeats 4000000 in
theorem ck_d_37 : ((List.range 9).all fun i => ck_d (37 + i)) = true := by decide +kernel
set_option maxRecDepth 100000 in
set_option maxHeartbeats 4000000 in
theorem ck_d_46 : ((List.range 11).all fun i => ck_d (46 + i)) = true := by decide +kernel
set_option maxRecDepth 100000 in
set_option maxHeartbeats 4000000 in
theorem ck_d_58 : ((List.range 10).all fun i => ck_d (58 + i)) = true := by decide +kernel
set_option maxRecDepth 100000 in
set_option maxHeartbeats 4000000 in
theorem ck_d_68 : ((List.range 9).all fun i => ck_d (68 + i)) = true := by decide +kernel
set_option maxRecDepth 100000 in
set_option maxHeartbeats 4000000 in
theorem ck_d_77 : ((List.range 9).all fun i => ck_d (77 + i)) = true := by decide +kernel
set_option maxRecDepth 100000 in
set_option maxHeartbeats 4000000 in
theorem ck_d_86 : ((List.range 11).all fun i => ck_d (86 + i)) = true := by decide +kernel
set_option maxRecDepth 100000 in
set_option maxHeartbeats 4000000 in
theorem ck_d_97 : ((List.range 12).all fun i => ck_d (97 + i)) = true := by decide +kernel
set_option maxRecDepth 100000 in
set_option maxHeartbeats 4000000 in
theorem ck_d_109 : ((List.range 10).all fun i => ck_d (109 + i)) = true := by decide +kernel
set_option maxRecDepth 100000 in
set_option maxHeartbeats 4000000 in
theorem ck_d_119 : ((List.range 14).all fun i => ck_d (119 + i)) = true := by decide +kernel
set_option maxRecDepth 100000 in
set_option maxHeartbeats 4000000 in
theorem ck_d_133 : ((List.range 13).all fun i => ck_d (133 + i)) = true := by decide +kernel
set_option maxRecDepth 100000 in
set_option maxHeartbeats 4000000 in
theorem ck_d_146 : ((List.range 9).all fun i => ck_d (146 + i)) = true := by decide +kernel
set_option maxRecDepth 100000 in
set_option maxHeartbeats 4000000 in
theorem ck_d_155 : ((List.range 11).all fun i => ck_d (155 + i)) = true := by decide +kernel
set_option maxRecDepth 100000 in
set_option maxHeartbeats 4000000 in
theorem ck_d_166 : ((List.range 8).all fun i => ck_d (166 + i)) = true := by decide +kernel
set_option maxRecDepth 100000 in
set_option maxHeartbeats 4000000 in
theorem ck_d_174 : ((List.range 6).all fun i => ck_d (174 + i)) = true := by decide +kernel
set_option maxRecDepth 100000 in
set_option maxHeartbeats 4000000 in
theorem ck_d_180 : ((List.range 4).all fun i => ck_d (180 + i)) = true := by decide +kernel
set_option maxRecDepth 100000 in
set_option maxHeartbeats 4000000 in
theorem ck_d_184 : ((List.range 6).all fun i => ck_d (184 + i)) = true := by decide +kernel
set_option maxRecDepth 100000 in
set_option maxHeartbeats 4000000 in
theorem ck_d_190 : ((List.range 5).all fun i => ck_d (190 + i)) = true := by decide +kernel
set_option maxRecDepth 100000 in
set_option maxHeartbeats 4000000 in
theorem ck_d_195 : ((List.range 5).all fun i => ck_d (195 + i)) = true := by decide +kernel
set_option maxRecDepth 100000 in
set_option maxHeartbeats 4000000 in
theorem ck_d_200 : ((List.range 6).all fun i => ck_d (200 + i)) = true := by decide +kernel
set_option maxRecDepth 100000 in
set_option maxHeartbeats 4000000 in
theorem ck_d_206 : ((List.range 7).all fun i => ck_d (206 + i)) = true := by decide +kernel
set_option maxRecDepth 100000 in
set_option maxHeartbeats 4000000 in
theorem ck_d_213 : ((List.range 7).all fun i => ck_d (213 + i)) = true := by decide +kernel
set_option maxRecDepth 100000 in
set_option maxHeartbeats 4000000 in
theorem ck_d_220 : ((List.range 4).all fun i => ck_d (220 + i)) = true := by decide +kernel
set_option maxRecDepth 100000 in
set_option maxHeartbeats 4000000 in
theorem ck_d_224 : ((List.range 4).all fun i => ck_d (224 + i)) = true := by decide +kernel
set_option maxRecDepth 100000 in
set_option maxHeartbeats 4000000 in
theorem ck_d_228 : ((List.range 4).all fun i => ck_d (228 + i)) = true := by decide +kernel
set_option maxRecDepth 100000 in
set_option maxHeartbeats 4000000 in
theorem ck_d_234 : ((List.range 1).all fun i => ck_d (234 + i)) = true := by decide +kernel
def am_hd (j : Nat) : Prop := j ≠ 57 ∧ j ≠ 232 ∧ j ≠ 233
theorem ck_d_all {j : Nat} (h : j < 235) (h1 : am_hd j) : ck_d j = true := by
  unfold am_hd at h1
  by_cases h0 : 0 ≤ j ∧ j < 18
  · exact am_rg ck_d_0 (by omega) (by omega)
  by_cases h18 : 18 ≤ j ∧ j < 26
  · exact am_rg ck_d_18 (by omega) (by omega)
  by_cases h26 : 26 ≤ j ∧ j < 37
  · exact am_rg ck_d_26 (by omega) (by omega)
  by_cases h37 : 37 ≤ j ∧ j < 46
  · exact am_rg ck_d_37 (by omega) (by omega)
  by_cases h46 : 46 ≤ j ∧ j < 57
  · exact am_rg ck_d_46 (by omega) (by omega)
  by_cases h58 : 58 ≤ j ∧ j < 68
  · exact am_rg ck_d_58 (by omega) (by omega)
  by_cases h68 : 68 ≤ j ∧ j < 77
  · exact am_rg ck_d_68 (by omega) (by omega)
  by_cases h77 : 77 ≤ j ∧ j < 86
  · exact am_rg ck_d_77 (by omega) (by omega)
  by_cases h86 : 86 ≤ j ∧ j < 97
  · exact am_rg ck_d_86 (by omega) (by omega)
  by_cases h97 : 97 ≤ j ∧ j < 109
  · exact am_rg ck_d_97 (by omega) (by omega)
  by_cases h109 : 109 ≤ j ∧ j < 119
  · exact am_rg ck_d_109 (by omega) (by omega)
  by_cases h119 : 119 ≤ j ∧ j < 133
  · exact am_rg ck_d_119 (by omega) (by omega)
  by_cases h133 : 133 ≤ j ∧ j < 146
  · exact am_rg ck_d_133 (by omega) (by omega)
  by_cases h146 : 146 ≤ j ∧ j < 155
  · exact am_rg ck_d_146 (by omega) (by omega)
  by_cases h155 : 155 ≤ j ∧ j < 166
  · exact am_rg ck_d_155 (by omega) (by omega)
  by_cases h166 : 166 ≤ j ∧ j < 174
  · exact am_rg ck_d_166 (by omega) (by omega)
  by_cases h174 : 174 ≤ j ∧ j < 180
  · exact am_rg ck_d_174 (by omega) (by omega)
  by_cases h180 : 180 ≤ j ∧ j < 184
  · exact am_rg ck_d_180 (by omega) (by omega)
  by_cases h184 : 184 ≤ j ∧ j < 190
  · exact am_rg ck_d_184 (by omega) (by omega)
  by_cases h190 : 190 ≤ j ∧ j < 195
  · exact am_rg ck_d_190 (by omega) (by omega)
  by_cases h195 : 195 ≤ j ∧ j < 200
  · exact am_rg ck_d_195 (by omega) (by omega)
  by_cases h200 : 200 ≤ j ∧ j < 206
  · exact am_rg ck_d_200 (by omega) (by omega)
  by_cases h206 : 206 ≤ j ∧ j < 213
  · exact am_rg ck_d_206 (by omega) (by omega)
  by_cases h213 : 213 ≤ j ∧ j < 220
  · exact am_rg ck_d_213 (by omega) (by omega)
  by_cases h220 : 220 ≤ j ∧ j < 224
  · exact am_rg ck_d_220 (by omega) (by omega)
  by_cases h224 : 224 ≤ j ∧ j < 228
  · exact am_rg ck_d_224 (by omega) (by omega)
  by_cases h228 : 228 ≤ j ∧ j < 232
  · exact am_rg ck_d_228 (by omega) (by omega)
  by_cases h234 : 234 ≤ j ∧ j < 235
  · exact am_rg ck_d_234 (by omega) (by omega)
  omega
theorem tb_fd_mem {pc : Nat} {i : Instr} : ∀ {l : List (Nat × Instr)}, tb_fd pc l = some i → (pc, i) ∈ l
  | [], h => by cases h
  | q :: r, h => by
    unfold tb_fd at h
    split at h
    · rename_i e
      cases h
      rw [← e]
      exact List.mem_cons_self
    · exact List.mem_cons_of_mem _ (tb_fd_mem h)
theorem am_dec {j pc : Nat} {i : Instr} (hj : j < 235) (h1 : am_hd j) (h : tb_ins j pc = some i) : (∃ len, decode (am_mc j) pc = .ok (i, len) ∧ (len = am_il i ∨ am_isw i = true)) ∧ am_jmp pc i = true ∧ am_cll j i = true := by
  have z := List.all_eq_true.mp (ck_d_all hj h1) (pc, i) (tb_fd_mem h)
  unfold ck_i at z
  simp only [Bool.and_eq_true] at z
  obtain ⟨⟨z1, z2⟩, z3⟩ := z
  refine ⟨?_, z2, z3⟩
  split at z1
  · rename_i i2 len e
    simp only [Bool.and_eq_true, Bool.or_eq_true, decide_eq_true_eq] at z1
    obtain ⟨rfl, z4⟩ := z1
    exact ⟨len, e, z4⟩
  · cases z1
