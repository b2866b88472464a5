/-- SureSumsModel.divides(JJ)V -/
def mz_164 : am_Y := (fun pc => am_q164.lookup pc, 9, 0)
theorem mh_164 : am_Ys 164 = some mz_164 := rfl
theorem w164_0 {ext : Nat → List Value → am_M → Option am_R} {d : Nat} {P : am_R → Prop} (I : Nat → Nat → Int32) (L : Nat → Nat → Int64) (D : Nat → Nat → UInt64) (X : am_Rf) (v1 : Int64) (v3 : Int64)
    (h : ((0 < (L 42 51) → (am_wp ext d mz_164 (23, [some (.ref 42), some (.long v1), none, some (.long v3), none, none, none, none, none], [], (I, L, D, am_rf X)) P)) ∧ (¬ 0 < (L 42 51) → ((((L 42 52) < 0 → (am_wp ext d mz_164 (23, [some (.ref 42), some (.long v1), none, some (.long v3), none, none, none, none, none], [], (I, L, D, am_rf X)) P)) ∧ (¬ (L 42 52) < 0 → (∃ (I1 : Nat → Nat → Int32) (L1 : Nat → Nat → Int64) (D1 : Nat → Nat → UInt64), am_Rn ext d 152 [.ref 42] (I, L, D, am_rf X) (none, (I1, L1, D1, am_rf X)) ∧ (P (none, (I1, L1, D1, am_rf X)))))))))) : am_wp ext d mz_164 (0, [some (.ref 42), some (.long v1), none, some (.long v3), none, none, none, none, none], [], (I, L, D, am_rf X)) P := by
  refine am_wpb (c' := (5, [some (.ref 42), some (.long v1), none, some (.long v3), none, none, none, none, none], [.long 0, .long (L 42 51)], (I, L, D, am_rf X))) 3 rfl ?_
  refine am_lc_gt rfl rfl (fun z => ?_) (fun z => ?_)
  · replace h := h.1 z
    exact h
  · replace h := h.2 z
    refine am_wpb (c' := (14, [some (.ref 42), some (.long v1), none, some (.long v3), none, none, none, none, none], [.long 0, .long (L 42 52)], (I, L, D, am_rf X))) 3 rfl ?_
    refine am_lc_lt rfl rfl (fun z => ?_) (fun z => ?_)
    · replace h := h.1 z
      exact h
    · replace h := h.2 z
      refine am_wpb (c' := (19, [some (.ref 42), some (.long v1), none, some (.long v3), none, none, none, none, none], [.ref 42], (I, L, D, am_rf X))) 1 rfl ?_
      obtain ⟨I1, L1, D1, hr, h⟩ := h
      refine am_wp_inv (as := [.ref 42]) rfl rfl rfl rfl ⟨_, hr, ?_⟩
      show am_wp ext d mz_164 (22, [some (.ref 42), some (.long v1), none, some (.long v3), none, none, none, none, none], [], (I1, L1, D1, am_rf X)) P
      exact am_ret_v rfl rfl h
theorem w164_23 {ext : Nat → List Value → am_M → Option am_R} {d : Nat} {P : am_R → Prop} (I : Nat → Nat → Int32) (L : Nat → Nat → Int64) (D : Nat → Nat → UInt64) (X : am_Rf) (v1 : Int64) (v3 : Int64)
    (h : ∃ (r1 : Int64) (I1 : Nat → Nat → Int32) (L1 : Nat → Nat → Int64) (D1 : Nat → Nat → UInt64), am_Rn ext d 155 [.long v1, .long (L 42 51)] (I, L, D, am_rf X) (some (.long r1), (I1, L1, D1, am_rf X)) ∧ (∃ (r2 : Int64) (I2 : Nat → Nat → Int32) (L2 : Nat → Nat → Int64) (D2 : Nat → Nat → UInt64), am_Rn ext d 155 [.long v1, .long (L1 42 52)] (I1, L1, D1, am_rf X) (some (.long r2), (I2, L2, D2, am_rf X)) ∧ (∃ (r3 : Int64) (I3 : Nat → Nat → Int32) (L3 : Nat → Nat → Int64) (D3 : Nat → Nat → UInt64), am_Rn ext d 157 [.long r1, .long r2] (I2, L2, D2, am_rf X) (some (.long r3), (I3, L3, D3, am_rf X)) ∧ (∃ (r4 : Int64) (I4 : Nat → Nat → Int32) (L4 : Nat → Nat → Int64) (D4 : Nat → Nat → UInt64), am_Rn ext d 155 [.long v3, .long (L3 42 51)] (I3, L3, D3, am_rf X) (some (.long r4), (I4, L4, D4, am_rf X)) ∧ (∃ (r5 : Int64) (I5 : Nat → Nat → Int32) (L5 : Nat → Nat → Int64) (D5 : Nat → Nat → UInt64), am_Rn ext d 155 [.long v3, .long (L4 42 52)] (I4, L4, D4, am_rf X) (some (.long r5), (I5, L5, D5, am_rf X)) ∧ (∃ (r6 : Int64) (I6 : Nat → Nat → Int32) (L6 : Nat → Nat → Int64) (D6 : Nat → Nat → UInt64), am_Rn ext d 157 [.long r4, .long r5] (I5, L5, D5, am_rf X) (some (.long r6), (I6, L6, D6, am_rf X)) ∧ (∃ (r7 : Int64) (I7 : Nat → Nat → Int32) (L7 : Nat → Nat → Int64) (D7 : Nat → Nat → UInt64), am_Rn ext d 157 [.long r3, .long r6] (I6, L6, D6, am_rf X) (some (.long r7), (I7, L7, D7, am_rf X)) ∧ (∃ (r8 : Int64) (I8 : Nat → Nat → Int32) (L8 : Nat → Nat → Int64) (D8 : Nat → Nat → UInt64), am_Rn ext d 156 [.long v1, .long (L7 42 51)] (I7, L7, D7, am_rf X) (some (.long r8), (I8, L8, D8, am_rf X)) ∧ (∃ (r9 : Int64) (I9 : Nat → Nat → Int32) (L9 : Nat → Nat → Int64) (D9 : Nat → Nat → UInt64), am_Rn ext d 156 [.long v1, .long (L8 42 52)] (I8, L8, D8, am_rf X) (some (.long r9), (I9, L9, D9, am_rf X)) ∧ (∃ (r10 : Int64) (I10 : Nat → Nat → Int32) (L10 : Nat → Nat → Int64) (D10 : Nat → Nat → UInt64), am_Rn ext d 158 [.long r8, .long r9] (I9, L9, D9, am_rf X) (some (.long r10), (I10, L10, D10, am_rf X)) ∧ (∃ (r11 : Int64) (I11 : Nat → Nat → Int32) (L11 : Nat → Nat → Int64) (D11 : Nat → Nat → UInt64), am_Rn ext d 156 [.long v3, .long (L10 42 51)] (I10, L10, D10, am_rf X) (some (.long r11), (I11, L11, D11, am_rf X)) ∧ (∃ (r12 : Int64) (I12 : Nat → Nat → Int32) (L12 : Nat → Nat → Int64) (D12 : Nat → Nat → UInt64), am_Rn ext d 156 [.long v3, .long (L11 42 52)] (I11, L11, D11, am_rf X) (some (.long r12), (I12, L12, D12, am_rf X)) ∧ (∃ (r13 : Int64) (I13 : Nat → Nat → Int32) (L13 : Nat → Nat → Int64) (D13 : Nat → Nat → UInt64), am_Rn ext d 158 [.long r11, .long r12] (I12, L12, D12, am_rf X) (some (.long r13), (I13, L13, D13, am_rf X)) ∧ (∃ (r14 : Int64) (I14 : Nat → Nat → Int32) (L14 : Nat → Nat → Int64) (D14 : Nat → Nat → UInt64), am_Rn ext d 158 [.long r10, .long r13] (I13, L13, D13, am_rf X) (some (.long r14), (I14, L14, D14, am_rf X)) ∧ (∃ (I15 : Nat → Nat → Int32) (L15 : Nat → Nat → Int64) (D15 : Nat → Nat → UInt64), am_Rn ext d 151 [.ref 42, .int 1, .long r7, .long r14] (I14, L14, D14, am_rf X) (none, (I15, L15, D15, am_rf X)) ∧ (P (none, (I15, L15, D15, am_rf X)))))))))))))))))) : am_wp ext d mz_164 (23, [some (.ref 42), some (.long v1), none, some (.long v3), none, none, none, none, none], [], (I, L, D, am_rf X)) P := by
  refine am_wpb (c' := (28, [some (.ref 42), some (.long v1), none, some (.long v3), none, none, none, none, none], [.long (L 42 51), .long v1], (I, L, D, am_rf X))) 3 rfl ?_
  obtain ⟨r1, I1, L1, D1, hr, h⟩ := h
  refine am_wp_inv (as := [.long v1, .long (L 42 51)]) rfl rfl rfl rfl ⟨_, hr, ?_⟩
  show am_wp ext d mz_164 (31, [some (.ref 42), some (.long v1), none, some (.long v3), none, none, none, none, none], [.long r1], (I1, L1, D1, am_rf X)) P
  refine am_wpb (c' := (36, [some (.ref 42), some (.long v1), none, some (.long v3), none, none, none, none, none], [.long (L1 42 52), .long v1, .long r1], (I1, L1, D1, am_rf X))) 3 rfl ?_
  obtain ⟨r2, I2, L2, D2, hr, h⟩ := h
  refine am_wp_inv (as := [.long v1, .long (L1 42 52)]) rfl rfl rfl rfl ⟨_, hr, ?_⟩
  show am_wp ext d mz_164 (39, [some (.ref 42), some (.long v1), none, some (.long v3), none, none, none, none, none], [.long r2, .long r1], (I2, L2, D2, am_rf X)) P
  obtain ⟨r3, I3, L3, D3, hr, h⟩ := h
  refine am_wp_inv (as := [.long r1, .long r2]) rfl rfl rfl rfl ⟨_, hr, ?_⟩
  show am_wp ext d mz_164 (42, [some (.ref 42), some (.long v1), none, some (.long v3), none, none, none, none, none], [.long r3], (I3, L3, D3, am_rf X)) P
  refine am_wpb (c' := (47, [some (.ref 42), some (.long v1), none, some (.long v3), none, none, none, none, none], [.long (L3 42 51), .long v3, .long r3], (I3, L3, D3, am_rf X))) 3 rfl ?_
  obtain ⟨r4, I4, L4, D4, hr, h⟩ := h
  refine am_wp_inv (as := [.long v3, .long (L3 42 51)]) rfl rfl rfl rfl ⟨_, hr, ?_⟩
  show am_wp ext d mz_164 (50, [some (.ref 42), some (.long v1), none, some (.long v3), none, none, none, none, none], [.long r4, .long r3], (I4, L4, D4, am_rf X)) P
  refine am_wpb (c' := (55, [some (.ref 42), some (.long v1), none, some (.long v3), none, none, none, none, none], [.long (L4 42 52), .long v3, .long r4, .long r3], (I4, L4, D4, am_rf X))) 3 rfl ?_
  obtain ⟨r5, I5, L5, D5, hr, h⟩ := h
  refine am_wp_inv (as := [.long v3, .long (L4 42 52)]) rfl rfl rfl rfl ⟨_, hr, ?_⟩
  show am_wp ext d mz_164 (58, [some (.ref 42), some (.long v1), none, some (.long v3), none, none, none, none, none], [.long r5, .long r4, .long r3], (I5, L5, D5, am_rf X)) P
  obtain ⟨r6, I6, L6, D6, hr, h⟩ := h
  refine am_wp_inv (as := [.long r4, .long r5]) rfl rfl rfl rfl ⟨_, hr, ?_⟩
  show am_wp ext d mz_164 (61, [some (.ref 42), some (.long v1), none, some (.long v3), none, none, none, none, none], [.long r6, .long r3], (I6, L6, D6, am_rf X)) P
  obtain ⟨r7, I7, L7, D7, hr, h⟩ := h
  refine am_wp_inv (as := [.long r3, .long r6]) rfl rfl rfl rfl ⟨_, hr, ?_⟩
  show am_wp ext d mz_164 (64, [some (.ref 42), some (.long v1), none, some (.long v3), none, none, none, none, none], [.long r7], (I7, L7, D7, am_rf X)) P
  refine am_wpb (c' := (71, [some (.ref 42), some (.long v1), none, some (.long v3), none, some (.long r7), none, none, none], [.long (L7 42 51), .long v1], (I7, L7, D7, am_rf X))) 4 rfl ?_
  obtain ⟨r8, I8, L8, D8, hr, h⟩ := h
  refine am_wp_inv (as := [.long v1, .long (L7 42 51)]) rfl rfl rfl rfl ⟨_, hr, ?_⟩
  show am_wp ext d mz_164 (74, [some (.ref 42), some (.long v1), none, some (.long v3), none, some (.long r7), none, none, none], [.long r8], (I8, L8, D8, am_rf X)) P
  refine am_wpb (c' := (79, [some (.ref 42), some (.long v1), none, some (.long v3), none, some (.long r7), none, none, none], [.long (L8 42 52), .long v1, .long r8], (I8, L8, D8, am_rf X))) 3 rfl ?_
  obtain ⟨r9, I9, L9, D9, hr, h⟩ := h
  refine am_wp_inv (as := [.long v1, .long (L8 42 52)]) rfl rfl rfl rfl ⟨_, hr, ?_⟩
  show am_wp ext d mz_164 (82, [some (.ref 42), some (.long v1), none, some (.long v3), none, some (.long r7), none, none, none], [.long r9, .long r8], (I9, L9, D9, am_rf X)) P
  obtain ⟨r10, I10, L10, D10, hr, h⟩ := h
  refine am_wp_inv (as := [.long r8, .long r9]) rfl rfl rfl rfl ⟨_, hr, ?_⟩
  show am_wp ext d mz_164 (85, [some (.ref 42), some (.long v1), none, some (.long v3), none, some (.long r7), none, none, none], [.long r10], (I10, L10, D10, am_rf X)) P
  refine am_wpb (c' := (90, [some (.ref 42), some (.long v1), none, some (.long v3), none, some (.long r7), none, none, none], [.long (L10 42 51), .long v3, .long r10], (I10, L10, D10, am_rf X))) 3 rfl ?_
  obtain ⟨r11, I11, L11, D11, hr, h⟩ := h
  refine am_wp_inv (as := [.long v3, .long (L10 42 51)]) rfl rfl rfl rfl ⟨_, hr, ?_⟩
  show am_wp ext d mz_164 (93, [some (.ref 42), some (.long v1), none, some (.long v3), none, some (.long r7), none, none, none], [.long r11, .long r10], (I11, L11, D11, am_rf X)) P
  refine am_wpb (c' := (98, [some (.ref 42), some (.long v1), none, some (.long v3), none, some (.long r7), none, none, none], [.long (L11 42 52), .long v3, .long r11, .long r10], (I11, L11, D11, am_rf X))) 3 rfl ?_
  obtain ⟨r12, I12, L12, D12, hr, h⟩ := h
  refine am_wp_inv (as := [.long v3, .long (L11 42 52)]) rfl rfl rfl rfl ⟨_, hr, ?_⟩
  show am_wp ext d mz_164 (101, [some (.ref 42), some (.long v1), none, some (.long v3), none, some (.long r7), none, none, none], [.long r12, .long r11, .long r10], (I12, L12, D12, am_rf X)) P
  obtain ⟨r13, I13, L13, D13, hr, h⟩ := h
  refine am_wp_inv (as := [.long r11, .long r12]) rfl rfl rfl rfl ⟨_, hr, ?_⟩
  show am_wp ext d mz_164 (104, [some (.ref 42), some (.long v1), none, some (.long v3), none, some (.long r7), none, none, none], [.long r13, .long r10], (I13, L13, D13, am_rf X)) P
  obtain ⟨r14, I14, L14, D14, hr, h⟩ := h
  refine am_wp_inv (as := [.long r10, .long r13]) rfl rfl rfl rfl ⟨_, hr, ?_⟩
  show am_wp ext d mz_164 (107, [some (.ref 42), some (.long v1), none, some (.long v3), none, some (.long r7), none, none, none], [.long r14], (I14, L14, D14, am_rf X)) P
  refine am_wpb (c' := (115, [some (.ref 42), some (.long v1), none, some (.long v3), none, some (.long r7), none, some (.long r14), none], [.long r14, .long r7, .int 1, .ref 42], (I14, L14, D14, am_rf X))) 5 rfl ?_
  obtain ⟨I15, L15, D15, hr, h⟩ := h
  refine am_wp_inv (as := [.ref 42, .int 1, .long r7, .long r14]) rfl rfl rfl rfl ⟨_, hr, ?_⟩
  show am_wp ext d mz_164 (118, [some (.ref 42), some (.long v1), none, some (.long v3), none, some (.long r7), none, some (.long r14), none], [], (I15, L15, D15, am_rf X)) P
  exact am_ret_v rfl rfl h
/-- SureSumsModel.chooses(III)V -/
def mz_165 : am_Y := (fun pc => am_q165.lookup pc, 15, 0)
theorem mh_165 : am_Ys 165 = some mz_165 := rfl
theorem w165_0 {ext : Nat → List Value → am_M → Option am_R} {d : Nat} {P : am_R → Prop} (I : Nat → Nat → Int32) (L : Nat → Nat → Int64) (D : Nat → Nat → UInt64) (X : am_Rf) (v1 : Int32) (v2 : Int32) (v3 : Int32)
    (h : ((¬ v3 = 1 → (am_wp ext d mz_165 (10, [some (.ref 42), some (.int v1), some (.int v2), some (.int v3), none, none, none, none, none, none, none, none, none, none, none], [], (I, L, D, am_rf X)) P)) ∧ (v3 = 1 → (∃ (I1 : Nat → Nat → Int32) (L1 : Nat → Nat → Int64) (D1 : Nat → Nat → UInt64), am_Rn ext d 160 [.ref 42, .int v1] (I, L, D, am_rf X) (none, (I1, L1, D1, am_rf X)) ∧ (am_wp ext d mz_165 (10, [some (.ref 42), some (.int v1), some (.int v2), some (.int v3), none, none, none, none, none, none, none, none, none, none, none], [], (I1, L1, D1, am_rf X)) P))))) : am_wp ext d mz_165 (0, [some (.ref 42), some (.int v1), some (.int v2), some (.int v3), none, none, none, none, none, none, none, none, none, none, none], [], (I, L, D, am_rf X)) P := by
  refine am_wpb (c' := (2, [some (.ref 42), some (.int v1), some (.int v2), some (.int v3), none, none, none, none, none, none, none, none, none, none, none], [.int 1, .int v3], (I, L, D, am_rf X))) 2 rfl ?_
  refine am_b2_ne rfl (fun z => ?_) (fun z => ?_)
  · replace h := h.1 z
    exact h
  · replace h := h.2 z
    refine am_wpb (c' := (7, [some (.ref 42), some (.int v1), some (.int v2), some (.int v3), none, none, none, none, none, none, none, none, none, none, none], [.int v1, .ref 42], (I, L, D, am_rf X))) 2 rfl ?_
    obtain ⟨I1, L1, D1, hr, h⟩ := h
    refine am_wp_inv (as := [.ref 42, .int v1]) rfl rfl rfl rfl ⟨_, hr, ?_⟩
    show am_wp ext d mz_165 (10, [some (.ref 42), some (.int v1), some (.int v2), some (.int v3), none, none, none, none, none, none, none, none, none, none, none], [], (I1, L1, D1, am_rf X)) P
    exact h
theorem w165_10 {ext : Nat → List Value → am_M → Option am_R} {d : Nat} {P : am_R → Prop} (I : Nat → Nat → Int32) (L : Nat → Nat → Int64) (D : Nat → Nat → UInt64) (X : am_Rf) (v1 : Int32) (v2 : Int32) (v3 : Int32)
    (h : ((2 ≤ v3 → (((¬ v3 = 2 → (((¬ v3 = 3 → (((¬ v3 = 4 → (∃ (I1 : Nat → Nat → Int32) (L1 : Nat → Nat → Int64) (D1 : Nat → Nat → UInt64), am_Rn ext d 151 [.ref 42, .int (I 42 50), .long (L 42 51), .long (L 42 52)] (I, L, D, am_rf X) (none, (I1, L1, D1, am_rf X)) ∧ (P (none, (I1, L1, D1, am_rf X))))) ∧ (v3 = 4 → (am_inb v1 128 = true ∧ ((((I 65 (Int32.toNatClampNeg v1)) = 0 → (am_wp ext d mz_165 (329, [some (.ref 42), some (.int v1), none, none, none, none, none, none, none, none, none, none, none, none, none], [.ref 42], (I, L, D, am_rf X)) P)) ∧ (¬ (I 65 (Int32.toNatClampNeg v1)) = 0 → ((((I 42 50) = 0 → (am_wp ext d mz_165 (329, [some (.ref 42), some (.int v1), none, none, none, none, none, none, none, none, none, none, none, none, none], [.ref 42], (I, L, D, am_rf X)) P)) ∧ (¬ (I 42 50) = 0 → (am_wp ext d mz_165 (330, [some (.ref 42), some (.int v1), none, none, none, none, none, none, none, none, none, none, none, none, none], [.int 1, .ref 42], (I, L, D, am_rf X)) P)))))))))))) ∧ (v3 = 3 → (∃ (I2 : Nat → Nat → Int32) (L2 : Nat → Nat → Int64) (D2 : Nat → Nat → UInt64), am_Rn ext d 160 [.ref 42, .int v1] (I, L, D, am_rf X) (none, (I2, L2, D2, am_rf X)) ∧ (am_inb v2 192 = true ∧ (am_inb v1 128 = true ∧ (am_inb v1 128 = true ∧ (∃ (I3 : Nat → Nat → Int32) (L3 : Nat → Nat → Int64) (D3 : Nat → Nat → UInt64), am_Rn ext d 150 [.ref 42, .int (I2 50 (Int32.toNatClampNeg v2)), .long (L2 61 (Int32.toNatClampNeg v1)), .long (L2 62 (Int32.toNatClampNeg v1))] (I2, L2, D2, am_rf X) (none, (I3, L3, D3, am_rf X)) ∧ (P (none, (I3, L3, D3, am_rf X)))))))))))) ∧ (v3 = 2 → (am_inb v1 128 = true ∧ ((((I 65 (Int32.toNatClampNeg v1)) = 0 → (∃ (I4 : Nat → Nat → Int32) (L4 : Nat → Nat → Int64) (D4 : Nat → Nat → UInt64), am_Rn ext d 152 [.ref 42] (I, L, D, am_rf X) (none, (I4, L4, D4, am_rf X)) ∧ (P (none, (I4, L4, D4, am_rf X))))) ∧ (¬ (I 65 (Int32.toNatClampNeg v1)) = 0 → (((¬ (I 42 50) = 0 → (am_inb v2 192 = true ∧ (((¬ (I 45 (Int32.toNatClampNeg v2)) = 13 → (am_wp ext d mz_165 (95, [some (.ref 42), some (.int v1), some (.int v2), none, none, none, none, none, none, none, none, none, none, none, none], [.int 0], (I, L, D, am_rf X)) P)) ∧ ((I 45 (Int32.toNatClampNeg v2)) = 13 → (am_wp ext d mz_165 (95, [some (.ref 42), some (.int v1), some (.int v2), none, none, none, none, none, none, none, none, none, none, none, none], [.int 1], (I, L, D, am_rf X)) P)))))) ∧ ((I 42 50) = 0 → (∃ (I5 : Nat → Nat → Int32) (L5 : Nat → Nat → Int64) (D5 : Nat → Nat → UInt64), am_Rn ext d 152 [.ref 42] (I, L, D, am_rf X) (none, (I5, L5, D5, am_rf X)) ∧ (P (none, (I5, L5, D5, am_rf X))))))))))))))) ∧ (¬ 2 ≤ v3 → (((¬ v3 = 0 → (am_inb v2 192 = true ∧ (am_inb v1 128 = true ∧ (am_inb v1 128 = true ∧ (∃ (I6 : Nat → Nat → Int32) (L6 : Nat → Nat → Int64) (D6 : Nat → Nat → UInt64), am_Rn ext d 150 [.ref 42, .int (I 48 (Int32.toNatClampNeg v2)), .long (L 61 (Int32.toNatClampNeg v1)), .long (L 62 (Int32.toNatClampNeg v1))] (I, L, D, am_rf X) (none, (I6, L6, D6, am_rf X)) ∧ (P (none, (I6, L6, D6, am_rf X)))))))) ∧ (v3 = 0 → (am_inb v2 192 = true ∧ (am_inb v1 128 = true ∧ (am_inb v1 128 = true ∧ (∃ (I7 : Nat → Nat → Int32) (L7 : Nat → Nat → Int64) (D7 : Nat → Nat → UInt64), am_Rn ext d 150 [.ref 42, .int (I 47 (Int32.toNatClampNeg v2)), .long (L 61 (Int32.toNatClampNeg v1)), .long (L 62 (Int32.toNatClampNeg v1))] (I, L, D, am_rf X) (none, (I7, L7, D7, am_rf X)) ∧ (P (none, (I7, L7, D7, am_rf X))))))))))))) : am_wp ext d mz_165 (10, [some (.ref 42), some (.int v1), some (.int v2), some (.int v3), none, none, none, none, none, none, none, none, none, none, none], [], (I, L, D, am_rf X)) P := by
  refine am_wpb (c' := (12, [some (.ref 42), some (.int v1), some (.int v2), some (.int v3), none, none, none, none, none, none, none, none, none, none, none], [.int 2, .int v3], (I, L, D, am_rf X))) 2 rfl ?_
  refine am_b2_ge rfl (fun z => ?_) (fun z => ?_)
  · replace h := h.1 z
    refine am_wpb (c' := (55, [some (.ref 42), some (.int v1), some (.int v2), some (.int v3), none, none, none, none, none, none, none, none, none, none, none], [.int 2, .int v3], (I, L, D, am_rf X))) 2 rfl ?_
    refine am_b2_ne rfl (fun z => ?_) (fun z => ?_)
    · replace h := h.1 z
      refine am_wpb (c' := (270, [some (.ref 42), some (.int v1), some (.int v2), some (.int v3), none, none, none, none, none, none, none, none, none, none, none], [.int 3, .int v3], (I, L, D, am_rf X))) 2 rfl ?_
      refine am_b2_ne rfl (fun z => ?_) (fun z => ?_)
      · replace h := h.1 z
        refine am_wpb (c' := (305, [some (.ref 42), some (.int v1), some (.int v2), some (.int v3), none, none, none, none, none, none, none, none, none, none, none], [.int 4, .int v3], (I, L, D, am_rf X))) 2 rfl ?_
        refine am_b2_ne rfl (fun z => ?_) (fun z => ?_)
        · replace h := h.1 z
          refine am_wpb (c' := (375, [some (.ref 42), some (.int v1), some (.int v2), some (.int v3), none, none, none, none, none, none, none, none, none, none, none], [.long (L 42 52), .long (L 42 51), .int (I 42 50), .ref 42], (I, L, D, am_rf X))) 7 rfl ?_
          obtain ⟨I1, L1, D1, hr, h⟩ := h
          refine am_wp_inv (as := [.ref 42, .int (I 42 50), .long (L 42 51), .long (L 42 52)]) rfl rfl rfl rfl ⟨_, hr, ?_⟩
          show am_wp ext d mz_165 (378, [some (.ref 42), some (.int v1), some (.int v2), some (.int v3), none, none, none, none, none, none, none, none, none, none, none], [], (I1, L1, D1, am_rf X)) P
          exact am_ret_v rfl rfl h
        · replace h := h.2 z
          refine am_wpb (c' := (314, [some (.ref 42), some (.int v1), some (.int v2), some (.int v3), none, none, none, none, none, none, none, none, none, none, none], [.int v1, .ref 65, .ref 42], (I, L, D, am_rf X))) 4 rfl ?_
          obtain ⟨o, h⟩ := h
          refine am_wps (c' := (315, [some (.ref 42), some (.int v1), some (.int v2), some (.int v3), none, none, none, none, none, none, none, none, none, none, none], [.int (I 65 (Int32.toNatClampNeg v1)), .ref 42], (I, L, D, am_rf X))) rfl rfl (am_s_zald rfl o) ?_
          refine am_b1_eq rfl (fun z => ?_) (fun z => ?_)
          · replace h := h.1 z
            exact am_fgt (l := [some (.ref 42), some (.int v1), none, none, none, none, none, none, none, none, none, none, none, none, none]) (am_le_of (am_leS (am_leS (am_leN (am_leN (am_leN (am_leN (am_leN (am_leN (am_leN (am_leN (am_leN (am_leN (am_leN (am_leN (am_leN (am_leZ))))))))))))))))) h
          · replace h := h.2 z
            refine am_wpb (c' := (322, [some (.ref 42), some (.int v1), some (.int v2), some (.int v3), none, none, none, none, none, none, none, none, none, none, none], [.int (I 42 50), .ref 42], (I, L, D, am_rf X))) 2 rfl ?_
            refine am_b1_eq rfl (fun z => ?_) (fun z => ?_)
            · replace h := h.1 z
              exact am_fgt (l := [some (.ref 42), some (.int v1), none, none, none, none, none, none, none, none, none, none, none, none, none]) (am_le_of (am_leS (am_leS (am_leN (am_leN (am_leN (am_leN (am_leN (am_leN (am_leN (am_leN (am_leN (am_leN (am_leN (am_leN (am_leN (am_leZ))))))))))))))))) h
            · replace h := h.2 z
              refine am_wpb (c' := (330, [some (.ref 42), some (.int v1), some (.int v2), some (.int v3), none, none, none, none, none, none, none, none, none, none, none], [.int 1, .ref 42], (I, L, D, am_rf X))) 2 rfl ?_
              exact am_fgt (l := [some (.ref 42), some (.int v1), none, none, none, none, none, none, none, none, none, none, none, none, none]) (am_le_of (am_leS (am_leS (am_leN (am_leN (am_leN (am_leN (am_leN (am_leN (am_leN (am_leN (am_leN (am_leN (am_leN (am_leN (am_leN (am_leZ))))))))))))))))) h
      · replace h := h.2 z
        refine am_wpb (c' := (275, [some (.ref 42), some (.int v1), some (.int v2), some (.int v3), none, none, none, none, none, none, none, none, none, none, none], [.int v1, .ref 42], (I, L, D, am_rf X))) 2 rfl ?_
        obtain ⟨I2, L2, D2, hr, h⟩ := h
        refine am_wp_inv (as := [.ref 42, .int v1]) rfl rfl rfl rfl ⟨_, hr, ?_⟩
        show am_wp ext d mz_165 (278, [some (.ref 42), some (.int v1), some (.int v2), some (.int v3), none, none, none, none, none, none, none, none, none, none, none], [], (I2, L2, D2, am_rf X)) P
        refine am_wpb (c' := (284, [some (.ref 42), some (.int v1), some (.int v2), some (.int v3), none, none, none, none, none, none, none, none, none, none, none], [.int v2, .ref 50, .ref 42], (I2, L2, D2, am_rf X))) 4 rfl ?_
        obtain ⟨o, h⟩ := h
        refine am_wps (c' := (285, [some (.ref 42), some (.int v1), some (.int v2), some (.int v3), none, none, none, none, none, none, none, none, none, none, none], [.int (I2 50 (Int32.toNatClampNeg v2)), .ref 42], (I2, L2, D2, am_rf X))) rfl rfl (am_s_iald rfl o) ?_
        refine am_wpb (c' := (290, [some (.ref 42), some (.int v1), some (.int v2), some (.int v3), none, none, none, none, none, none, none, none, none, none, none], [.int v1, .ref 61, .int (I2 50 (Int32.toNatClampNeg v2)), .ref 42], (I2, L2, D2, am_rf X))) 3 rfl ?_
        obtain ⟨o, h⟩ := h
        refine am_wps (c' := (291, [some (.ref 42), some (.int v1), some (.int v2), some (.int v3), none, none, none, none, none, none, none, none, none, none, none], [.long (L2 61 (Int32.toNatClampNeg v1)), .int (I2 50 (Int32.toNatClampNeg v2)), .ref 42], (I2, L2, D2, am_rf X))) rfl rfl (am_s_lald rfl o) ?_
        refine am_wpb (c' := (296, [some (.ref 42), some (.int v1), some (.int v2), some (.int v3), none, none, none, none, none, none, none, none, none, none, none], [.int v1, .ref 62, .long (L2 61 (Int32.toNatClampNeg v1)), .int (I2 50 (Int32.toNatClampNeg v2)), .ref 42], (I2, L2, D2, am_rf X))) 3 rfl ?_
        obtain ⟨o, h⟩ := h
        refine am_wps (c' := (297, [some (.ref 42), some (.int v1), some (.int v2), some (.int v3), none, none, none, none, none, none, none, none, none, none, none], [.long (L2 62 (Int32.toNatClampNeg v1)), .long (L2 61 (Int32.toNatClampNeg v1)), .int (I2 50 (Int32.toNatClampNeg v2)), .ref 42], (I2, L2, D2, am_rf X))) rfl rfl (am_s_lald rfl o) ?_
        obtain ⟨I3, L3, D3, hr, h⟩ := h
        refine am_wp_inv (as := [.ref 42, .int (I2 50 (Int32.toNatClampNeg v2)), .long (L2 61 (Int32.toNatClampNeg v1)), .long (L2 62 (Int32.toNatClampNeg v1))]) rfl rfl rfl rfl ⟨_, hr, ?_⟩
        show am_wp ext d mz_165 (300, [some (.ref 42), some (.int v1), some (.int v2), some (.int v3), none, none, none, none, none, none, none, none, none, none, none], [], (I3, L3, D3, am_rf X)) P
        refine am_wpb (c' := (378, [some (.ref 42), some (.int v1), some (.int v2), some (.int v3), none, none, none, none, none, none, none, none, none, none, none], [], (I3, L3, D3, am_rf X))) 1 rfl ?_
        exact am_ret_v rfl rfl h
    · replace h := h.2 z
      refine am_wpb (c' := (63, [some (.ref 42), some (.int v1), some (.int v2), some (.int v3), none, none, none, none, none, none, none, none, none, none, none], [.int v1, .ref 65], (I, L, D, am_rf X))) 3 rfl ?_
      obtain ⟨o, h⟩ := h
      refine am_wps (c' := (64, [some (.ref 42), some (.int v1), some (.int v2), some (.int v3), none, none, none, none, none, none, none, none, none, none, none], [.int (I 65 (Int32.toNatClampNeg v1))], (I, L, D, am_rf X))) rfl rfl (am_s_zald rfl o) ?_
      refine am_b1_eq rfl (fun z => ?_) (fun z => ?_)
      · replace h := h.1 z
        refine am_wpb (c' := (75, [some (.ref 42), some (.int v1), some (.int v2), some (.int v3), none, none, none, none, none, none, none, none, none, none, none], [.ref 42], (I, L, D, am_rf X))) 1 rfl ?_
        obtain ⟨I4, L4, D4, hr, h⟩ := h
        refine am_wp_inv (as := [.ref 42]) rfl rfl rfl rfl ⟨_, hr, ?_⟩
        show am_wp ext d mz_165 (78, [some (.ref 42), some (.int v1), some (.int v2), some (.int v3), none, none, none, none, none, none, none, none, none, none, none], [], (I4, L4, D4, am_rf X)) P
        exact am_ret_v rfl rfl h
      · replace h := h.2 z
        refine am_wpb (c' := (71, [some (.ref 42), some (.int v1), some (.int v2), some (.int v3), none, none, none, none, none, none, none, none, none, none, none], [.int (I 42 50)], (I, L, D, am_rf X))) 2 rfl ?_
        refine am_b1_ne rfl (fun z => ?_) (fun z => ?_)
        · replace h := h.1 z
          refine am_wpb (c' := (84, [some (.ref 42), some (.int v1), some (.int v2), some (.int v3), none, none, none, none, none, none, none, none, none, none, none], [.int v2, .ref 45], (I, L, D, am_rf X))) 3 rfl ?_
          obtain ⟨o, h⟩ := h
          refine am_wps (c' := (85, [some (.ref 42), some (.int v1), some (.int v2), some (.int v3), none, none, none, none, none, none, none, none, none, none, none], [.int (I 45 (Int32.toNatClampNeg v2))], (I, L, D, am_rf X))) rfl rfl (am_s_iald rfl o) ?_
          refine am_wpb (c' := (87, [some (.ref 42), some (.int v1), some (.int v2), some (.int v3), none, none, none, none, none, none, none, none, none, none, none], [.int 13, .int (I 45 (Int32.toNatClampNeg v2))], (I, L, D, am_rf X))) 1 rfl ?_
          refine am_b2_ne rfl (fun z => ?_) (fun z => ?_)
          · replace h := h.1 z
            refine am_wpb (c' := (95, [some (.ref 42), some (.int v1), some (.int v2), some (.int v3), none, none, none, none, none, none, none, none, none, none, none], [.int 0], (I, L, D, am_rf X))) 1 rfl ?_
            exact am_fgt (l := [some (.ref 42), some (.int v1), some (.int v2), none, none, none, none, none, none, none, none, none, none, none, none]) (am_le_of (am_leS (am_leS (am_leS (am_leN (am_leN (am_leN (am_leN (am_leN (am_leN (am_leN (am_leN (am_leN (am_leN (am_leN (am_leN (am_leZ))))))))))))))))) h
          · replace h := h.2 z
            refine am_wpb (c' := (95, [some (.ref 42), some (.int v1), some (.int v2), some (.int v3), none, none, none, none, none, none, none, none, none, none, none], [.int 1], (I, L, D, am_rf X))) 2 rfl ?_
            exact am_fgt (l := [some (.ref 42), some (.int v1), some (.int v2), none, none, none, none, none, none, none, none, none, none, none, none]) (am_le_of (am_leS (am_leS (am_leS (am_leN (am_leN (am_leN (am_leN (am_leN (am_leN (am_leN (am_leN (am_leN (am_leN (am_leN (am_leN (am_leZ))))))))))))))))) h
        · replace h := h.2 z
          refine am_wpb (c' := (75, [some (.ref 42), some (.int v1), some (.int v2), some (.int v3), none, none, none, none, none, none, none, none, none, none, none], [.ref 42], (I, L, D, am_rf X))) 1 rfl ?_
          obtain ⟨I5, L5, D5, hr, h⟩ := h
          refine am_wp_inv (as := [.ref 42]) rfl rfl rfl rfl ⟨_, hr, ?_⟩
          show am_wp ext d mz_165 (78, [some (.ref 42), some (.int v1), some (.int v2), some (.int v3), none, none, none, none, none, none, none, none, none, none, none], [], (I5, L5, D5, am_rf X)) P
          exact am_ret_v rfl rfl h
  · replace h := h.2 z
    refine am_wpb (c' := (17, [some (.ref 42), some (.int v1), some (.int v2), some (.int v3), none, none, none, none, none, none, none, none, none, none, none], [.int v3, .ref 42], (I, L, D, am_rf X))) 2 rfl ?_
    refine am_b1_ne rfl (fun z => ?_) (fun z => ?_)
    · replace h := h.1 z
      refine am_wpb (c' := (34, [some (.ref 42), some (.int v1), some (.int v2), some (.int v3), none, none, none, none, none, none, none, none, none, none, none], [.int v2, .ref 48, .ref 42], (I, L, D, am_rf X))) 3 rfl ?_
      obtain ⟨o, h⟩ := h
      refine am_wps (c' := (35, [some (.ref 42), some (.int v1), some (.int v2), some (.int v3), none, none, none, none, none, none, none, none, none, none, none], [.int (I 48 (Int32.toNatClampNeg v2)), .ref 42], (I, L, D, am_rf X))) rfl rfl (am_s_iald rfl o) ?_
      refine am_wpb (c' := (40, [some (.ref 42), some (.int v1), some (.int v2), some (.int v3), none, none, none, none, none, none, none, none, none, none, none], [.int v1, .ref 61, .int (I 48 (Int32.toNatClampNeg v2)), .ref 42], (I, L, D, am_rf X))) 3 rfl ?_
      obtain ⟨o, h⟩ := h
      refine am_wps (c' := (41, [some (.ref 42), some (.int v1), some (.int v2), some (.int v3), none, none, none, none, none, none, none, none, none, none, none], [.long (L 61 (Int32.toNatClampNeg v1)), .int (I 48 (Int32.toNatClampNeg v2)), .ref 42], (I, L, D, am_rf X))) rfl rfl (am_s_lald rfl o) ?_
      refine am_wpb (c' := (46, [some (.ref 42), some (.int v1), some (.int v2), some (.int v3), none, none, none, none, none, none, none, none, none, none, none], [.int v1, .ref 62, .long (L 61 (Int32.toNatClampNeg v1)), .int (I 48 (Int32.toNatClampNeg v2)), .ref 42], (I, L, D, am_rf X))) 3 rfl ?_
      obtain ⟨o, h⟩ := h
      refine am_wps (c' := (47, [some (.ref 42), some (.int v1), some (.int v2), some (.int v3), none, none, none, none, none, none, none, none, none, none, none], [.long (L 62 (Int32.toNatClampNeg v1)), .long (L 61 (Int32.toNatClampNeg v1)), .int (I 48 (Int32.toNatClampNeg v2)), .ref 42], (I, L, D, am_rf X))) rfl rfl (am_s_lald rfl o) ?_
      obtain ⟨I6, L6, D6, hr, h⟩ := h
      refine am_wp_inv (as := [.ref 42, .int (I 48 (Int32.toNatClampNeg v2)), .long (L 61 (Int32.toNatClampNeg v1)), .long (L 62 (Int32.toNatClampNeg v1))]) rfl rfl rfl rfl ⟨_, hr, ?_⟩
      show am_wp ext d mz_165 (50, [some (.ref 42), some (.int v1), some (.int v2), some (.int v3), none, none, none, none, none, none, none, none, none, none, none], [], (I6, L6, D6, am_rf X)) P
      refine am_wpb (c' := (378, [some (.ref 42), some (.int v1), some (.int v2), some (.int v3), none, none, none, none, none, none, none, none, none, none, none], [], (I6, L6, D6, am_rf X))) 1 rfl ?_
      exact am_ret_v rfl rfl h
    · replace h := h.2 z
      refine am_wpb (c' := (25, [some (.ref 42), some (.int v1), some (.int v2), some (.int v3), none, none, none, none, none, none, none, none, none, none, none], [.int v2, .ref 47, .ref 42], (I, L, D, am_rf X))) 3 rfl ?_
      obtain ⟨o, h⟩ := h
      refine am_wps (c' := (26, [some (.ref 42), some (.int v1), some (.int v2), some (.int v3), none, none, none, none, none, none, none, none, none, none, none], [.int (I 47 (Int32.toNatClampNeg v2)), .ref 42], (I, L, D, am_rf X))) rfl rfl (am_s_iald rfl o) ?_
      refine am_wpb (c' := (40, [some (.ref 42), some (.int v1), some (.int v2), some (.int v3), none, none, none, none, none, none, none, none, none, none, none], [.int v1, .ref 61, .int (I 47 (Int32.toNatClampNeg v2)), .ref 42], (I, L, D, am_rf X))) 4 rfl ?_
      obtain ⟨o, h⟩ := h
      refine am_wps (c' := (41, [some (.ref 42), some (.int v1), some (.int v2), some (.int v3), none, none, none, none, none, none, none, none, none, none, none], [.long (L 61 (Int32.toNatClampNeg v1)), .int (I 47 (Int32.toNatClampNeg v2)), .ref 42], (I, L, D, am_rf X))) rfl rfl (am_s_lald rfl o) ?_
      refine am_wpb (c' := (46, [some (.ref 42), some (.int v1), some (.int v2), some (.int v3), none, none, none, none, none, none, none, none, none, none, none], [.int v1, .ref 62, .long (L 61 (Int32.toNatClampNeg v1)), .int (I 47 (Int32.toNatClampNeg v2)), .ref 42], (I, L, D, am_rf X))) 3 rfl ?_
      obtain ⟨o, h⟩ := h
      refine am_wps (c' := (47, [some (.ref 42), some (.int v1), some (.int v2), some (.int v3), none, none, none, none, none, none, none, none, none, none, none], [.long (L 62 (Int32.toNatClampNeg v1)), .long (L 61 (Int32.toNatClampNeg v1)), .int (I 47 (Int32.toNatClampNeg v2)), .ref 42], (I, L, D, am_rf X))) rfl rfl (am_s_lald rfl o) ?_
      obtain ⟨I7, L7, D7, hr, h⟩ := h
      refine am_wp_inv (as := [.ref 42, .int (I 47 (Int32.toNatClampNeg v2)), .long (L 61 (Int32.toNatClampNeg v1)), .long (L 62 (Int32.toNatClampNeg v1))]) rfl rfl rfl rfl ⟨_, hr, ?_⟩
      show am_wp ext d mz_165 (50, [some (.ref 42), some (.int v1), some (.int v2), some (.int v3), none, none, none, none, none, none, none, none, none, none, none], [], (I7, L7, D7, am_rf X)) P
      refine am_wpb (c' := (378, [some (.ref 42), some (.int v1), some (.int v2), some (.int v3), none, none, none, none, none, none, none, none, none, none, none], [], (I7, L7, D7, am_rf X))) 1 rfl ?_
      exact am_ret_v rfl rfl h
theorem w165_95 {ext : Nat → List Value → am_M → Option am_R} {d : Nat} {P : am_R → Prop} (I : Nat → Nat → Int32) (L : Nat → Nat → Int64) (D : Nat → Nat → UInt64) (X : am_Rf) (v1 : Int32) (v2 : Int32) (s0 : Int32)
    (h : ((s0 = 0 → (am_inb v1 128 = true ∧ (am_wp ext d mz_165 (115, [some (.ref 42), some (.int v1), some (.int v2), none, some (.int s0), none, none, none, none, none, none, none, none, none, none], [.long (L 63 (Int32.toNatClampNeg v1))], (I, L, D, am_rf X)) P))) ∧ (¬ s0 = 0 → (am_wp ext d mz_165 (115, [some (.ref 42), some (.int v1), some (.int v2), none, some (.int s0), none, none, none, none, none, none, none, none, none, none], [.long (L 42 51)], (I, L, D, am_rf X)) P)))) : am_wp ext d mz_165 (95, [some (.ref 42), some (.int v1), some (.int v2), none, none, none, none, none, none, none, none, none, none, none, none], [.int s0], (I, L, D, am_rf X)) P := by
  refine am_wpb (c' := (99, [some (.ref 42), some (.int v1), some (.int v2), none, some (.int s0), none, none, none, none, none, none, none, none, none, none], [.int s0], (I, L, D, am_rf X))) 2 rfl ?_
  refine am_b1_eq rfl (fun z => ?_) (fun z => ?_)
  · replace h := h.1 z
    refine am_wpb (c' := (114, [some (.ref 42), some (.int v1), some (.int v2), none, some (.int s0), none, none, none, none, none, none, none, none, none, none], [.int v1, .ref 63], (I, L, D, am_rf X))) 3 rfl ?_
    obtain ⟨o, h⟩ := h
    refine am_wps (c' := (115, [some (.ref 42), some (.int v1), some (.int v2), none, some (.int s0), none, none, none, none, none, none, none, none, none, none], [.long (L 63 (Int32.toNatClampNeg v1))], (I, L, D, am_rf X))) rfl rfl (am_s_lald rfl o) ?_
    exact h
  · replace h := h.2 z
    refine am_wpb (c' := (115, [some (.ref 42), some (.int v1), some (.int v2), none, some (.int s0), none, none, none, none, none, none, none, none, none, none], [.long (L 42 51)], (I, L, D, am_rf X))) 3 rfl ?_
    exact h
theorem w165_115 {ext : Nat → List Value → am_M → Option am_R} {d : Nat} {P : am_R → Prop} (I : Nat → Nat → Int32) (L : Nat → Nat → Int64) (D : Nat → Nat → UInt64) (X : am_Rf) (v1 : Int32) (v2 : Int32) (v4 : Int32) (s0 : Int64)
    (h : ((v4 = 0 → (am_inb v1 128 = true ∧ (am_wp ext d mz_165 (135, [some (.ref 42), some (.int v1), some (.int v2), none, some (.int v4), some (.long s0), none, none, none, none, none, none, none, none, none], [.long (L 64 (Int32.toNatClampNeg v1))], (I, L, D, am_rf X)) P))) ∧ (¬ v4 = 0 → (am_wp ext d mz_165 (135, [some (.ref 42), some (.int v1), some (.int v2), none, some (.int v4), some (.long s0), none, none, none, none, none, none, none, none, none], [.long (L 42 52)], (I, L, D, am_rf X)) P)))) : am_wp ext d mz_165 (115, [some (.ref 42), some (.int v1), some (.int v2), none, some (.int v4), none, none, none, none, none, none, none, none, none, none], [.long s0], (I, L, D, am_rf X)) P := by
  refine am_wpb (c' := (119, [some (.ref 42), some (.int v1), some (.int v2), none, some (.int v4), some (.long s0), none, none, none, none, none, none, none, none, none], [.int v4], (I, L, D, am_rf X))) 2 rfl ?_
  refine am_b1_eq rfl (fun z => ?_) (fun z => ?_)
  · replace h := h.1 z
    refine am_wpb (c' := (134, [some (.ref 42), some (.int v1), some (.int v2), none, some (.int v4), some (.long s0), none, none, none, none, none, none, none, none, none], [.int v1, .ref 64], (I, L, D, am_rf X))) 3 rfl ?_
    obtain ⟨o, h⟩ := h
    refine am_wps (c' := (135, [some (.ref 42), some (.int v1), some (.int v2), none, some (.int v4), some (.long s0), none, none, none, none, none, none, none, none, none], [.long (L 64 (Int32.toNatClampNeg v1))], (I, L, D, am_rf X))) rfl rfl (am_s_lald rfl o) ?_
    exact h
  · replace h := h.2 z
    refine am_wpb (c' := (135, [some (.ref 42), some (.int v1), some (.int v2), none, some (.int v4), some (.long s0), none, none, none, none, none, none, none, none, none], [.long (L 42 52)], (I, L, D, am_rf X))) 3 rfl ?_
    exact h
theorem w165_135 {ext : Nat → List Value → am_M → Option am_R} {d : Nat} {P : am_R → Prop} (I : Nat → Nat → Int32) (L : Nat → Nat → Int64) (D : Nat → Nat → UInt64) (X : am_Rf) (v1 : Int32) (v2 : Int32) (v4 : Int32) (v5 : Int64) (s0 : Int64)
    (h : ((v4 = 0 → (am_wp ext d mz_165 (155, [some (.ref 42), some (.int v1), some (.int v2), none, some (.int v4), some (.long v5), none, some (.long s0), none, none, none, none, none, none, none], [.long (L 42 51)], (I, L, D, am_rf X)) P)) ∧ (¬ v4 = 0 → (am_inb v1 128 = true ∧ (am_wp ext d mz_165 (155, [some (.ref 42), some (.int v1), some (.int v2), none, some (.int v4), some (.long v5), none, some (.long s0), none, none, none, none, none, none, none], [.long (L 63 (Int32.toNatClampNeg v1))], (I, L, D, am_rf X)) P))))) : am_wp ext d mz_165 (135, [some (.ref 42), some (.int v1), some (.int v2), none, some (.int v4), some (.long v5), none, none, none, none, none, none, none, none, none], [.long s0], (I, L, D, am_rf X)) P := by
  refine am_wpb (c' := (139, [some (.ref 42), some (.int v1), some (.int v2), none, some (.int v4), some (.long v5), none, some (.long s0), none, none, none, none, none, none, none], [.int v4], (I, L, D, am_rf X))) 2 rfl ?_
  refine am_b1_eq rfl (fun z => ?_) (fun z => ?_)
  · replace h := h.1 z
    refine am_wpb (c' := (155, [some (.ref 42), some (.int v1), some (.int v2), none, some (.int v4), some (.long v5), none, some (.long s0), none, none, none, none, none, none, none], [.long (L 42 51)], (I, L, D, am_rf X))) 2 rfl ?_
    exact h
  · replace h := h.2 z
    refine am_wpb (c' := (147, [some (.ref 42), some (.int v1), some (.int v2), none, some (.int v4), some (.long v5), none, some (.long s0), none, none, none, none, none, none, none], [.int v1, .ref 63], (I, L, D, am_rf X))) 3 rfl ?_
    obtain ⟨o, h⟩ := h
    refine am_wps (c' := (148, [some (.ref 42), some (.int v1), some (.int v2), none, some (.int v4), some (.long v5), none, some (.long s0), none, none, none, none, none, none, none], [.long (L 63 (Int32.toNatClampNeg v1))], (I, L, D, am_rf X))) rfl rfl (am_s_lald rfl o) ?_
    refine am_wpb (c' := (155, [some (.ref 42), some (.int v1), some (.int v2), none, some (.int v4), some (.long v5), none, some (.long s0), none, none, none, none, none, none, none], [.long (L 63 (Int32.toNatClampNeg v1))], (I, L, D, am_rf X))) 1 rfl ?_
    exact h
theorem w165_155 {ext : Nat → List Value → am_M → Option am_R} {d : Nat} {P : am_R → Prop} (I : Nat → Nat → Int32) (L : Nat → Nat → Int64) (D : Nat → Nat → UInt64) (X : am_Rf) (v1 : Int32) (v2 : Int32) (v4 : Int32) (v5 : Int64) (v7 : Int64) (s0 : Int64)
    (h : ((v4 = 0 → (am_wp ext d mz_165 (175, [some (.ref 42), some (.int v1), some (.int v2), none, none, some (.long v5), none, some (.long v7), none, some (.long s0), none, none, none, none, none], [.long (L 42 52)], (I, L, D, am_rf X)) P)) ∧ (¬ v4 = 0 → (am_inb v1 128 = true ∧ (am_wp ext d mz_165 (175, [some (.ref 42), some (.int v1), some (.int v2), none, none, some (.long v5), none, some (.long v7), none, some (.long s0), none, none, none, none, none], [.long (L 64 (Int32.toNatClampNeg v1))], (I, L, D, am_rf X)) P))))) : am_wp ext d mz_165 (155, [some (.ref 42), some (.int v1), some (.int v2), none, some (.int v4), some (.long v5), none, some (.long v7), none, none, none, none, none, none, none], [.long s0], (I, L, D, am_rf X)) P := by
  refine am_wpb (c' := (159, [some (.ref 42), some (.int v1), some (.int v2), none, some (.int v4), some (.long v5), none, some (.long v7), none, some (.long s0), none, none, none, none, none], [.int v4], (I, L, D, am_rf X))) 2 rfl ?_
  refine am_b1_eq rfl (fun z => ?_) (fun z => ?_)
  · replace h := h.1 z
    refine am_wpb (c' := (175, [some (.ref 42), some (.int v1), some (.int v2), none, some (.int v4), some (.long v5), none, some (.long v7), none, some (.long s0), none, none, none, none, none], [.long (L 42 52)], (I, L, D, am_rf X))) 2 rfl ?_
    exact am_fgt (l := [some (.ref 42), some (.int v1), some (.int v2), none, none, some (.long v5), none, some (.long v7), none, some (.long s0), none, none, none, none, none]) (am_le_of (am_leS (am_leS (am_leS (am_leN (am_leN (am_leS (am_leN (am_leS (am_leN (am_leS (am_leN (am_leN (am_leN (am_leN (am_leN (am_leZ))))))))))))))))) h
  · replace h := h.2 z
    refine am_wpb (c' := (167, [some (.ref 42), some (.int v1), some (.int v2), none, some (.int v4), some (.long v5), none, some (.long v7), none, some (.long s0), none, none, none, none, none], [.int v1, .ref 64], (I, L, D, am_rf X))) 3 rfl ?_
    obtain ⟨o, h⟩ := h
    refine am_wps (c' := (168, [some (.ref 42), some (.int v1), some (.int v2), none, some (.int v4), some (.long v5), none, some (.long v7), none, some (.long s0), none, none, none, none, none], [.long (L 64 (Int32.toNatClampNeg v1))], (I, L, D, am_rf X))) rfl rfl (am_s_lald rfl o) ?_
    refine am_wpb (c' := (175, [some (.ref 42), some (.int v1), some (.int v2), none, some (.int v4), some (.long v5), none, some (.long v7), none, some (.long s0), none, none, none, none, none], [.long (L 64 (Int32.toNatClampNeg v1))], (I, L, D, am_rf X))) 1 rfl ?_
    exact am_fgt (l := [some (.ref 42), some (.int v1), some (.int v2), none, none, some (.long v5), none, some (.long v7), none, some (.long s0), none, none, none, none, none]) (am_le_of (am_leS (am_leS (am_leS (am_leN (am_leN (am_leS (am_leN (am_leS (am_leN (am_leS (am_leN (am_leN (am_leN (am_leN (am_leN (am_leZ))))))))))))))))) h
theorem w165_175 {ext : Nat → List Value → am_M → Option am_R} {d : Nat} {P : am_R → Prop} (I : Nat → Nat → Int32) (L : Nat → Nat → Int64) (D : Nat → Nat → UInt64) (X : am_Rf) (v1 : Int32) (v2 : Int32) (v5 : Int64) (v7 : Int64) (v9 : Int64) (s0 : Int64)
    (h : ((v9 ≤ v7 → (am_wp ext d mz_165 (190, [some (.ref 42), some (.int v1), some (.int v2), none, none, some (.long v5), none, none, none, none, none, some (.long s0), none, none, none], [.int 0], (I, L, D, am_rf X)) P)) ∧ (¬ v9 ≤ v7 → (am_wp ext d mz_165 (190, [some (.ref 42), some (.int v1), some (.int v2), none, none, some (.long v5), none, none, none, none, none, some (.long s0), none, none, none], [.int 1], (I, L, D, am_rf X)) P)))) : am_wp ext d mz_165 (175, [some (.ref 42), some (.int v1), some (.int v2), none, none, some (.long v5), none, some (.long v7), none, some (.long v9), none, none, none, none, none], [.long s0], (I, L, D, am_rf X)) P := by
  refine am_wpb (c' := (181, [some (.ref 42), some (.int v1), some (.int v2), none, none, some (.long v5), none, some (.long v7), none, some (.long v9), none, some (.long s0), none, none, none], [.long v9, .long v7], (I, L, D, am_rf X))) 3 rfl ?_
  refine am_lc_ge rfl rfl (fun z => ?_) (fun z => ?_)
  · replace h := h.1 z
    refine am_wpb (c' := (190, [some (.ref 42), some (.int v1), some (.int v2), none, none, some (.long v5), none, some (.long v7), none, some (.long v9), none, some (.long s0), none, none, none], [.int 0], (I, L, D, am_rf X))) 1 rfl ?_
    exact am_fgt (l := [some (.ref 42), some (.int v1), some (.int v2), none, none, some (.long v5), none, none, none, none, none, some (.long s0), none, none, none]) (am_le_of (am_leS (am_leS (am_leS (am_leN (am_leN (am_leS (am_leN (am_leN (am_leN (am_leN (am_leN (am_leS (am_leN (am_leN (am_leN (am_leZ))))))))))))))))) h
  · replace h := h.2 z
    refine am_wpb (c' := (190, [some (.ref 42), some (.int v1), some (.int v2), none, none, some (.long v5), none, some (.long v7), none, some (.long v9), none, some (.long s0), none, none, none], [.int 1], (I, L, D, am_rf X))) 2 rfl ?_
    exact am_fgt (l := [some (.ref 42), some (.int v1), some (.int v2), none, none, some (.long v5), none, none, none, none, none, some (.long s0), none, none, none]) (am_le_of (am_leS (am_leS (am_leS (am_leN (am_leN (am_leS (am_leN (am_leN (am_leN (am_leN (am_leN (am_leS (am_leN (am_leN (am_leN (am_leZ))))))))))))))))) h
theorem w165_190 {ext : Nat → List Value → am_M → Option am_R} {d : Nat} {P : am_R → Prop} (I : Nat → Nat → Int32) (L : Nat → Nat → Int64) (D : Nat → Nat → UInt64) (X : am_Rf) (v1 : Int32) (v2 : Int32) (v5 : Int64) (v11 : Int64) (s0 : Int32)
    (h : ((v5 < v11 → (am_wp ext d mz_165 (205, [some (.ref 42), some (.int v1), some (.int v2), none, none, none, none, none, none, none, none, none, none, some (.int s0), none], [.int 0], (I, L, D, am_rf X)) P)) ∧ (¬ v5 < v11 → (am_wp ext d mz_165 (205, [some (.ref 42), some (.int v1), some (.int v2), none, none, none, none, none, none, none, none, none, none, some (.int s0), none], [.int 1], (I, L, D, am_rf X)) P)))) : am_wp ext d mz_165 (190, [some (.ref 42), some (.int v1), some (.int v2), none, none, some (.long v5), none, none, none, none, none, some (.long v11), none, none, none], [.int s0], (I, L, D, am_rf X)) P := by
  refine am_wpb (c' := (196, [some (.ref 42), some (.int v1), some (.int v2), none, none, some (.long v5), none, none, none, none, none, some (.long v11), none, some (.int s0), none], [.long v11, .long v5], (I, L, D, am_rf X))) 3 rfl ?_
  refine am_lc_lt rfl rfl (fun z => ?_) (fun z => ?_)
  · replace h := h.1 z
    refine am_wpb (c' := (205, [some (.ref 42), some (.int v1), some (.int v2), none, none, some (.long v5), none, none, none, none, none, some (.long v11), none, some (.int s0), none], [.int 0], (I, L, D, am_rf X))) 1 rfl ?_
    exact am_fgt (l := [some (.ref 42), some (.int v1), some (.int v2), none, none, none, none, none, none, none, none, none, none, some (.int s0), none]) (am_le_of (am_leS (am_leS (am_leS (am_leN (am_leN (am_leN (am_leN (am_leN (am_leN (am_leN (am_leN (am_leN (am_leN (am_leS (am_leN (am_leZ))))))))))))))))) h
  · replace h := h.2 z
    refine am_wpb (c' := (205, [some (.ref 42), some (.int v1), some (.int v2), none, none, some (.long v5), none, none, none, none, none, some (.long v11), none, some (.int s0), none], [.int 1], (I, L, D, am_rf X))) 2 rfl ?_
    exact am_fgt (l := [some (.ref 42), some (.int v1), some (.int v2), none, none, none, none, none, none, none, none, none, none, some (.int s0), none]) (am_le_of (am_leS (am_leS (am_leS (am_leN (am_leN (am_leN (am_leN (am_leN (am_leN (am_leN (am_leN (am_leN (am_leN (am_leS (am_leN (am_leZ))))))))))))))))) h
theorem w165_205 {ext : Nat → List Value → am_M → Option am_R} {d : Nat} {P : am_R → Prop} (I : Nat → Nat → Int32) (L : Nat → Nat → Int64) (D : Nat → Nat → UInt64) (X : am_Rf) (v1 : Int32) (v2 : Int32) (v13 : Int32) (s0 : Int32)
    (h : ((¬ v13 = 0 → (am_wp ext d mz_165 (222, [some (.ref 42), some (.int v1), some (.int v2), none, none, none, none, none, none, none, none, none, none, none, some (.int s0)], [.int v1, .ref 60], (I, L, D, am_rf X)) P)) ∧ (v13 = 0 → (((s0 = 0 → (am_wp ext d mz_165 (228, [some (.ref 42), some (.int v1), some (.int v2), none, none, none, none, none, none, none, none, none, none, none, some (.int s0)], [.int 3, .int v1, .ref 60], (I, L, D, am_rf X)) P)) ∧ (¬ s0 = 0 → (am_wp ext d mz_165 (222, [some (.ref 42), some (.int v1), some (.int v2), none, none, none, none, none, none, none, none, none, none, none, some (.int s0)], [.int v1, .ref 60], (I, L, D, am_rf X)) P))))))) : am_wp ext d mz_165 (205, [some (.ref 42), some (.int v1), some (.int v2), none, none, none, none, none, none, none, none, none, none, some (.int v13), none], [.int s0], (I, L, D, am_rf X)) P := by
  refine am_wpb (c' := (214, [some (.ref 42), some (.int v1), some (.int v2), none, none, none, none, none, none, none, none, none, none, some (.int v13), some (.int s0)], [.int v13, .int v1, .ref 60], (I, L, D, am_rf X))) 5 rfl ?_
  refine am_b1_ne rfl (fun z => ?_) (fun z => ?_)
  · replace h := h.1 z
    exact am_fgt (l := [some (.ref 42), some (.int v1), some (.int v2), none, none, none, none, none, none, none, none, none, none, none, some (.int s0)]) (am_le_of (am_leS (am_leS (am_leS (am_leN (am_leN (am_leN (am_leN (am_leN (am_leN (am_leN (am_leN (am_leN (am_leN (am_leN (am_leS (am_leZ))))))))))))))))) h
  · replace h := h.2 z
    refine am_wpb (c' := (219, [some (.ref 42), some (.int v1), some (.int v2), none, none, none, none, none, none, none, none, none, none, some (.int v13), some (.int s0)], [.int s0, .int v1, .ref 60], (I, L, D, am_rf X))) 1 rfl ?_
    refine am_b1_eq rfl (fun z => ?_) (fun z => ?_)
    · replace h := h.1 z
      refine am_wpb (c' := (228, [some (.ref 42), some (.int v1), some (.int v2), none, none, none, none, none, none, none, none, none, none, some (.int v13), some (.int s0)], [.int 3, .int v1, .ref 60], (I, L, D, am_rf X))) 1 rfl ?_
      exact am_fgt (l := [some (.ref 42), some (.int v1), some (.int v2), none, none, none, none, none, none, none, none, none, none, none, some (.int s0)]) (am_le_of (am_leS (am_leS (am_leS (am_leN (am_leN (am_leN (am_leN (am_leN (am_leN (am_leN (am_leN (am_leN (am_leN (am_leN (am_leS (am_leZ))))))))))))))))) h
    · replace h := h.2 z
      exact am_fgt (l := [some (.ref 42), some (.int v1), some (.int v2), none, none, none, none, none, none, none, none, none, none, none, some (.int s0)]) (am_le_of (am_leS (am_leS (am_leS (am_leN (am_leN (am_leN (am_leN (am_leN (am_leN (am_leN (am_leN (am_leN (am_leN (am_leN (am_leS (am_leZ))))))))))))))))) h
theorem w165_222 {ext : Nat → List Value → am_M → Option am_R} {d : Nat} {P : am_R → Prop} (I : Nat → Nat → Int32) (L : Nat → Nat → Int64) (D : Nat → Nat → UInt64) (X : am_Rf) (v1 : Int32) (v2 : Int32) (v14 : Int32) (s0 : Int32)
    (h : am_wp ext d mz_165 (228, [some (.ref 42), some (.int v1), some (.int v2), none, none, none, none, none, none, none, none, none, none, none, some (.int v14)], [.int 10, .int s0, .ref 60], (I, L, D, am_rf X)) P) : am_wp ext d mz_165 (222, [some (.ref 42), some (.int v1), some (.int v2), none, none, none, none, none, none, none, none, none, none, none, some (.int v14)], [.int s0, .ref 60], (I, L, D, am_rf X)) P := by
  refine am_wpb (c' := (228, [some (.ref 42), some (.int v1), some (.int v2), none, none, none, none, none, none, none, none, none, none, none, some (.int v14)], [.int 10, .int s0, .ref 60], (I, L, D, am_rf X))) 2 rfl ?_
  exact h
theorem w165_228 {ext : Nat → List Value → am_M → Option am_R} {d : Nat} {P : am_R → Prop} (I : Nat → Nat → Int32) (L : Nat → Nat → Int64) (D : Nat → Nat → UInt64) (X : am_Rf) (v1 : Int32) (v2 : Int32) (v14 : Int32) (s0 : Int32) (s1 : Int32)
    (h : am_inb s1 128 = true ∧ (((v14 = 0 → (am_inb v2 192 = true ∧ (am_inb v1 128 = true ∧ (am_inb v1 128 = true ∧ (∃ (I1 : Nat → Nat → Int32) (L1 : Nat → Nat → Int64) (D1 : Nat → Nat → UInt64), am_Rn ext d 150 [.ref 42, .int (I 49 (Int32.toNatClampNeg v2)), .long (L 61 (Int32.toNatClampNeg v1)), .long (L 62 (Int32.toNatClampNeg v1))] (am_uI I 60 (Int32.toNatClampNeg s1) s0, L, D, am_rf X) (none, (I1, L1, D1, am_rf X)) ∧ (P (none, (I1, L1, D1, am_rf X)))))))) ∧ (¬ v14 = 0 → (am_inb v2 192 = true ∧ (am_inb v1 128 = true ∧ (am_inb v1 128 = true ∧ (∃ (I2 : Nat → Nat → Int32) (L2 : Nat → Nat → Int64) (D2 : Nat → Nat → UInt64), am_Rn ext d 150 [.ref 42, .int (I 50 (Int32.toNatClampNeg v2)), .long (L 61 (Int32.toNatClampNeg v1)), .long (L 62 (Int32.toNatClampNeg v1))] (am_uI I 60 (Int32.toNatClampNeg s1) s0, L, D, am_rf X) (none, (I2, L2, D2, am_rf X)) ∧ (P (none, (I2, L2, D2, am_rf X))))))))))) : am_wp ext d mz_165 (228, [some (.ref 42), some (.int v1), some (.int v2), none, none, none, none, none, none, none, none, none, none, none, some (.int v14)], [.int s0, .int s1, .ref 60], (I, L, D, am_rf X)) P := by
  obtain ⟨o, h⟩ := h
  refine am_wps (c' := (229, [some (.ref 42), some (.int v1), some (.int v2), none, none, none, none, none, none, none, none, none, none, none, some (.int v14)], [], (am_uI I 60 (Int32.toNatClampNeg s1) s0, L, D, am_rf X))) rfl rfl (am_s_iast rfl o) ?_
  refine am_wpb (c' := (232, [some (.ref 42), some (.int v1), some (.int v2), none, none, none, none, none, none, none, none, none, none, none, some (.int v14)], [.int v14, .ref 42], (am_uI I 60 (Int32.toNatClampNeg s1) s0, L, D, am_rf X))) 2 rfl ?_
  refine am_b1_eq rfl (fun z => ?_) (fun z => ?_)
  · replace h := h.1 z
    refine am_wpb (c' := (249, [some (.ref 42), some (.int v1), some (.int v2), none, none, none, none, none, none, none, none, none, none, none, some (.int v14)], [.int v2, .ref 49, .ref 42], (am_uI I 60 (Int32.toNatClampNeg s1) s0, L, D, am_rf X))) 3 rfl ?_
    obtain ⟨o, h⟩ := h
    refine am_wps (c' := (250, [some (.ref 42), some (.int v1), some (.int v2), none, none, none, none, none, none, none, none, none, none, none, some (.int v14)], [.int (I 49 (Int32.toNatClampNeg v2)), .ref 42], (am_uI I 60 (Int32.toNatClampNeg s1) s0, L, D, am_rf X))) rfl rfl (am_s_iald rfl o) ?_
    refine am_wpb (c' := (255, [some (.ref 42), some (.int v1), some (.int v2), none, none, none, none, none, none, none, none, none, none, none, some (.int v14)], [.int v1, .ref 61, .int (I 49 (Int32.toNatClampNeg v2)), .ref 42], (am_uI I 60 (Int32.toNatClampNeg s1) s0, L, D, am_rf X))) 3 rfl ?_
    obtain ⟨o, h⟩ := h
    refine am_wps (c' := (256, [some (.ref 42), some (.int v1), some (.int v2), none, none, none, none, none, none, none, none, none, none, none, some (.int v14)], [.long (L 61 (Int32.toNatClampNeg v1)), .int (I 49 (Int32.toNatClampNeg v2)), .ref 42], (am_uI I 60 (Int32.toNatClampNeg s1) s0, L, D, am_rf X))) rfl rfl (am_s_lald rfl o) ?_
    refine am_wpb (c' := (261, [some (.ref 42), some (.int v1), some (.int v2), none, none, none, none, none, none, none, none, none, none, none, some (.int v14)], [.int v1, .ref 62, .long (L 61 (Int32.toNatClampNeg v1)), .int (I 49 (Int32.toNatClampNeg v2)), .ref 42], (am_uI I 60 (Int32.toNatClampNeg s1) s0, L, D, am_rf X))) 3 rfl ?_
    obtain ⟨o, h⟩ := h
    refine am_wps (c' := (262, [some (.ref 42), some (.int v1), some (.int v2), none, none, none, none, none, none, none, none, none, none, none, some (.int v14)], [.long (L 62 (Int32.toNatClampNeg v1)), .long (L 61 (Int32.toNatClampNeg v1)), .int (I 49 (Int32.toNatClampNeg v2)), .ref 42], (am_uI I 60 (Int32.toNatClampNeg s1) s0, L, D, am_rf X))) rfl rfl (am_s_lald rfl o) ?_
    obtain ⟨I1, L1, D1, hr, h⟩ := h
    refine am_wp_inv (as := [.ref 42, .int (I 49 (Int32.toNatClampNeg v2)), .long (L 61 (Int32.toNatClampNeg v1)), .long (L 62 (Int32.toNatClampNeg v1))]) rfl rfl rfl rfl ⟨_, hr, ?_⟩
    show am_wp ext d mz_165 (265, [some (.ref 42), some (.int v1), some (.int v2), none, none, none, none, none, none, none, none, none, none, none, some (.int v14)], [], (I1, L1, D1, am_rf X)) P
    refine am_wpb (c' := (378, [some (.ref 42), some (.int v1), some (.int v2), none, none, none, none, none, none, none, none, none, none, none, some (.int v14)], [], (I1, L1, D1, am_rf X))) 1 rfl ?_
    exact am_ret_v rfl rfl h
  · replace h := h.2 z
    refine am_wpb (c' := (240, [some (.ref 42), some (.int v1), some (.int v2), none, none, none, none, none, none, none, none, none, none, none, some (.int v14)], [.int v2, .ref 50, .ref 42], (am_uI I 60 (Int32.toNatClampNeg s1) s0, L, D, am_rf X))) 3 rfl ?_
    obtain ⟨o, h⟩ := h
    refine am_wps (c' := (241, [some (.ref 42), some (.int v1), some (.int v2), none, none, none, none, none, none, none, none, none, none, none, some (.int v14)], [.int (I 50 (Int32.toNatClampNeg v2)), .ref 42], (am_uI I 60 (Int32.toNatClampNeg s1) s0, L, D, am_rf X))) rfl rfl (am_s_iald rfl o) ?_
    refine am_wpb (c' := (255, [some (.ref 42), some (.int v1), some (.int v2), none, none, none, none, none, none, none, none, none, none, none, some (.int v14)], [.int v1, .ref 61, .int (I 50 (Int32.toNatClampNeg v2)), .ref 42], (am_uI I 60 (Int32.toNatClampNeg s1) s0, L, D, am_rf X))) 4 rfl ?_
    obtain ⟨o, h⟩ := h
    refine am_wps (c' := (256, [some (.ref 42), some (.int v1), some (.int v2), none, none, none, none, none, none, none, none, none, none, none, some (.int v14)], [.long (L 61 (Int32.toNatClampNeg v1)), .int (I 50 (Int32.toNatClampNeg v2)), .ref 42], (am_uI I 60 (Int32.toNatClampNeg s1) s0, L, D, am_rf X))) rfl rfl (am_s_lald rfl o) ?_
    refine am_wpb (c' := (261, [some (.ref 42), some (.int v1), some (.int v2), none, none, none, none, none, none, none, none, none, none, none, some (.int v14)], [.int v1, .ref 62, .long (L 61 (Int32.toNatClampNeg v1)), .int (I 50 (Int32.toNatClampNeg v2)), .ref 42], (am_uI I 60 (Int32.toNatClampNeg s1) s0, L, D, am_rf X))) 3 rfl ?_
    obtain ⟨o, h⟩ := h
    refine am_wps (c' := (262, [some (.ref 42), some (.int v1), some (.int v2), none, none, none, none, none, none, none, none, none, none, none, some (.int v14)], [.long (L 62 (Int32.toNatClampNeg v1)), .long (L 61 (Int32.toNatClampNeg v1)), .int (I 50 (Int32.toNatClampNeg v2)), .ref 42], (am_uI I 60 (Int32.toNatClampNeg s1) s0, L, D, am_rf X))) rfl rfl (am_s_lald rfl o) ?_
    obtain ⟨I2, L2, D2, hr, h⟩ := h
    refine am_wp_inv (as := [.ref 42, .int (I 50 (Int32.toNatClampNeg v2)), .long (L 61 (Int32.toNatClampNeg v1)), .long (L 62 (Int32.toNatClampNeg v1))]) rfl rfl rfl rfl ⟨_, hr, ?_⟩
    show am_wp ext d mz_165 (265, [some (.ref 42), some (.int v1), some (.int v2), none, none, none, none, none, none, none, none, none, none, none, some (.int v14)], [], (I2, L2, D2, am_rf X)) P
    refine am_wpb (c' := (378, [some (.ref 42), some (.int v1), some (.int v2), none, none, none, none, none, none, none, none, none, none, none, some (.int v14)], [], (I2, L2, D2, am_rf X))) 1 rfl ?_
    exact am_ret_v rfl rfl h
theorem w165_329 {ext : Nat → List Value → am_M → Option am_R} {d : Nat} {P : am_R → Prop} (I : Nat → Nat → Int32) (L : Nat → Nat → Int64) (D : Nat → Nat → UInt64) (X : am_Rf) (v1 : Int32)
    (h : am_wp ext d mz_165 (330, [some (.ref 42), some (.int v1), none, none, none, none, none, none, none, none, none, none, none, none, none], [.int 0, .ref 42], (I, L, D, am_rf X)) P) : am_wp ext d mz_165 (329, [some (.ref 42), some (.int v1), none, none, none, none, none, none, none, none, none, none, none, none, none], [.ref 42], (I, L, D, am_rf X)) P := by
  refine am_wpb (c' := (330, [some (.ref 42), some (.int v1), none, none, none, none, none, none, none, none, none, none, none, none, none], [.int 0, .ref 42], (I, L, D, am_rf X))) 1 rfl ?_
  exact h
theorem w165_330 {ext : Nat → List Value → am_M → Option am_R} {d : Nat} {P : am_R → Prop} (I : Nat → Nat → Int32) (L : Nat → Nat → Int64) (D : Nat → Nat → UInt64) (X : am_Rf) (v1 : Int32) (s0 : Int32)
    (h : am_inb v1 128 = true ∧ (∃ (r1 : Int64) (I1 : Nat → Nat → Int32) (L1 : Nat → Nat → Int64) (D1 : Nat → Nat → UInt64), am_Rn ext d 157 [.long (L 63 (Int32.toNatClampNeg v1)), .long (L 42 51)] (I, L, D, am_rf X) (some (.long r1), (I1, L1, D1, am_rf X)) ∧ (am_inb v1 128 = true ∧ (∃ (r2 : Int64) (I2 : Nat → Nat → Int32) (L2 : Nat → Nat → Int64) (D2 : Nat → Nat → UInt64), am_Rn ext d 158 [.long (L1 64 (Int32.toNatClampNeg v1)), .long (L1 42 52)] (I1, L1, D1, am_rf X) (some (.long r2), (I2, L2, D2, am_rf X)) ∧ (∃ (I3 : Nat → Nat → Int32) (L3 : Nat → Nat → Int64) (D3 : Nat → Nat → UInt64), am_Rn ext d 151 [.ref 42, .int s0, .long r1, .long r2] (I2, L2, D2, am_rf X) (none, (I3, L3, D3, am_rf X)) ∧ (P (none, (I3, L3, D3, am_rf X)))))))) : am_wp ext d mz_165 (330, [some (.ref 42), some (.int v1), none, none, none, none, none, none, none, none, none, none, none, none, none], [.int s0, .ref 42], (I, L, D, am_rf X)) P := by
  refine am_wpb (c' := (335, [some (.ref 42), some (.int v1), none, none, none, none, none, none, none, none, none, none, none, none, none], [.int v1, .ref 63, .int s0, .ref 42], (I, L, D, am_rf X))) 3 rfl ?_
  obtain ⟨o, h⟩ := h
  refine am_wps (c' := (336, [some (.ref 42), some (.int v1), none, none, none, none, none, none, none, none, none, none, none, none, none], [.long (L 63 (Int32.toNatClampNeg v1)), .int s0, .ref 42], (I, L, D, am_rf X))) rfl rfl (am_s_lald rfl o) ?_
  refine am_wpb (c' := (340, [some (.ref 42), some (.int v1), none, none, none, none, none, none, none, none, none, none, none, none, none], [.long (L 42 51), .long (L 63 (Int32.toNatClampNeg v1)), .int s0, .ref 42], (I, L, D, am_rf X))) 2 rfl ?_
  obtain ⟨r1, I1, L1, D1, hr, h⟩ := h
  refine am_wp_inv (as := [.long (L 63 (Int32.toNatClampNeg v1)), .long (L 42 51)]) rfl rfl rfl rfl ⟨_, hr, ?_⟩
  show am_wp ext d mz_165 (343, [some (.ref 42), some (.int v1), none, none, none, none, none, none, none, none, none, none, none, none, none], [.long r1, .int s0, .ref 42], (I1, L1, D1, am_rf X)) P
  refine am_wpb (c' := (348, [some (.ref 42), some (.int v1), none, none, none, none, none, none, none, none, none, none, none, none, none], [.int v1, .ref 64, .long r1, .int s0, .ref 42], (I1, L1, D1, am_rf X))) 3 rfl ?_
  obtain ⟨o, h⟩ := h
  refine am_wps (c' := (349, [some (.ref 42), some (.int v1), none, none, none, none, none, none, none, none, none, none, none, none, none], [.long (L1 64 (Int32.toNatClampNeg v1)), .long r1, .int s0, .ref 42], (I1, L1, D1, am_rf X))) rfl rfl (am_s_lald rfl o) ?_
  refine am_wpb (c' := (353, [some (.ref 42), some (.int v1), none, none, none, none, none, none, none, none, none, none, none, none, none], [.long (L1 42 52), .long (L1 64 (Int32.toNatClampNeg v1)), .long r1, .int s0, .ref 42], (I1, L1, D1, am_rf X))) 2 rfl ?_
  obtain ⟨r2, I2, L2, D2, hr, h⟩ := h
  refine am_wp_inv (as := [.long (L1 64 (Int32.toNatClampNeg v1)), .long (L1 42 52)]) rfl rfl rfl rfl ⟨_, hr, ?_⟩
  show am_wp ext d mz_165 (356, [some (.ref 42), some (.int v1), none, none, none, none, none, none, none, none, none, none, none, none, none], [.long r2, .long r1, .int s0, .ref 42], (I2, L2, D2, am_rf X)) P
  obtain ⟨I3, L3, D3, hr, h⟩ := h
  refine am_wp_inv (as := [.ref 42, .int s0, .long r1, .long r2]) rfl rfl rfl rfl ⟨_, hr, ?_⟩
  show am_wp ext d mz_165 (359, [some (.ref 42), some (.int v1), none, none, none, none, none, none, none, none, none, none, none, none, none], [], (I3, L3, D3, am_rf X)) P
  refine am_wpb (c' := (378, [some (.ref 42), some (.int v1), none, none, none, none, none, none, none, none, none, none, none, none, none], [], (I3, L3, D3, am_rf X))) 1 rfl ?_
  exact am_ret_v rfl rfl h
/-- SureSumsModel.calls(III)V -/
def mz_166 : am_Y := (fun pc => am_q166.lookup pc, 4, 0)
theorem mh_166 : am_Ys 166 = some mz_166 := rfl
theorem w166_0 {ext : Nat → List Value → am_M → Option am_R} {d : Nat} {P : am_R → Prop} (I : Nat → Nat → Int32) (L : Nat → Nat → Int64) (D : Nat → Nat → UInt64) (X : am_Rf) (v1 : Int32) (v2 : Int32) (v3 : Int32)
    (h : ((¬ v3 = 0 → (((¬ v3 = 1 → (am_wp ext d mz_166 (67, [some (.ref 42), none, none, some (.int v3)], [], (I, L, D, am_rf X)) P)) ∧ (v3 = 1 → ((((I 42 50) = 0 → (am_wp ext d mz_166 (67, [some (.ref 42), none, none, some (.int v3)], [], (I, L, D, am_rf X)) P)) ∧ (¬ (I 42 50) = 0 → (am_inb v2 192 = true ∧ (am_inb (I 46 (Int32.toNatClampNeg v2)) 52 = true ∧ (∃ (I1 : Nat → Nat → Int32) (L1 : Nat → Nat → Int64) (D1 : Nat → Nat → UInt64), am_Rn ext d 150 [.ref 42, .int (I 52 (Int32.toNatClampNeg (I 46 (Int32.toNatClampNeg v2)))), .long (L 42 51), .long (L 42 52)] (I, L, D, am_rf X) (none, (I1, L1, D1, am_rf X)) ∧ (P (none, (I1, L1, D1, am_rf X))))))))))))) ∧ (v3 = 0 → (am_inb v2 192 = true ∧ (am_inb v1 128 = true ∧ (am_inb v1 128 = true ∧ (∃ (I2 : Nat → Nat → Int32) (L2 : Nat → Nat → Int64) (D2 : Nat → Nat → UInt64), am_Rn ext d 150 [.ref 42, .int (I 47 (Int32.toNatClampNeg v2)), .long (L 61 (Int32.toNatClampNeg v1)), .long (L 62 (Int32.toNatClampNeg v1))] (I, L, D, am_rf X) (none, (I2, L2, D2, am_rf X)) ∧ (P (none, (I2, L2, D2, am_rf X)))))))))) : am_wp ext d mz_166 (0, [some (.ref 42), some (.int v1), some (.int v2), some (.int v3)], [], (I, L, D, am_rf X)) P := by
  refine am_wpb (c' := (1, [some (.ref 42), some (.int v1), some (.int v2), some (.int v3)], [.int v3], (I, L, D, am_rf X))) 1 rfl ?_
  refine am_b1_ne rfl (fun z => ?_) (fun z => ?_)
  · replace h := h.1 z
    refine am_wpb (c' := (31, [some (.ref 42), some (.int v1), some (.int v2), some (.int v3)], [.int 1, .int v3], (I, L, D, am_rf X))) 2 rfl ?_
    refine am_b2_ne rfl (fun z => ?_) (fun z => ?_)
    · replace h := h.1 z
      exact am_fgt (l := [some (.ref 42), none, none, some (.int v3)]) (am_le_of (am_leS (am_leN (am_leN (am_leS (am_leZ)))))) h
    · replace h := h.2 z
      refine am_wpb (c' := (38, [some (.ref 42), some (.int v1), some (.int v2), some (.int v3)], [.int (I 42 50)], (I, L, D, am_rf X))) 2 rfl ?_
      refine am_b1_eq rfl (fun z => ?_) (fun z => ?_)
      · replace h := h.1 z
        exact am_fgt (l := [some (.ref 42), none, none, some (.int v3)]) (am_le_of (am_leS (am_leN (am_leN (am_leS (am_leZ)))))) h
      · replace h := h.2 z
        refine am_wpb (c' := (51, [some (.ref 42), some (.int v1), some (.int v2), some (.int v3)], [.int v2, .ref 46, .ref 52, .ref 42], (I, L, D, am_rf X))) 6 rfl ?_
        obtain ⟨o, h⟩ := h
        refine am_wps (c' := (52, [some (.ref 42), some (.int v1), some (.int v2), some (.int v3)], [.int (I 46 (Int32.toNatClampNeg v2)), .ref 52, .ref 42], (I, L, D, am_rf X))) rfl rfl (am_s_iald rfl o) ?_
        obtain ⟨o, h⟩ := h
        refine am_wps (c' := (53, [some (.ref 42), some (.int v1), some (.int v2), some (.int v3)], [.int (I 52 (Int32.toNatClampNeg (I 46 (Int32.toNatClampNeg v2)))), .ref 42], (I, L, D, am_rf X))) rfl rfl (am_s_iald rfl o) ?_
        refine am_wpb (c' := (61, [some (.ref 42), some (.int v1), some (.int v2), some (.int v3)], [.long (L 42 52), .long (L 42 51), .int (I 52 (Int32.toNatClampNeg (I 46 (Int32.toNatClampNeg v2)))), .ref 42], (I, L, D, am_rf X))) 4 rfl ?_
        obtain ⟨I1, L1, D1, hr, h⟩ := h
        refine am_wp_inv (as := [.ref 42, .int (I 52 (Int32.toNatClampNeg (I 46 (Int32.toNatClampNeg v2)))), .long (L 42 51), .long (L 42 52)]) rfl rfl rfl rfl ⟨_, hr, ?_⟩
        show am_wp ext d mz_166 (64, [some (.ref 42), some (.int v1), some (.int v2), some (.int v3)], [], (I1, L1, D1, am_rf X)) P
        refine am_wpb (c' := (96, [some (.ref 42), some (.int v1), some (.int v2), some (.int v3)], [], (I1, L1, D1, am_rf X))) 1 rfl ?_
        exact am_ret_v rfl rfl h
  · replace h := h.2 z
    refine am_wpb (c' := (10, [some (.ref 42), some (.int v1), some (.int v2), some (.int v3)], [.int v2, .ref 47, .ref 42], (I, L, D, am_rf X))) 4 rfl ?_
    obtain ⟨o, h⟩ := h
    refine am_wps (c' := (11, [some (.ref 42), some (.int v1), some (.int v2), some (.int v3)], [.int (I 47 (Int32.toNatClampNeg v2)), .ref 42], (I, L, D, am_rf X))) rfl rfl (am_s_iald rfl o) ?_
    refine am_wpb (c' := (16, [some (.ref 42), some (.int v1), some (.int v2), some (.int v3)], [.int v1, .ref 61, .int (I 47 (Int32.toNatClampNeg v2)), .ref 42], (I, L, D, am_rf X))) 3 rfl ?_
    obtain ⟨o, h⟩ := h
    refine am_wps (c' := (17, [some (.ref 42), some (.int v1), some (.int v2), some (.int v3)], [.long (L 61 (Int32.toNatClampNeg v1)), .int (I 47 (Int32.toNatClampNeg v2)), .ref 42], (I, L, D, am_rf X))) rfl rfl (am_s_lald rfl o) ?_
    refine am_wpb (c' := (22, [some (.ref 42), some (.int v1), some (.int v2), some (.int v3)], [.int v1, .ref 62, .long (L 61 (Int32.toNatClampNeg v1)), .int (I 47 (Int32.toNatClampNeg v2)), .ref 42], (I, L, D, am_rf X))) 3 rfl ?_
    obtain ⟨o, h⟩ := h
    refine am_wps (c' := (23, [some (.ref 42), some (.int v1), some (.int v2), some (.int v3)], [.long (L 62 (Int32.toNatClampNeg v1)), .long (L 61 (Int32.toNatClampNeg v1)), .int (I 47 (Int32.toNatClampNeg v2)), .ref 42], (I, L, D, am_rf X))) rfl rfl (am_s_lald rfl o) ?_
    obtain ⟨I2, L2, D2, hr, h⟩ := h
    refine am_wp_inv (as := [.ref 42, .int (I 47 (Int32.toNatClampNeg v2)), .long (L 61 (Int32.toNatClampNeg v1)), .long (L 62 (Int32.toNatClampNeg v1))]) rfl rfl rfl rfl ⟨_, hr, ?_⟩
    show am_wp ext d mz_166 (26, [some (.ref 42), some (.int v1), some (.int v2), some (.int v3)], [], (I2, L2, D2, am_rf X)) P
    refine am_wpb (c' := (96, [some (.ref 42), some (.int v1), some (.int v2), some (.int v3)], [], (I2, L2, D2, am_rf X))) 1 rfl ?_
    exact am_ret_v rfl rfl h
theorem w166_67 {ext : Nat → List Value → am_M → Option am_R} {d : Nat} {P : am_R → Prop} (I : Nat → Nat → Int32) (L : Nat → Nat → Int64) (D : Nat → Nat → UInt64) (X : am_Rf) (v3 : Int32)
    (h : ((v3 ≤ 1 → (∃ (I1 : Nat → Nat → Int32) (L1 : Nat → Nat → Int64) (D1 : Nat → Nat → UInt64), am_Rn ext d 151 [.ref 42, .int 0, .long (L 42 51), .long (L 42 52)] (I, L, D, am_rf X) (none, (I1, L1, D1, am_rf X)) ∧ (P (none, (I1, L1, D1, am_rf X))))) ∧ (¬ v3 ≤ 1 → ((((I 42 50) = 0 → (∃ (I2 : Nat → Nat → Int32) (L2 : Nat → Nat → Int64) (D2 : Nat → Nat → UInt64), am_Rn ext d 151 [.ref 42, .int 0, .long (L 42 51), .long (L 42 52)] (I, L, D, am_rf X) (none, (I2, L2, D2, am_rf X)) ∧ (P (none, (I2, L2, D2, am_rf X))))) ∧ (¬ (I 42 50) = 0 → (∃ (I3 : Nat → Nat → Int32) (L3 : Nat → Nat → Int64) (D3 : Nat → Nat → UInt64), am_Rn ext d 151 [.ref 42, .int 1, .long (L 42 51), .long (L 42 52)] (I, L, D, am_rf X) (none, (I3, L3, D3, am_rf X)) ∧ (P (none, (I3, L3, D3, am_rf X)))))))))) : am_wp ext d mz_166 (67, [some (.ref 42), none, none, some (.int v3)], [], (I, L, D, am_rf X)) P := by
  refine am_wpb (c' := (70, [some (.ref 42), none, none, some (.int v3)], [.int 1, .int v3, .ref 42], (I, L, D, am_rf X))) 3 rfl ?_
  refine am_b2_le rfl (fun z => ?_) (fun z => ?_)
  · replace h := h.1 z
    refine am_wpb (c' := (93, [some (.ref 42), none, none, some (.int v3)], [.long (L 42 52), .long (L 42 51), .int 0, .ref 42], (I, L, D, am_rf X))) 5 rfl ?_
    obtain ⟨I1, L1, D1, hr, h⟩ := h
    refine am_wp_inv (as := [.ref 42, .int 0, .long (L 42 51), .long (L 42 52)]) rfl rfl rfl rfl ⟨_, hr, ?_⟩
    show am_wp ext d mz_166 (96, [some (.ref 42), none, none, some (.int v3)], [], (I1, L1, D1, am_rf X)) P
    exact am_ret_v rfl rfl h
  · replace h := h.2 z
    refine am_wpb (c' := (77, [some (.ref 42), none, none, some (.int v3)], [.int (I 42 50), .ref 42], (I, L, D, am_rf X))) 2 rfl ?_
    refine am_b1_eq rfl (fun z => ?_) (fun z => ?_)
    · replace h := h.1 z
      refine am_wpb (c' := (93, [some (.ref 42), none, none, some (.int v3)], [.long (L 42 52), .long (L 42 51), .int 0, .ref 42], (I, L, D, am_rf X))) 5 rfl ?_
      obtain ⟨I2, L2, D2, hr, h⟩ := h
      refine am_wp_inv (as := [.ref 42, .int 0, .long (L 42 51), .long (L 42 52)]) rfl rfl rfl rfl ⟨_, hr, ?_⟩
      show am_wp ext d mz_166 (96, [some (.ref 42), none, none, some (.int v3)], [], (I2, L2, D2, am_rf X)) P
      exact am_ret_v rfl rfl h
    · replace h := h.2 z
      refine am_wpb (c' := (93, [some (.ref 42), none, none, some (.int v3)], [.long (L 42 52), .long (L 42 51), .int 1, .ref 42], (I, L, D, am_rf X))) 6 rfl ?_
      obtain ⟨I3, L3, D3, hr, h⟩ := h
      refine am_wp_inv (as := [.ref 42, .int 1, .long (L 42 51), .long (L 42 52)]) rfl rfl rfl rfl ⟨_, hr, ?_⟩
      show am_wp ext d mz_166 (96, [some (.ref 42), none, none, some (.int v3)], [], (I3, L3, D3, am_rf X)) P
      exact am_ret_v rfl rfl h
/-- SureSumsModel.nought(III)V -/
def mz_167 : am_Y := (fun pc => am_q167.lookup pc, 12, 0)
theorem mh_167 : am_Ys 167 = some mz_167 := rfl
theorem w167_0 {ext : Nat → List Value → am_M → Option am_R} {d : Nat} {P : am_R → Prop} (I : Nat → Nat → Int32) (L : Nat → Nat → Int64) (D : Nat → Nat → UInt64) (X : am_Rf) (v1 : Int32) (v2 : Int32) (v3 : Int32)
    (h : am_inb v2 192 = true ∧ (am_inb (I 47 (Int32.toNatClampNeg v2)) 52 = true ∧ (am_inb v2 192 = true ∧ (am_inb v2 192 = true ∧ (((¬ v3 = 0 → (((¬ v3 = 1 → (((¬ v3 = 2 → (am_inb v1 128 = true ∧ (am_inb v1 128 = true ∧ ((((I 42 50) = 0 → (am_wp ext d mz_167 (247, [some (.ref 42), some (.int v1), none, none, some (.int (I 52 (Int32.toNatClampNeg (I 47 (Int32.toNatClampNeg v2))))), none, none, none, none, some (.long (((L 63 (Int32.toNatClampNeg v1)) + (L 64 (Int32.toNatClampNeg v1))) >>> ((Int32.toInt64 1) &&& 63))), none, none], [], (I, L, D, am_rf X)) P)) ∧ (¬ (I 42 50) = 0 → (((0 ≤ (L 42 52) → (am_wp ext d mz_167 (247, [some (.ref 42), some (.int v1), none, none, some (.int (I 52 (Int32.toNatClampNeg (I 47 (Int32.toNatClampNeg v2))))), none, none, none, none, some (.long (((L 63 (Int32.toNatClampNeg v1)) + (L 64 (Int32.toNatClampNeg v1))) >>> ((Int32.toInt64 1) &&& 63))), none, none], [], (I, L, D, am_rf X)) P)) ∧ (¬ 0 ≤ (L 42 52) → (am_wp ext d mz_167 (248, [some (.ref 42), some (.int v1), none, none, some (.int (I 52 (Int32.toNatClampNeg (I 47 (Int32.toNatClampNeg v2))))), none, none, none, none, some (.long (((L 63 (Int32.toNatClampNeg v1)) + (L 64 (Int32.toNatClampNeg v1))) >>> ((Int32.toInt64 1) &&& 63))), none, none], [.int 1], (I, L, D, am_rf X)) P)))))))))) ∧ (v3 = 2 → (am_inb v1 128 = true ∧ ((((I 65 (Int32.toNatClampNeg v1)) = 0 → (am_wp ext d mz_167 (122, [some (.ref 42), some (.int v1), none, none, some (.int (I 52 (Int32.toNatClampNeg (I 47 (Int32.toNatClampNeg v2))))), some (.long ((Int32.toInt64 (I 48 (Int32.toNatClampNeg v2))) <<< ((Int32.toInt64 (I 42 48)) &&& 63))), none, some (.long ((Int32.toInt64 (I 49 (Int32.toNatClampNeg v2))) <<< ((Int32.toInt64 (I 42 48)) &&& 63))), none, none, none, none], [], (I, L, D, am_rf X)) P)) ∧ (¬ (I 65 (Int32.toNatClampNeg v1)) = 0 → ((((I 42 50) = 0 → (am_wp ext d mz_167 (122, [some (.ref 42), some (.int v1), none, none, some (.int (I 52 (Int32.toNatClampNeg (I 47 (Int32.toNatClampNeg v2))))), some (.long ((Int32.toInt64 (I 48 (Int32.toNatClampNeg v2))) <<< ((Int32.toInt64 (I 42 48)) &&& 63))), none, some (.long ((Int32.toInt64 (I 49 (Int32.toNatClampNeg v2))) <<< ((Int32.toInt64 (I 42 48)) &&& 63))), none, none, none, none], [], (I, L, D, am_rf X)) P)) ∧ (¬ (I 42 50) = 0 → (am_inb v1 128 = true ∧ (((0 ≤ (L 64 (Int32.toNatClampNeg v1)) → (am_wp ext d mz_167 (122, [some (.ref 42), some (.int v1), none, none, some (.int (I 52 (Int32.toNatClampNeg (I 47 (Int32.toNatClampNeg v2))))), some (.long ((Int32.toInt64 (I 48 (Int32.toNatClampNeg v2))) <<< ((Int32.toInt64 (I 42 48)) &&& 63))), none, some (.long ((Int32.toInt64 (I 49 (Int32.toNatClampNeg v2))) <<< ((Int32.toInt64 (I 42 48)) &&& 63))), none, none, none, none], [], (I, L, D, am_rf X)) P)) ∧ (¬ 0 ≤ (L 64 (Int32.toNatClampNeg v1)) → ((((L 42 51) ≤ 0 → (am_wp ext d mz_167 (122, [some (.ref 42), some (.int v1), none, none, some (.int (I 52 (Int32.toNatClampNeg (I 47 (Int32.toNatClampNeg v2))))), some (.long ((Int32.toInt64 (I 48 (Int32.toNatClampNeg v2))) <<< ((Int32.toInt64 (I 42 48)) &&& 63))), none, some (.long ((Int32.toInt64 (I 49 (Int32.toNatClampNeg v2))) <<< ((Int32.toInt64 (I 42 48)) &&& 63))), none, none, none, none], [], (I, L, D, am_rf X)) P)) ∧ (¬ (L 42 51) ≤ 0 → (am_wp ext d mz_167 (123, [some (.ref 42), some (.int v1), none, none, some (.int (I 52 (Int32.toNatClampNeg (I 47 (Int32.toNatClampNeg v2))))), some (.long ((Int32.toInt64 (I 48 (Int32.toNatClampNeg v2))) <<< ((Int32.toInt64 (I 42 48)) &&& 63))), none, some (.long ((Int32.toInt64 (I 49 (Int32.toNatClampNeg v2))) <<< ((Int32.toInt64 (I 42 48)) &&& 63))), none, none, none, none], [.int 1], (I, L, D, am_rf X)) P))))))))))))))))))) ∧ (v3 = 1 → (∃ (I1 : Nat → Nat → Int32) (L1 : Nat → Nat → Int64) (D1 : Nat → Nat → UInt64), am_Rn ext d 160 [.ref 42, .int v1] (I, L, D, am_rf X) (none, (I1, L1, D1, am_rf X)) ∧ (∃ (I2 : Nat → Nat → Int32) (L2 : Nat → Nat → Int64) (D2 : Nat → Nat → UInt64), am_Rn ext d 150 [.ref 42, .int (I 52 (Int32.toNatClampNeg (I 47 (Int32.toNatClampNeg v2)))), .long ((Int32.toInt64 (I 49 (Int32.toNatClampNeg v2))) <<< ((Int32.toInt64 (I 42 48)) &&& 63)), .long ((Int32.toInt64 (I 49 (Int32.toNatClampNeg v2))) <<< ((Int32.toInt64 (I 42 48)) &&& 63))] (I1, L1, D1, am_rf X) (none, (I2, L2, D2, am_rf X)) ∧ (P (none, (I2, L2, D2, am_rf X))))))))) ∧ (v3 = 0 → (∃ (I3 : Nat → Nat → Int32) (L3 : Nat → Nat → Int64) (D3 : Nat → Nat → UInt64), am_Rn ext d 150 [.ref 42, .int (I 52 (Int32.toNatClampNeg (I 47 (Int32.toNatClampNeg v2)))), .long ((Int32.toInt64 (I 48 (Int32.toNatClampNeg v2))) <<< ((Int32.toInt64 (I 42 48)) &&& 63)), .long ((Int32.toInt64 (I 48 (Int32.toNatClampNeg v2))) <<< ((Int32.toInt64 (I 42 48)) &&& 63))] (I, L, D, am_rf X) (none, (I3, L3, D3, am_rf X)) ∧ (P (none, (I3, L3, D3, am_rf X))))))))))) : am_wp ext d mz_167 (0, [some (.ref 42), some (.int v1), some (.int v2), some (.int v3), none, none, none, none, none, none, none, none], [], (I, L, D, am_rf X)) P := by
  refine am_wpb (c' := (9, [some (.ref 42), some (.int v1), some (.int v2), some (.int v3), none, none, none, none, none, none, none, none], [.int v2, .ref 47, .ref 52], (I, L, D, am_rf X))) 5 rfl ?_
  obtain ⟨o, h⟩ := h
  refine am_wps (c' := (10, [some (.ref 42), some (.int v1), some (.int v2), some (.int v3), none, none, none, none, none, none, none, none], [.int (I 47 (Int32.toNatClampNeg v2)), .ref 52], (I, L, D, am_rf X))) rfl rfl (am_s_iald rfl o) ?_
  obtain ⟨o, h⟩ := h
  refine am_wps (c' := (11, [some (.ref 42), some (.int v1), some (.int v2), some (.int v3), none, none, none, none, none, none, none, none], [.int (I 52 (Int32.toNatClampNeg (I 47 (Int32.toNatClampNeg v2))))], (I, L, D, am_rf X))) rfl rfl (am_s_iald rfl o) ?_
  refine am_wpb (c' := (18, [some (.ref 42), some (.int v1), some (.int v2), some (.int v3), some (.int (I 52 (Int32.toNatClampNeg (I 47 (Int32.toNatClampNeg v2))))), none, none, none, none, none, none, none], [.int v2, .ref 48], (I, L, D, am_rf X))) 4 rfl ?_
  obtain ⟨o, h⟩ := h
  refine am_wps (c' := (19, [some (.ref 42), some (.int v1), some (.int v2), some (.int v3), some (.int (I 52 (Int32.toNatClampNeg (I 47 (Int32.toNatClampNeg v2))))), none, none, none, none, none, none, none], [.int (I 48 (Int32.toNatClampNeg v2))], (I, L, D, am_rf X))) rfl rfl (am_s_iald rfl o) ?_
  refine am_wpb (c' := (32, [some (.ref 42), some (.int v1), some (.int v2), some (.int v3), some (.int (I 52 (Int32.toNatClampNeg (I 47 (Int32.toNatClampNeg v2))))), some (.long ((Int32.toInt64 (I 48 (Int32.toNatClampNeg v2))) <<< ((Int32.toInt64 (I 42 48)) &&& 63))), none, none, none, none, none, none], [.int v2, .ref 49], (I, L, D, am_rf X))) 8 rfl ?_
  obtain ⟨o, h⟩ := h
  refine am_wps (c' := (33, [some (.ref 42), some (.int v1), some (.int v2), some (.int v3), some (.int (I 52 (Int32.toNatClampNeg (I 47 (Int32.toNatClampNeg v2))))), some (.long ((Int32.toInt64 (I 48 (Int32.toNatClampNeg v2))) <<< ((Int32.toInt64 (I 42 48)) &&& 63))), none, none, none, none, none, none], [.int (I 49 (Int32.toNatClampNeg v2))], (I, L, D, am_rf X))) rfl rfl (am_s_iald rfl o) ?_
  refine am_wpb (c' := (42, [some (.ref 42), some (.int v1), some (.int v2), some (.int v3), some (.int (I 52 (Int32.toNatClampNeg (I 47 (Int32.toNatClampNeg v2))))), some (.long ((Int32.toInt64 (I 48 (Int32.toNatClampNeg v2))) <<< ((Int32.toInt64 (I 42 48)) &&& 63))), none, some (.long ((Int32.toInt64 (I 49 (Int32.toNatClampNeg v2))) <<< ((Int32.toInt64 (I 42 48)) &&& 63))), none, none, none, none], [.int v3], (I, L, D, am_rf X))) 6 rfl ?_
  refine am_b1_ne rfl (fun z => ?_) (fun z => ?_)
  · replace h := h.1 z
    refine am_wpb (c' := (58, [some (.ref 42), some (.int v1), some (.int v2), some (.int v3), some (.int (I 52 (Int32.toNatClampNeg (I 47 (Int32.toNatClampNeg v2))))), some (.long ((Int32.toInt64 (I 48 (Int32.toNatClampNeg v2))) <<< ((Int32.toInt64 (I 42 48)) &&& 63))), none, some (.long ((Int32.toInt64 (I 49 (Int32.toNatClampNeg v2))) <<< ((Int32.toInt64 (I 42 48)) &&& 63))), none, none, none, none], [.int 1, .int v3], (I, L, D, am_rf X))) 2 rfl ?_
    refine am_b2_ne rfl (fun z => ?_) (fun z => ?_)
    · replace h := h.1 z
      refine am_wpb (c' := (79, [some (.ref 42), some (.int v1), some (.int v2), some (.int v3), some (.int (I 52 (Int32.toNatClampNeg (I 47 (Int32.toNatClampNeg v2))))), some (.long ((Int32.toInt64 (I 48 (Int32.toNatClampNeg v2))) <<< ((Int32.toInt64 (I 42 48)) &&& 63))), none, some (.long ((Int32.toInt64 (I 49 (Int32.toNatClampNeg v2))) <<< ((Int32.toInt64 (I 42 48)) &&& 63))), none, none, none, none], [.int 2, .int v3], (I, L, D, am_rf X))) 2 rfl ?_
      refine am_b2_ne rfl (fun z => ?_) (fun z => ?_)
      · replace h := h.1 z
        refine am_wpb (c' := (215, [some (.ref 42), some (.int v1), some (.int v2), some (.int v3), some (.int (I 52 (Int32.toNatClampNeg (I 47 (Int32.toNatClampNeg v2))))), some (.long ((Int32.toInt64 (I 48 (Int32.toNatClampNeg v2))) <<< ((Int32.toInt64 (I 42 48)) &&& 63))), none, some (.long ((Int32.toInt64 (I 49 (Int32.toNatClampNeg v2))) <<< ((Int32.toInt64 (I 42 48)) &&& 63))), none, none, none, none], [.int v1, .ref 63], (I, L, D, am_rf X))) 3 rfl ?_
        obtain ⟨o, h⟩ := h
        refine am_wps (c' := (216, [some (.ref 42), some (.int v1), some (.int v2), some (.int v3), some (.int (I 52 (Int32.toNatClampNeg (I 47 (Int32.toNatClampNeg v2))))), some (.long ((Int32.toInt64 (I 48 (Int32.toNatClampNeg v2))) <<< ((Int32.toInt64 (I 42 48)) &&& 63))), none, some (.long ((Int32.toInt64 (I 49 (Int32.toNatClampNeg v2))) <<< ((Int32.toInt64 (I 42 48)) &&& 63))), none, none, none, none], [.long (L 63 (Int32.toNatClampNeg v1))], (I, L, D, am_rf X))) rfl rfl (am_s_lald rfl o) ?_
        refine am_wpb (c' := (221, [some (.ref 42), some (.int v1), some (.int v2), some (.int v3), some (.int (I 52 (Int32.toNatClampNeg (I 47 (Int32.toNatClampNeg v2))))), some (.long ((Int32.toInt64 (I 48 (Int32.toNatClampNeg v2))) <<< ((Int32.toInt64 (I 42 48)) &&& 63))), none, some (.long ((Int32.toInt64 (I 49 (Int32.toNatClampNeg v2))) <<< ((Int32.toInt64 (I 42 48)) &&& 63))), none, none, none, none], [.int v1, .ref 64, .long (L 63 (Int32.toNatClampNeg v1))], (I, L, D, am_rf X))) 3 rfl ?_
        obtain ⟨o, h⟩ := h
        refine am_wps (c' := (222, [some (.ref 42), some (.int v1), some (.int v2), some (.int v3), some (.int (I 52 (Int32.toNatClampNeg (I 47 (Int32.toNatClampNeg v2))))), some (.long ((Int32.toInt64 (I 48 (Int32.toNatClampNeg v2))) <<< ((Int32.toInt64 (I 42 48)) &&& 63))), none, some (.long ((Int32.toInt64 (I 49 (Int32.toNatClampNeg v2))) <<< ((Int32.toInt64 (I 42 48)) &&& 63))), none, none, none, none], [.long (L 64 (Int32.toNatClampNeg v1)), .long (L 63 (Int32.toNatClampNeg v1))], (I, L, D, am_rf X))) rfl rfl (am_s_lald rfl o) ?_
        refine am_wpb (c' := (231, [some (.ref 42), some (.int v1), some (.int v2), some (.int v3), some (.int (I 52 (Int32.toNatClampNeg (I 47 (Int32.toNatClampNeg v2))))), some (.long ((Int32.toInt64 (I 48 (Int32.toNatClampNeg v2))) <<< ((Int32.toInt64 (I 42 48)) &&& 63))), none, some (.long ((Int32.toInt64 (I 49 (Int32.toNatClampNeg v2))) <<< ((Int32.toInt64 (I 42 48)) &&& 63))), none, some (.long (((L 63 (Int32.toNatClampNeg v1)) + (L 64 (Int32.toNatClampNeg v1))) >>> ((Int32.toInt64 1) &&& 63))), none, none], [.int (I 42 50)], (I, L, D, am_rf X))) 6 rfl ?_
        refine am_b1_eq rfl (fun z => ?_) (fun z => ?_)
        · replace h := h.1 z
          exact am_fgt (l := [some (.ref 42), some (.int v1), none, none, some (.int (I 52 (Int32.toNatClampNeg (I 47 (Int32.toNatClampNeg v2))))), none, none, none, none, some (.long (((L 63 (Int32.toNatClampNeg v1)) + (L 64 (Int32.toNatClampNeg v1))) >>> ((Int32.toInt64 1) &&& 63))), none, none]) (am_le_of (am_leS (am_leS (am_leN (am_leN (am_leS (am_leN (am_leN (am_leN (am_leN (am_leS (am_leN (am_leN (am_leZ)))))))))))))) h
        · replace h := h.2 z
          refine am_wpb (c' := (239, [some (.ref 42), some (.int v1), some (.int v2), some (.int v3), some (.int (I 52 (Int32.toNatClampNeg (I 47 (Int32.toNatClampNeg v2))))), some (.long ((Int32.toInt64 (I 48 (Int32.toNatClampNeg v2))) <<< ((Int32.toInt64 (I 42 48)) &&& 63))), none, some (.long ((Int32.toInt64 (I 49 (Int32.toNatClampNeg v2))) <<< ((Int32.toInt64 (I 42 48)) &&& 63))), none, some (.long (((L 63 (Int32.toNatClampNeg v1)) + (L 64 (Int32.toNatClampNeg v1))) >>> ((Int32.toInt64 1) &&& 63))), none, none], [.long 0, .long (L 42 52)], (I, L, D, am_rf X))) 3 rfl ?_
          refine am_lc_ge rfl rfl (fun z => ?_) (fun z => ?_)
          · replace h := h.1 z
            exact am_fgt (l := [some (.ref 42), some (.int v1), none, none, some (.int (I 52 (Int32.toNatClampNeg (I 47 (Int32.toNatClampNeg v2))))), none, none, none, none, some (.long (((L 63 (Int32.toNatClampNeg v1)) + (L 64 (Int32.toNatClampNeg v1))) >>> ((Int32.toInt64 1) &&& 63))), none, none]) (am_le_of (am_leS (am_leS (am_leN (am_leN (am_leS (am_leN (am_leN (am_leN (am_leN (am_leS (am_leN (am_leN (am_leZ)))))))))))))) h
          · replace h := h.2 z
            refine am_wpb (c' := (248, [some (.ref 42), some (.int v1), some (.int v2), some (.int v3), some (.int (I 52 (Int32.toNatClampNeg (I 47 (Int32.toNatClampNeg v2))))), some (.long ((Int32.toInt64 (I 48 (Int32.toNatClampNeg v2))) <<< ((Int32.toInt64 (I 42 48)) &&& 63))), none, some (.long ((Int32.toInt64 (I 49 (Int32.toNatClampNeg v2))) <<< ((Int32.toInt64 (I 42 48)) &&& 63))), none, some (.long (((L 63 (Int32.toNatClampNeg v1)) + (L 64 (Int32.toNatClampNeg v1))) >>> ((Int32.toInt64 1) &&& 63))), none, none], [.int 1], (I, L, D, am_rf X))) 2 rfl ?_
            exact am_fgt (l := [some (.ref 42), some (.int v1), none, none, some (.int (I 52 (Int32.toNatClampNeg (I 47 (Int32.toNatClampNeg v2))))), none, none, none, none, some (.long (((L 63 (Int32.toNatClampNeg v1)) + (L 64 (Int32.toNatClampNeg v1))) >>> ((Int32.toInt64 1) &&& 63))), none, none]) (am_le_of (am_leS (am_leS (am_leN (am_leN (am_leS (am_leN (am_leN (am_leN (am_leN (am_leS (am_leN (am_leN (am_leZ)))))))))))))) h
      · replace h := h.2 z
        refine am_wpb (c' := (87, [some (.ref 42), some (.int v1), some (.int v2), some (.int v3), some (.int (I 52 (Int32.toNatClampNeg (I 47 (Int32.toNatClampNeg v2))))), some (.long ((Int32.toInt64 (I 48 (Int32.toNatClampNeg v2))) <<< ((Int32.toInt64 (I 42 48)) &&& 63))), none, some (.long ((Int32.toInt64 (I 49 (Int32.toNatClampNeg v2))) <<< ((Int32.toInt64 (I 42 48)) &&& 63))), none, none, none, none], [.int v1, .ref 65], (I, L, D, am_rf X))) 3 rfl ?_
        obtain ⟨o, h⟩ := h
        refine am_wps (c' := (88, [some (.ref 42), some (.int v1), some (.int v2), some (.int v3), some (.int (I 52 (Int32.toNatClampNeg (I 47 (Int32.toNatClampNeg v2))))), some (.long ((Int32.toInt64 (I 48 (Int32.toNatClampNeg v2))) <<< ((Int32.toInt64 (I 42 48)) &&& 63))), none, some (.long ((Int32.toInt64 (I 49 (Int32.toNatClampNeg v2))) <<< ((Int32.toInt64 (I 42 48)) &&& 63))), none, none, none, none], [.int (I 65 (Int32.toNatClampNeg v1))], (I, L, D, am_rf X))) rfl rfl (am_s_zald rfl o) ?_
        refine am_b1_eq rfl (fun z => ?_) (fun z => ?_)
        · replace h := h.1 z
          exact am_fgt (l := [some (.ref 42), some (.int v1), none, none, some (.int (I 52 (Int32.toNatClampNeg (I 47 (Int32.toNatClampNeg v2))))), some (.long ((Int32.toInt64 (I 48 (Int32.toNatClampNeg v2))) <<< ((Int32.toInt64 (I 42 48)) &&& 63))), none, some (.long ((Int32.toInt64 (I 49 (Int32.toNatClampNeg v2))) <<< ((Int32.toInt64 (I 42 48)) &&& 63))), none, none, none, none]) (am_le_of (am_leS (am_leS (am_leN (am_leN (am_leS (am_leS (am_leN (am_leS (am_leN (am_leN (am_leN (am_leN (am_leZ)))))))))))))) h
        · replace h := h.2 z
          refine am_wpb (c' := (95, [some (.ref 42), some (.int v1), some (.int v2), some (.int v3), some (.int (I 52 (Int32.toNatClampNeg (I 47 (Int32.toNatClampNeg v2))))), some (.long ((Int32.toInt64 (I 48 (Int32.toNatClampNeg v2))) <<< ((Int32.toInt64 (I 42 48)) &&& 63))), none, some (.long ((Int32.toInt64 (I 49 (Int32.toNatClampNeg v2))) <<< ((Int32.toInt64 (I 42 48)) &&& 63))), none, none, none, none], [.int (I 42 50)], (I, L, D, am_rf X))) 2 rfl ?_
          refine am_b1_eq rfl (fun z => ?_) (fun z => ?_)
          · replace h := h.1 z
            exact am_fgt (l := [some (.ref 42), some (.int v1), none, none, some (.int (I 52 (Int32.toNatClampNeg (I 47 (Int32.toNatClampNeg v2))))), some (.long ((Int32.toInt64 (I 48 (Int32.toNatClampNeg v2))) <<< ((Int32.toInt64 (I 42 48)) &&& 63))), none, some (.long ((Int32.toInt64 (I 49 (Int32.toNatClampNeg v2))) <<< ((Int32.toInt64 (I 42 48)) &&& 63))), none, none, none, none]) (am_le_of (am_leS (am_leS (am_leN (am_leN (am_leS (am_leS (am_leN (am_leS (am_leN (am_leN (am_leN (am_leN (am_leZ)))))))))))))) h
          · replace h := h.2 z
            refine am_wpb (c' := (103, [some (.ref 42), some (.int v1), some (.int v2), some (.int v3), some (.int (I 52 (Int32.toNatClampNeg (I 47 (Int32.toNatClampNeg v2))))), some (.long ((Int32.toInt64 (I 48 (Int32.toNatClampNeg v2))) <<< ((Int32.toInt64 (I 42 48)) &&& 63))), none, some (.long ((Int32.toInt64 (I 49 (Int32.toNatClampNeg v2))) <<< ((Int32.toInt64 (I 42 48)) &&& 63))), none, none, none, none], [.int v1, .ref 64], (I, L, D, am_rf X))) 3 rfl ?_
            obtain ⟨o, h⟩ := h
            refine am_wps (c' := (104, [some (.ref 42), some (.int v1), some (.int v2), some (.int v3), some (.int (I 52 (Int32.toNatClampNeg (I 47 (Int32.toNatClampNeg v2))))), some (.long ((Int32.toInt64 (I 48 (Int32.toNatClampNeg v2))) <<< ((Int32.toInt64 (I 42 48)) &&& 63))), none, some (.long ((Int32.toInt64 (I 49 (Int32.toNatClampNeg v2))) <<< ((Int32.toInt64 (I 42 48)) &&& 63))), none, none, none, none], [.long (L 64 (Int32.toNatClampNeg v1))], (I, L, D, am_rf X))) rfl rfl (am_s_lald rfl o) ?_
            refine am_wpb (c' := (105, [some (.ref 42), some (.int v1), some (.int v2), some (.int v3), some (.int (I 52 (Int32.toNatClampNeg (I 47 (Int32.toNatClampNeg v2))))), some (.long ((Int32.toInt64 (I 48 (Int32.toNatClampNeg v2))) <<< ((Int32.toInt64 (I 42 48)) &&& 63))), none, some (.long ((Int32.toInt64 (I 49 (Int32.toNatClampNeg v2))) <<< ((Int32.toInt64 (I 42 48)) &&& 63))), none, none, none, none], [.long 0, .long (L 64 (Int32.toNatClampNeg v1))], (I, L, D, am_rf X))) 1 rfl ?_
            refine am_lc_ge rfl rfl (fun z => ?_) (fun z => ?_)
            · replace h := h.1 z
              exact am_fgt (l := [some (.ref 42), some (.int v1), none, none, some (.int (I 52 (Int32.toNatClampNeg (I 47 (Int32.toNatClampNeg v2))))), some (.long ((Int32.toInt64 (I 48 (Int32.toNatClampNeg v2))) <<< ((Int32.toInt64 (I 42 48)) &&& 63))), none, some (.long ((Int32.toInt64 (I 49 (Int32.toNatClampNeg v2))) <<< ((Int32.toInt64 (I 42 48)) &&& 63))), none, none, none, none]) (am_le_of (am_leS (am_leS (am_leN (am_leN (am_leS (am_leS (am_leN (am_leS (am_leN (am_leN (am_leN (am_leN (am_leZ)))))))))))))) h
            · replace h := h.2 z
              refine am_wpb (c' := (114, [some (.ref 42), some (.int v1), some (.int v2), some (.int v3), some (.int (I 52 (Int32.toNatClampNeg (I 47 (Int32.toNatClampNeg v2))))), some (.long ((Int32.toInt64 (I 48 (Int32.toNatClampNeg v2))) <<< ((Int32.toInt64 (I 42 48)) &&& 63))), none, some (.long ((Int32.toInt64 (I 49 (Int32.toNatClampNeg v2))) <<< ((Int32.toInt64 (I 42 48)) &&& 63))), none, none, none, none], [.long 0, .long (L 42 51)], (I, L, D, am_rf X))) 3 rfl ?_
              refine am_lc_le rfl rfl (fun z => ?_) (fun z => ?_)
              · replace h := h.1 z
                exact am_fgt (l := [some (.ref 42), some (.int v1), none, none, some (.int (I 52 (Int32.toNatClampNeg (I 47 (Int32.toNatClampNeg v2))))), some (.long ((Int32.toInt64 (I 48 (Int32.toNatClampNeg v2))) <<< ((Int32.toInt64 (I 42 48)) &&& 63))), none, some (.long ((Int32.toInt64 (I 49 (Int32.toNatClampNeg v2))) <<< ((Int32.toInt64 (I 42 48)) &&& 63))), none, none, none, none]) (am_le_of (am_leS (am_leS (am_leN (am_leN (am_leS (am_leS (am_leN (am_leS (am_leN (am_leN (am_leN (am_leN (am_leZ)))))))))))))) h
              · replace h := h.2 z
                refine am_wpb (c' := (123, [some (.ref 42), some (.int v1), some (.int v2), some (.int v3), some (.int (I 52 (Int32.toNatClampNeg (I 47 (Int32.toNatClampNeg v2))))), some (.long ((Int32.toInt64 (I 48 (Int32.toNatClampNeg v2))) <<< ((Int32.toInt64 (I 42 48)) &&& 63))), none, some (.long ((Int32.toInt64 (I 49 (Int32.toNatClampNeg v2))) <<< ((Int32.toInt64 (I 42 48)) &&& 63))), none, none, none, none], [.int 1], (I, L, D, am_rf X))) 2 rfl ?_
                exact am_fgt (l := [some (.ref 42), some (.int v1), none, none, some (.int (I 52 (Int32.toNatClampNeg (I 47 (Int32.toNatClampNeg v2))))), some (.long ((Int32.toInt64 (I 48 (Int32.toNatClampNeg v2))) <<< ((Int32.toInt64 (I 42 48)) &&& 63))), none, some (.long ((Int32.toInt64 (I 49 (Int32.toNatClampNeg v2))) <<< ((Int32.toInt64 (I 42 48)) &&& 63))), none, none, none, none]) (am_le_of (am_leS (am_leS (am_leN (am_leN (am_leS (am_leS (am_leN (am_leS (am_leN (am_leN (am_leN (am_leN (am_leZ)))))))))))))) h
    · replace h := h.2 z
      refine am_wpb (c' := (63, [some (.ref 42), some (.int v1), some (.int v2), some (.int v3), some (.int (I 52 (Int32.toNatClampNeg (I 47 (Int32.toNatClampNeg v2))))), some (.long ((Int32.toInt64 (I 48 (Int32.toNatClampNeg v2))) <<< ((Int32.toInt64 (I 42 48)) &&& 63))), none, some (.long ((Int32.toInt64 (I 49 (Int32.toNatClampNeg v2))) <<< ((Int32.toInt64 (I 42 48)) &&& 63))), none, none, none, none], [.int v1, .ref 42], (I, L, D, am_rf X))) 2 rfl ?_
      obtain ⟨I1, L1, D1, hr, h⟩ := h
      refine am_wp_inv (as := [.ref 42, .int v1]) rfl rfl rfl rfl ⟨_, hr, ?_⟩
      show am_wp ext d mz_167 (66, [some (.ref 42), some (.int v1), some (.int v2), some (.int v3), some (.int (I 52 (Int32.toNatClampNeg (I 47 (Int32.toNatClampNeg v2))))), some (.long ((Int32.toInt64 (I 48 (Int32.toNatClampNeg v2))) <<< ((Int32.toInt64 (I 42 48)) &&& 63))), none, some (.long ((Int32.toInt64 (I 49 (Int32.toNatClampNeg v2))) <<< ((Int32.toInt64 (I 42 48)) &&& 63))), none, none, none, none], [], (I1, L1, D1, am_rf X)) P
      refine am_wpb (c' := (73, [some (.ref 42), some (.int v1), some (.int v2), some (.int v3), some (.int (I 52 (Int32.toNatClampNeg (I 47 (Int32.toNatClampNeg v2))))), some (.long ((Int32.toInt64 (I 48 (Int32.toNatClampNeg v2))) <<< ((Int32.toInt64 (I 42 48)) &&& 63))), none, some (.long ((Int32.toInt64 (I 49 (Int32.toNatClampNeg v2))) <<< ((Int32.toInt64 (I 42 48)) &&& 63))), none, none, none, none], [.long ((Int32.toInt64 (I 49 (Int32.toNatClampNeg v2))) <<< ((Int32.toInt64 (I 42 48)) &&& 63)), .long ((Int32.toInt64 (I 49 (Int32.toNatClampNeg v2))) <<< ((Int32.toInt64 (I 42 48)) &&& 63)), .int (I 52 (Int32.toNatClampNeg (I 47 (Int32.toNatClampNeg v2)))), .ref 42], (I1, L1, D1, am_rf X))) 4 rfl ?_
      obtain ⟨I2, L2, D2, hr, h⟩ := h
      refine am_wp_inv (as := [.ref 42, .int (I 52 (Int32.toNatClampNeg (I 47 (Int32.toNatClampNeg v2)))), .long ((Int32.toInt64 (I 49 (Int32.toNatClampNeg v2))) <<< ((Int32.toInt64 (I 42 48)) &&& 63)), .long ((Int32.toInt64 (I 49 (Int32.toNatClampNeg v2))) <<< ((Int32.toInt64 (I 42 48)) &&& 63))]) rfl rfl rfl rfl ⟨_, hr, ?_⟩
      show am_wp ext d mz_167 (76, [some (.ref 42), some (.int v1), some (.int v2), some (.int v3), some (.int (I 52 (Int32.toNatClampNeg (I 47 (Int32.toNatClampNeg v2))))), some (.long ((Int32.toInt64 (I 48 (Int32.toNatClampNeg v2))) <<< ((Int32.toInt64 (I 42 48)) &&& 63))), none, some (.long ((Int32.toInt64 (I 49 (Int32.toNatClampNeg v2))) <<< ((Int32.toInt64 (I 42 48)) &&& 63))), none, none, none, none], [], (I2, L2, D2, am_rf X)) P
      exact am_ret_v rfl rfl h
  · replace h := h.2 z
    refine am_wpb (c' := (52, [some (.ref 42), some (.int v1), some (.int v2), some (.int v3), some (.int (I 52 (Int32.toNatClampNeg (I 47 (Int32.toNatClampNeg v2))))), some (.long ((Int32.toInt64 (I 48 (Int32.toNatClampNeg v2))) <<< ((Int32.toInt64 (I 42 48)) &&& 63))), none, some (.long ((Int32.toInt64 (I 49 (Int32.toNatClampNeg v2))) <<< ((Int32.toInt64 (I 42 48)) &&& 63))), none, none, none, none], [.long ((Int32.toInt64 (I 48 (Int32.toNatClampNeg v2))) <<< ((Int32.toInt64 (I 42 48)) &&& 63)), .long ((Int32.toInt64 (I 48 (Int32.toNatClampNeg v2))) <<< ((Int32.toInt64 (I 42 48)) &&& 63)), .int (I 52 (Int32.toNatClampNeg (I 47 (Int32.toNatClampNeg v2)))), .ref 42], (I, L, D, am_rf X))) 4 rfl ?_
    obtain ⟨I3, L3, D3, hr, h⟩ := h
    refine am_wp_inv (as := [.ref 42, .int (I 52 (Int32.toNatClampNeg (I 47 (Int32.toNatClampNeg v2)))), .long ((Int32.toInt64 (I 48 (Int32.toNatClampNeg v2))) <<< ((Int32.toInt64 (I 42 48)) &&& 63)), .long ((Int32.toInt64 (I 48 (Int32.toNatClampNeg v2))) <<< ((Int32.toInt64 (I 42 48)) &&& 63))]) rfl rfl rfl rfl ⟨_, hr, ?_⟩
    show am_wp ext d mz_167 (55, [some (.ref 42), some (.int v1), some (.int v2), some (.int v3), some (.int (I 52 (Int32.toNatClampNeg (I 47 (Int32.toNatClampNeg v2))))), some (.long ((Int32.toInt64 (I 48 (Int32.toNatClampNeg v2))) <<< ((Int32.toInt64 (I 42 48)) &&& 63))), none, some (.long ((Int32.toInt64 (I 49 (Int32.toNatClampNeg v2))) <<< ((Int32.toInt64 (I 42 48)) &&& 63))), none, none, none, none], [], (I3, L3, D3, am_rf X)) P
    exact am_ret_v rfl rfl h
theorem w167_122 {ext : Nat → List Value → am_M → Option am_R} {d : Nat} {P : am_R → Prop} (I : Nat → Nat → Int32) (L : Nat → Nat → Int64) (D : Nat → Nat → UInt64) (X : am_Rf) (v1 : Int32) (v4 : Int32) (v5 : Int64) (v7 : Int64)
    (h : am_wp ext d mz_167 (123, [some (.ref 42), some (.int v1), none, none, some (.int v4), some (.long v5), none, some (.long v7), none, none, none, none], [.int 0], (I, L, D, am_rf X)) P) : am_wp ext d mz_167 (122, [some (.ref 42), some (.int v1), none, none, some (.int v4), some (.long v5), none, some (.long v7), none, none, none, none], [], (I, L, D, am_rf X)) P := by
  refine am_wpb (c' := (123, [some (.ref 42), some (.int v1), none, none, some (.int v4), some (.long v5), none, some (.long v7), none, none, none, none], [.int 0], (I, L, D, am_rf X))) 1 rfl ?_
  exact h
theorem w167_123 {ext : Nat → List Value → am_M → Option am_R} {d : Nat} {P : am_R → Prop} (I : Nat → Nat → Int32) (L : Nat → Nat → Int64) (D : Nat → Nat → UInt64) (X : am_Rf) (v1 : Int32) (v4 : Int32) (v5 : Int64) (v7 : Int64) (s0 : Int32)
    (h : am_inb v1 128 = true ∧ ((((I 65 (Int32.toNatClampNeg v1)) = 0 → (am_wp ext d mz_167 (165, [some (.ref 42), some (.int v1), none, none, some (.int v4), some (.long v5), none, some (.long v7), none, some (.int s0), none, none], [], (I, L, D, am_rf X)) P)) ∧ (¬ (I 65 (Int32.toNatClampNeg v1)) = 0 → ((((I 42 50) = 0 → (am_wp ext d mz_167 (165, [some (.ref 42), some (.int v1), none, none, some (.int v4), some (.long v5), none, some (.long v7), none, some (.int s0), none, none], [], (I, L, D, am_rf X)) P)) ∧ (¬ (I 42 50) = 0 → (am_inb v1 128 = true ∧ ((((L 63 (Int32.toNatClampNeg v1)) ≤ 0 → (am_wp ext d mz_167 (165, [some (.ref 42), some (.int v1), none, none, some (.int v4), some (.long v5), none, some (.long v7), none, some (.int s0), none, none], [], (I, L, D, am_rf X)) P)) ∧ (¬ (L 63 (Int32.toNatClampNeg v1)) ≤ 0 → (((0 ≤ (L 42 52) → (am_wp ext d mz_167 (165, [some (.ref 42), some (.int v1), none, none, some (.int v4), some (.long v5), none, some (.long v7), none, some (.int s0), none, none], [], (I, L, D, am_rf X)) P)) ∧ (¬ 0 ≤ (L 42 52) → (am_wp ext d mz_167 (166, [some (.ref 42), some (.int v1), none, none, some (.int v4), some (.long v5), none, some (.long v7), none, some (.int s0), none, none], [.int 1], (I, L, D, am_rf X)) P))))))))))))))) : am_wp ext d mz_167 (123, [some (.ref 42), some (.int v1), none, none, some (.int v4), some (.long v5), none, some (.long v7), none, none, none, none], [.int s0], (I, L, D, am_rf X)) P := by
  refine am_wpb (c' := (130, [some (.ref 42), some (.int v1), none, none, some (.int v4), some (.long v5), none, some (.long v7), none, some (.int s0), none, none], [.int v1, .ref 65], (I, L, D, am_rf X))) 4 rfl ?_
  obtain ⟨o, h⟩ := h
  refine am_wps (c' := (131, [some (.ref 42), some (.int v1), none, none, some (.int v4), some (.long v5), none, some (.long v7), none, some (.int s0), none, none], [.int (I 65 (Int32.toNatClampNeg v1))], (I, L, D, am_rf X))) rfl rfl (am_s_zald rfl o) ?_
  refine am_b1_eq rfl (fun z => ?_) (fun z => ?_)
  · replace h := h.1 z
    exact h
  · replace h := h.2 z
    refine am_wpb (c' := (138, [some (.ref 42), some (.int v1), none, none, some (.int v4), some (.long v5), none, some (.long v7), none, some (.int s0), none, none], [.int (I 42 50)], (I, L, D, am_rf X))) 2 rfl ?_
    refine am_b1_eq rfl (fun z => ?_) (fun z => ?_)
    · replace h := h.1 z
      exact h
    · replace h := h.2 z
      refine am_wpb (c' := (146, [some (.ref 42), some (.int v1), none, none, some (.int v4), some (.long v5), none, some (.long v7), none, some (.int s0), none, none], [.int v1, .ref 63], (I, L, D, am_rf X))) 3 rfl ?_
      obtain ⟨o, h⟩ := h
      refine am_wps (c' := (147, [some (.ref 42), some (.int v1), none, none, some (.int v4), some (.long v5), none, some (.long v7), none, some (.int s0), none, none], [.long (L 63 (Int32.toNatClampNeg v1))], (I, L, D, am_rf X))) rfl rfl (am_s_lald rfl o) ?_
      refine am_wpb (c' := (148, [some (.ref 42), some (.int v1), none, none, some (.int v4), some (.long v5), none, some (.long v7), none, some (.int s0), none, none], [.long 0, .long (L 63 (Int32.toNatClampNeg v1))], (I, L, D, am_rf X))) 1 rfl ?_
      refine am_lc_le rfl rfl (fun z => ?_) (fun z => ?_)
      · replace h := h.1 z
        exact h
      · replace h := h.2 z
        refine am_wpb (c' := (157, [some (.ref 42), some (.int v1), none, none, some (.int v4), some (.long v5), none, some (.long v7), none, some (.int s0), none, none], [.long 0, .long (L 42 52)], (I, L, D, am_rf X))) 3 rfl ?_
        refine am_lc_ge rfl rfl (fun z => ?_) (fun z => ?_)
        · replace h := h.1 z
          exact h
        · replace h := h.2 z
          refine am_wpb (c' := (166, [some (.ref 42), some (.int v1), none, none, some (.int v4), some (.long v5), none, some (.long v7), none, some (.int s0), none, none], [.int 1], (I, L, D, am_rf X))) 2 rfl ?_
          exact h
theorem w167_165 {ext : Nat → List Value → am_M → Option am_R} {d : Nat} {P : am_R → Prop} (I : Nat → Nat → Int32) (L : Nat → Nat → Int64) (D : Nat → Nat → UInt64) (X : am_Rf) (v1 : Int32) (v4 : Int32) (v5 : Int64) (v7 : Int64) (v9 : Int32)
    (h : am_wp ext d mz_167 (166, [some (.ref 42), some (.int v1), none, none, some (.int v4), some (.long v5), none, some (.long v7), none, some (.int v9), none, none], [.int 0], (I, L, D, am_rf X)) P) : am_wp ext d mz_167 (165, [some (.ref 42), some (.int v1), none, none, some (.int v4), some (.long v5), none, some (.long v7), none, some (.int v9), none, none], [], (I, L, D, am_rf X)) P := by
  refine am_wpb (c' := (166, [some (.ref 42), some (.int v1), none, none, some (.int v4), some (.long v5), none, some (.long v7), none, some (.int v9), none, none], [.int 0], (I, L, D, am_rf X))) 1 rfl ?_
  exact h
theorem w167_166 {ext : Nat → List Value → am_M → Option am_R} {d : Nat} {P : am_R → Prop} (I : Nat → Nat → Int32) (L : Nat → Nat → Int64) (D : Nat → Nat → UInt64) (X : am_Rf) (v1 : Int32) (v4 : Int32) (v5 : Int64) (v7 : Int64) (v9 : Int32) (s0 : Int32)
    (h : ((¬ v9 = 0 → (am_wp ext d mz_167 (183, [some (.ref 42), some (.int v1), none, none, some (.int v4), some (.long v5), none, some (.long v7), none, some (.int v9), none, none], [], (I, L, D, am_rf X)) P)) ∧ (v9 = 0 → (((¬ s0 = 0 → (am_wp ext d mz_167 (183, [some (.ref 42), some (.int v1), none, none, some (.int v4), some (.long v5), none, some (.long v7), none, some (.int v9), none, none], [], (I, L, D, am_rf X)) P)) ∧ (s0 = 0 → (∃ (I1 : Nat → Nat → Int32) (L1 : Nat → Nat → Int64) (D1 : Nat → Nat → UInt64), am_Rn ext d 152 [.ref 42] (I, L, D, am_rf X) (none, (I1, L1, D1, am_rf X)) ∧ (P (none, (I1, L1, D1, am_rf X)))))))))) : am_wp ext d mz_167 (166, [some (.ref 42), some (.int v1), none, none, some (.int v4), some (.long v5), none, some (.long v7), none, some (.int v9), none, none], [.int s0], (I, L, D, am_rf X)) P := by
  refine am_wpb (c' := (170, [some (.ref 42), some (.int v1), none, none, some (.int v4), some (.long v5), none, some (.long v7), none, some (.int v9), some (.int s0), none], [.int v9], (I, L, D, am_rf X))) 2 rfl ?_
  refine am_b1_ne rfl (fun z => ?_) (fun z => ?_)
  · replace h := h.1 z
    exact am_fgt (l := [some (.ref 42), some (.int v1), none, none, some (.int v4), some (.long v5), none, some (.long v7), none, some (.int v9), none, none]) (am_le_of (am_leS (am_leS (am_leN (am_leN (am_leS (am_leS (am_leN (am_leS (am_leN (am_leS (am_leN (am_leN (am_leZ)))))))))))))) h
  · replace h := h.2 z
    refine am_wpb (c' := (175, [some (.ref 42), some (.int v1), none, none, some (.int v4), some (.long v5), none, some (.long v7), none, some (.int v9), some (.int s0), none], [.int s0], (I, L, D, am_rf X))) 1 rfl ?_
    refine am_b1_ne rfl (fun z => ?_) (fun z => ?_)
    · replace h := h.1 z
      exact am_fgt (l := [some (.ref 42), some (.int v1), none, none, some (.int v4), some (.long v5), none, some (.long v7), none, some (.int v9), none, none]) (am_le_of (am_leS (am_leS (am_leN (am_leN (am_leS (am_leS (am_leN (am_leS (am_leN (am_leS (am_leN (am_leN (am_leZ)))))))))))))) h
    · replace h := h.2 z
      refine am_wpb (c' := (179, [some (.ref 42), some (.int v1), none, none, some (.int v4), some (.long v5), none, some (.long v7), none, some (.int v9), some (.int s0), none], [.ref 42], (I, L, D, am_rf X))) 1 rfl ?_
      obtain ⟨I1, L1, D1, hr, h⟩ := h
      refine am_wp_inv (as := [.ref 42]) rfl rfl rfl rfl ⟨_, hr, ?_⟩
      show am_wp ext d mz_167 (182, [some (.ref 42), some (.int v1), none, none, some (.int v4), some (.long v5), none, some (.long v7), none, some (.int v9), some (.int s0), none], [], (I1, L1, D1, am_rf X)) P
      exact am_ret_v rfl rfl h
theorem w167_183 {ext : Nat → List Value → am_M → Option am_R} {d : Nat} {P : am_R → Prop} (I : Nat → Nat → Int32) (L : Nat → Nat → Int64) (D : Nat → Nat → UInt64) (X : am_Rf) (v1 : Int32) (v4 : Int32) (v5 : Int64) (v7 : Int64) (v9 : Int32)
    (h : am_inb v1 128 = true ∧ (am_inb v1 128 = true ∧ (am_inb v1 128 = true ∧ ((v9 = 0 ∨ v9 = 1) ∧ (am_wp ext d mz_167 (319, [some (.ref 42), some (.int v1), none, none, some (.int v4), none, none, none, none, none, none, none], [], (am_uI I 68 (Int32.toNatClampNeg v1) v9, am_uL (am_uL L 63 (Int32.toNatClampNeg v1) v5) 64 (Int32.toNatClampNeg v1) v7, D, am_rf X)) P))))) : am_wp ext d mz_167 (183, [some (.ref 42), some (.int v1), none, none, some (.int v4), some (.long v5), none, some (.long v7), none, some (.int v9), none, none], [], (I, L, D, am_rf X)) P := by
  refine am_wpb (c' := (190, [some (.ref 42), some (.int v1), none, none, some (.int v4), some (.long v5), none, some (.long v7), none, some (.int v9), none, none], [.long v5, .int v1, .ref 63], (I, L, D, am_rf X))) 4 rfl ?_
  obtain ⟨o, h⟩ := h
  refine am_wps (c' := (191, [some (.ref 42), some (.int v1), none, none, some (.int v4), some (.long v5), none, some (.long v7), none, some (.int v9), none, none], [], (I, am_uL L 63 (Int32.toNatClampNeg v1) v5, D, am_rf X))) rfl rfl (am_s_last rfl o) ?_
  refine am_wpb (c' := (198, [some (.ref 42), some (.int v1), none, none, some (.int v4), some (.long v5), none, some (.long v7), none, some (.int v9), none, none], [.long v7, .int v1, .ref 64], (I, am_uL L 63 (Int32.toNatClampNeg v1) v5, D, am_rf X))) 4 rfl ?_
  obtain ⟨o, h⟩ := h
  refine am_wps (c' := (199, [some (.ref 42), some (.int v1), none, none, some (.int v4), some (.long v5), none, some (.long v7), none, some (.int v9), none, none], [], (I, am_uL (am_uL L 63 (Int32.toNatClampNeg v1) v5) 64 (Int32.toNatClampNeg v1) v7, D, am_rf X))) rfl rfl (am_s_last rfl o) ?_
  refine am_wpb (c' := (206, [some (.ref 42), some (.int v1), none, none, some (.int v4), some (.long v5), none, some (.long v7), none, some (.int v9), none, none], [.int v9, .int v1, .ref 68], (I, am_uL (am_uL L 63 (Int32.toNatClampNeg v1) v5) 64 (Int32.toNatClampNeg v1) v7, D, am_rf X))) 4 rfl ?_
  obtain ⟨o, h⟩ := h
  obtain ⟨o2, h⟩ := h
  refine am_wps (c' := (207, [some (.ref 42), some (.int v1), none, none, some (.int v4), some (.long v5), none, some (.long v7), none, some (.int v9), none, none], [], (am_uI I 68 (Int32.toNatClampNeg v1) v9, am_uL (am_uL L 63 (Int32.toNatClampNeg v1) v5) 64 (Int32.toNatClampNeg v1) v7, D, am_rf X))) rfl rfl (am_s_zast rfl o o2) ?_
  refine am_wpb (c' := (319, [some (.ref 42), some (.int v1), none, none, some (.int v4), some (.long v5), none, some (.long v7), none, some (.int v9), none, none], [], (am_uI I 68 (Int32.toNatClampNeg v1) v9, am_uL (am_uL L 63 (Int32.toNatClampNeg v1) v5) 64 (Int32.toNatClampNeg v1) v7, D, am_rf X))) 1 rfl ?_
  exact am_fgt (l := [some (.ref 42), some (.int v1), none, none, some (.int v4), none, none, none, none, none, none, none]) (am_le_of (am_leS (am_leS (am_leN (am_leN (am_leS (am_leN (am_leN (am_leN (am_leN (am_leN (am_leN (am_leN (am_leZ)))))))))))))) h
theorem w167_247 {ext : Nat → List Value → am_M → Option am_R} {d : Nat} {P : am_R → Prop} (I : Nat → Nat → Int32) (L : Nat → Nat → Int64) (D : Nat → Nat → UInt64) (X : am_Rf) (v1 : Int32) (v4 : Int32) (v9 : Int64)
    (h : am_wp ext d mz_167 (248, [some (.ref 42), some (.int v1), none, none, some (.int v4), none, none, none, none, some (.long v9), none, none], [.int 0], (I, L, D, am_rf X)) P) : am_wp ext d mz_167 (247, [some (.ref 42), some (.int v1), none, none, some (.int v4), none, none, none, none, some (.long v9), none, none], [], (I, L, D, am_rf X)) P := by
  refine am_wpb (c' := (248, [some (.ref 42), some (.int v1), none, none, some (.int v4), none, none, none, none, some (.long v9), none, none], [.int 0], (I, L, D, am_rf X))) 1 rfl ?_
  exact h
theorem w167_248 {ext : Nat → List Value → am_M → Option am_R} {d : Nat} {P : am_R → Prop} (I : Nat → Nat → Int32) (L : Nat → Nat → Int64) (D : Nat → Nat → UInt64) (X : am_Rf) (v1 : Int32) (v4 : Int32) (v9 : Int64) (s0 : Int32)
    (h : ((¬ s0 = 0 → (am_wp ext d mz_167 (289, [some (.ref 42), some (.int v1), none, none, some (.int v4), none, none, none, none, some (.long v9), none, some (.int s0)], [], (I, L, D, am_rf X)) P)) ∧ (s0 = 0 → ((((I 42 50) = 0 → (am_inb v1 128 = true ∧ (am_inb v1 128 = true ∧ (∃ (I1 : Nat → Nat → Int32) (L1 : Nat → Nat → Int64) (D1 : Nat → Nat → UInt64), am_Rn ext d 151 [.ref 42, .int 1, .long (L 63 (Int32.toNatClampNeg v1)), .long (L 64 (Int32.toNatClampNeg v1))] (I, L, D, am_rf X) (none, (I1, L1, D1, am_rf X)) ∧ (P (none, (I1, L1, D1, am_rf X))))))) ∧ (¬ (I 42 50) = 0 → (((0 < (L 42 51) → (am_wp ext d mz_167 (289, [some (.ref 42), some (.int v1), none, none, some (.int v4), none, none, none, none, some (.long v9), none, some (.int s0)], [], (I, L, D, am_rf X)) P)) ∧ (¬ 0 < (L 42 51) → (am_inb v1 128 = true ∧ (am_inb v1 128 = true ∧ (∃ (I2 : Nat → Nat → Int32) (L2 : Nat → Nat → Int64) (D2 : Nat → Nat → UInt64), am_Rn ext d 151 [.ref 42, .int 1, .long (L 63 (Int32.toNatClampNeg v1)), .long (L 64 (Int32.toNatClampNeg v1))] (I, L, D, am_rf X) (none, (I2, L2, D2, am_rf X)) ∧ (P (none, (I2, L2, D2, am_rf X))))))))))))))) : am_wp ext d mz_167 (248, [some (.ref 42), some (.int v1), none, none, some (.int v4), none, none, none, none, some (.long v9), none, none], [.int s0], (I, L, D, am_rf X)) P := by
  refine am_wpb (c' := (252, [some (.ref 42), some (.int v1), none, none, some (.int v4), none, none, none, none, some (.long v9), none, some (.int s0)], [.int s0], (I, L, D, am_rf X))) 2 rfl ?_
  refine am_b1_ne rfl (fun z => ?_) (fun z => ?_)
  · replace h := h.1 z
    exact h
  · replace h := h.2 z
    refine am_wpb (c' := (259, [some (.ref 42), some (.int v1), none, none, some (.int v4), none, none, none, none, some (.long v9), none, some (.int s0)], [.int (I 42 50)], (I, L, D, am_rf X))) 2 rfl ?_
    refine am_b1_eq rfl (fun z => ?_) (fun z => ?_)
    · replace h := h.1 z
      refine am_wpb (c' := (278, [some (.ref 42), some (.int v1), none, none, some (.int v4), none, none, none, none, some (.long v9), none, some (.int s0)], [.int v1, .ref 63, .int 1, .ref 42], (I, L, D, am_rf X))) 5 rfl ?_
      obtain ⟨o, h⟩ := h
      refine am_wps (c' := (279, [some (.ref 42), some (.int v1), none, none, some (.int v4), none, none, none, none, some (.long v9), none, some (.int s0)], [.long (L 63 (Int32.toNatClampNeg v1)), .int 1, .ref 42], (I, L, D, am_rf X))) rfl rfl (am_s_lald rfl o) ?_
      refine am_wpb (c' := (284, [some (.ref 42), some (.int v1), none, none, some (.int v4), none, none, none, none, some (.long v9), none, some (.int s0)], [.int v1, .ref 64, .long (L 63 (Int32.toNatClampNeg v1)), .int 1, .ref 42], (I, L, D, am_rf X))) 3 rfl ?_
      obtain ⟨o, h⟩ := h
      refine am_wps (c' := (285, [some (.ref 42), some (.int v1), none, none, some (.int v4), none, none, none, none, some (.long v9), none, some (.int s0)], [.long (L 64 (Int32.toNatClampNeg v1)), .long (L 63 (Int32.toNatClampNeg v1)), .int 1, .ref 42], (I, L, D, am_rf X))) rfl rfl (am_s_lald rfl o) ?_
      obtain ⟨I1, L1, D1, hr, h⟩ := h
      refine am_wp_inv (as := [.ref 42, .int 1, .long (L 63 (Int32.toNatClampNeg v1)), .long (L 64 (Int32.toNatClampNeg v1))]) rfl rfl rfl rfl ⟨_, hr, ?_⟩
      show am_wp ext d mz_167 (288, [some (.ref 42), some (.int v1), none, none, some (.int v4), none, none, none, none, some (.long v9), none, some (.int s0)], [], (I1, L1, D1, am_rf X)) P
      exact am_ret_v rfl rfl h
    · replace h := h.2 z
      refine am_wpb (c' := (267, [some (.ref 42), some (.int v1), none, none, some (.int v4), none, none, none, none, some (.long v9), none, some (.int s0)], [.long 0, .long (L 42 51)], (I, L, D, am_rf X))) 3 rfl ?_
      refine am_lc_gt rfl rfl (fun z => ?_) (fun z => ?_)
      · replace h := h.1 z
        exact h
      · replace h := h.2 z
        refine am_wpb (c' := (278, [some (.ref 42), some (.int v1), none, none, some (.int v4), none, none, none, none, some (.long v9), none, some (.int s0)], [.int v1, .ref 63, .int 1, .ref 42], (I, L, D, am_rf X))) 5 rfl ?_
        obtain ⟨o, h⟩ := h
        refine am_wps (c' := (279, [some (.ref 42), some (.int v1), none, none, some (.int v4), none, none, none, none, some (.long v9), none, some (.int s0)], [.long (L 63 (Int32.toNatClampNeg v1)), .int 1, .ref 42], (I, L, D, am_rf X))) rfl rfl (am_s_lald rfl o) ?_
        refine am_wpb (c' := (284, [some (.ref 42), some (.int v1), none, none, some (.int v4), none, none, none, none, some (.long v9), none, some (.int s0)], [.int v1, .ref 64, .long (L 63 (Int32.toNatClampNeg v1)), .int 1, .ref 42], (I, L, D, am_rf X))) 3 rfl ?_
        obtain ⟨o, h⟩ := h
        refine am_wps (c' := (285, [some (.ref 42), some (.int v1), none, none, some (.int v4), none, none, none, none, some (.long v9), none, some (.int s0)], [.long (L 64 (Int32.toNatClampNeg v1)), .long (L 63 (Int32.toNatClampNeg v1)), .int 1, .ref 42], (I, L, D, am_rf X))) rfl rfl (am_s_lald rfl o) ?_
        obtain ⟨I2, L2, D2, hr, h⟩ := h
        refine am_wp_inv (as := [.ref 42, .int 1, .long (L 63 (Int32.toNatClampNeg v1)), .long (L 64 (Int32.toNatClampNeg v1))]) rfl rfl rfl rfl ⟨_, hr, ?_⟩
        show am_wp ext d mz_167 (288, [some (.ref 42), some (.int v1), none, none, some (.int v4), none, none, none, none, some (.long v9), none, some (.int s0)], [], (I2, L2, D2, am_rf X)) P
        exact am_ret_v rfl rfl h
theorem w167_289 {ext : Nat → List Value → am_M → Option am_R} {d : Nat} {P : am_R → Prop} (I : Nat → Nat → Int32) (L : Nat → Nat → Int64) (D : Nat → Nat → UInt64) (X : am_Rf) (v1 : Int32) (v4 : Int32) (v9 : Int64) (v11 : Int32)
    (h : am_inb v1 128 = true ∧ (((¬ v11 = (I 68 (Int32.toNatClampNeg v1)) → (am_inb v1 128 = true ∧ (am_wp ext d mz_167 (319, [some (.ref 42), some (.int v1), none, none, some (.int v4), none, none, none, none, none, none, none], [], (I, am_uL L 64 (Int32.toNatClampNeg v1) v9, D, am_rf X)) P))) ∧ (v11 = (I 68 (Int32.toNatClampNeg v1)) → (am_inb v1 128 = true ∧ (am_wp ext d mz_167 (319, [some (.ref 42), some (.int v1), none, none, some (.int v4), none, none, none, none, none, none, none], [], (I, am_uL L 63 (Int32.toNatClampNeg v1) v9, D, am_rf X)) P)))))) : am_wp ext d mz_167 (289, [some (.ref 42), some (.int v1), none, none, some (.int v4), none, none, none, none, some (.long v9), none, some (.int v11)], [], (I, L, D, am_rf X)) P := by
  refine am_wpb (c' := (296, [some (.ref 42), some (.int v1), none, none, some (.int v4), none, none, none, none, some (.long v9), none, some (.int v11)], [.int v1, .ref 68, .int v11], (I, L, D, am_rf X))) 4 rfl ?_
  obtain ⟨o, h⟩ := h
  refine am_wps (c' := (297, [some (.ref 42), some (.int v1), none, none, some (.int v4), none, none, none, none, some (.long v9), none, some (.int v11)], [.int (I 68 (Int32.toNatClampNeg v1)), .int v11], (I, L, D, am_rf X))) rfl rfl (am_s_zald rfl o) ?_
  refine am_b2_ne rfl (fun z => ?_) (fun z => ?_)
  · replace h := h.1 z
    refine am_wpb (c' := (318, [some (.ref 42), some (.int v1), none, none, some (.int v4), none, none, none, none, some (.long v9), none, some (.int v11)], [.long v9, .int v1, .ref 64], (I, L, D, am_rf X))) 4 rfl ?_
    obtain ⟨o, h⟩ := h
    refine am_wps (c' := (319, [some (.ref 42), some (.int v1), none, none, some (.int v4), none, none, none, none, some (.long v9), none, some (.int v11)], [], (I, am_uL L 64 (Int32.toNatClampNeg v1) v9, D, am_rf X))) rfl rfl (am_s_last rfl o) ?_
    exact am_fgt (l := [some (.ref 42), some (.int v1), none, none, some (.int v4), none, none, none, none, none, none, none]) (am_le_of (am_leS (am_leS (am_leN (am_leN (am_leS (am_leN (am_leN (am_leN (am_leN (am_leN (am_leN (am_leN (am_leZ)))))))))))))) h
  · replace h := h.2 z
    refine am_wpb (c' := (307, [some (.ref 42), some (.int v1), none, none, some (.int v4), none, none, none, none, some (.long v9), none, some (.int v11)], [.long v9, .int v1, .ref 63], (I, L, D, am_rf X))) 4 rfl ?_
    obtain ⟨o, h⟩ := h
    refine am_wps (c' := (308, [some (.ref 42), some (.int v1), none, none, some (.int v4), none, none, none, none, some (.long v9), none, some (.int v11)], [], (I, am_uL L 63 (Int32.toNatClampNeg v1) v9, D, am_rf X))) rfl rfl (am_s_last rfl o) ?_
    refine am_wpb (c' := (319, [some (.ref 42), some (.int v1), none, none, some (.int v4), none, none, none, none, some (.long v9), none, some (.int v11)], [], (I, am_uL L 63 (Int32.toNatClampNeg v1) v9, D, am_rf X))) 1 rfl ?_
    exact am_fgt (l := [some (.ref 42), some (.int v1), none, none, some (.int v4), none, none, none, none, none, none, none]) (am_le_of (am_leS (am_leS (am_leN (am_leN (am_leS (am_leN (am_leN (am_leN (am_leN (am_leN (am_leN (am_leN (am_leZ)))))))))))))) h
theorem w167_319 {ext : Nat → List Value → am_M → Option am_R} {d : Nat} {P : am_R → Prop} (I : Nat → Nat → Int32) (L : Nat → Nat → Int64) (D : Nat → Nat → UInt64) (X : am_Rf) (v1 : Int32) (v4 : Int32)
    (h : am_inb v1 128 = true ∧ (am_inb v1 128 = true ∧ (am_inb v1 128 = true ∧ (((1 < ((L 64 (Int32.toNatClampNeg v1)) - (L 63 (Int32.toNatClampNeg v1))) → (am_inb v1 128 = true ∧ (am_inb v1 128 = true ∧ (am_inb v1 128 = true ∧ (am_inb v1 128 = true ∧ (∃ (I1 : Nat → Nat → Int32) (L1 : Nat → Nat → Int64) (D1 : Nat → Nat → UInt64), am_Rn ext d 150 [.ref 42, .int v4, .long (((L 63 (Int32.toNatClampNeg v1)) + (L 64 (Int32.toNatClampNeg v1))) >>> ((Int32.toInt64 1) &&& 63)), .long (((L 63 (Int32.toNatClampNeg v1)) + (L 64 (Int32.toNatClampNeg v1))) >>> ((Int32.toInt64 1) &&& 63))] (am_uI I 60 (Int32.toNatClampNeg v1) 3, L, D, am_rf X) (none, (I1, L1, D1, am_rf X)) ∧ (P (none, (I1, L1, D1, am_rf X))))))))) ∧ (¬ 1 < ((L 64 (Int32.toNatClampNeg v1)) - (L 63 (Int32.toNatClampNeg v1))) → (am_inb v1 128 = true ∧ (am_inb v1 128 = true ∧ (∃ (I2 : Nat → Nat → Int32) (L2 : Nat → Nat → Int64) (D2 : Nat → Nat → UInt64), am_Rn ext d 151 [.ref 42, .int 1, .long (L 63 (Int32.toNatClampNeg v1)), .long (L 64 (Int32.toNatClampNeg v1))] (am_uI I 60 (Int32.toNatClampNeg v1) 3, L, D, am_rf X) (none, (I2, L2, D2, am_rf X)) ∧ (P (none, (I2, L2, D2, am_rf X)))))))))))) : am_wp ext d mz_167 (319, [some (.ref 42), some (.int v1), none, none, some (.int v4), none, none, none, none, none, none, none], [], (I, L, D, am_rf X)) P := by
  refine am_wpb (c' := (325, [some (.ref 42), some (.int v1), none, none, some (.int v4), none, none, none, none, none, none, none], [.int 3, .int v1, .ref 60], (I, L, D, am_rf X))) 4 rfl ?_
  obtain ⟨o, h⟩ := h
  refine am_wps (c' := (326, [some (.ref 42), some (.int v1), none, none, some (.int v4), none, none, none, none, none, none, none], [], (am_uI I 60 (Int32.toNatClampNeg v1) 3, L, D, am_rf X))) rfl rfl (am_s_iast rfl o) ?_
  refine am_wpb (c' := (331, [some (.ref 42), some (.int v1), none, none, some (.int v4), none, none, none, none, none, none, none], [.int v1, .ref 64], (am_uI I 60 (Int32.toNatClampNeg v1) 3, L, D, am_rf X))) 3 rfl ?_
  obtain ⟨o, h⟩ := h
  refine am_wps (c' := (332, [some (.ref 42), some (.int v1), none, none, some (.int v4), none, none, none, none, none, none, none], [.long (L 64 (Int32.toNatClampNeg v1))], (am_uI I 60 (Int32.toNatClampNeg v1) 3, L, D, am_rf X))) rfl rfl (am_s_lald rfl o) ?_
  refine am_wpb (c' := (337, [some (.ref 42), some (.int v1), none, none, some (.int v4), none, none, none, none, none, none, none], [.int v1, .ref 63, .long (L 64 (Int32.toNatClampNeg v1))], (am_uI I 60 (Int32.toNatClampNeg v1) 3, L, D, am_rf X))) 3 rfl ?_
  obtain ⟨o, h⟩ := h
  refine am_wps (c' := (338, [some (.ref 42), some (.int v1), none, none, some (.int v4), none, none, none, none, none, none, none], [.long (L 63 (Int32.toNatClampNeg v1)), .long (L 64 (Int32.toNatClampNeg v1))], (am_uI I 60 (Int32.toNatClampNeg v1) 3, L, D, am_rf X))) rfl rfl (am_s_lald rfl o) ?_
  refine am_wpb (c' := (340, [some (.ref 42), some (.int v1), none, none, some (.int v4), none, none, none, none, none, none, none], [.long 1, .long ((L 64 (Int32.toNatClampNeg v1)) - (L 63 (Int32.toNatClampNeg v1)))], (am_uI I 60 (Int32.toNatClampNeg v1) 3, L, D, am_rf X))) 2 rfl ?_
  refine am_lc_gt rfl rfl (fun z => ?_) (fun z => ?_)
  · replace h := h.1 z
    refine am_wpb (c' := (372, [some (.ref 42), some (.int v1), none, none, some (.int v4), none, none, none, none, none, none, none], [.int v1, .ref 63, .int v4, .ref 42], (am_uI I 60 (Int32.toNatClampNeg v1) 3, L, D, am_rf X))) 5 rfl ?_
    obtain ⟨o, h⟩ := h
    refine am_wps (c' := (373, [some (.ref 42), some (.int v1), none, none, some (.int v4), none, none, none, none, none, none, none], [.long (L 63 (Int32.toNatClampNeg v1)), .int v4, .ref 42], (am_uI I 60 (Int32.toNatClampNeg v1) 3, L, D, am_rf X))) rfl rfl (am_s_lald rfl o) ?_
    refine am_wpb (c' := (378, [some (.ref 42), some (.int v1), none, none, some (.int v4), none, none, none, none, none, none, none], [.int v1, .ref 64, .long (L 63 (Int32.toNatClampNeg v1)), .int v4, .ref 42], (am_uI I 60 (Int32.toNatClampNeg v1) 3, L, D, am_rf X))) 3 rfl ?_
    obtain ⟨o, h⟩ := h
    refine am_wps (c' := (379, [some (.ref 42), some (.int v1), none, none, some (.int v4), none, none, none, none, none, none, none], [.long (L 64 (Int32.toNatClampNeg v1)), .long (L 63 (Int32.toNatClampNeg v1)), .int v4, .ref 42], (am_uI I 60 (Int32.toNatClampNeg v1) 3, L, D, am_rf X))) rfl rfl (am_s_lald rfl o) ?_
    refine am_wpb (c' := (387, [some (.ref 42), some (.int v1), none, none, some (.int v4), none, none, none, none, none, none, none], [.int v1, .ref 63, .long (((L 63 (Int32.toNatClampNeg v1)) + (L 64 (Int32.toNatClampNeg v1))) >>> ((Int32.toInt64 1) &&& 63)), .int v4, .ref 42], (am_uI I 60 (Int32.toNatClampNeg v1) 3, L, D, am_rf X))) 6 rfl ?_
    obtain ⟨o, h⟩ := h
    refine am_wps (c' := (388, [some (.ref 42), some (.int v1), none, none, some (.int v4), none, none, none, none, none, none, none], [.long (L 63 (Int32.toNatClampNeg v1)), .long (((L 63 (Int32.toNatClampNeg v1)) + (L 64 (Int32.toNatClampNeg v1))) >>> ((Int32.toInt64 1) &&& 63)), .int v4, .ref 42], (am_uI I 60 (Int32.toNatClampNeg v1) 3, L, D, am_rf X))) rfl rfl (am_s_lald rfl o) ?_
    refine am_wpb (c' := (393, [some (.ref 42), some (.int v1), none, none, some (.int v4), none, none, none, none, none, none, none], [.int v1, .ref 64, .long (L 63 (Int32.toNatClampNeg v1)), .long (((L 63 (Int32.toNatClampNeg v1)) + (L 64 (Int32.toNatClampNeg v1))) >>> ((Int32.toInt64 1) &&& 63)), .int v4, .ref 42], (am_uI I 60 (Int32.toNatClampNeg v1) 3, L, D, am_rf X))) 3 rfl ?_
    obtain ⟨o, h⟩ := h
    refine am_wps (c' := (394, [some (.ref 42), some (.int v1), none, none, some (.int v4), none, none, none, none, none, none, none], [.long (L 64 (Int32.toNatClampNeg v1)), .long (L 63 (Int32.toNatClampNeg v1)), .long (((L 63 (Int32.toNatClampNeg v1)) + (L 64 (Int32.toNatClampNeg v1))) >>> ((Int32.toInt64 1) &&& 63)), .int v4, .ref 42], (am_uI I 60 (Int32.toNatClampNeg v1) 3, L, D, am_rf X))) rfl rfl (am_s_lald rfl o) ?_
    refine am_wpb (c' := (397, [some (.ref 42), some (.int v1), none, none, some (.int v4), none, none, none, none, none, none, none], [.long (((L 63 (Int32.toNatClampNeg v1)) + (L 64 (Int32.toNatClampNeg v1))) >>> ((Int32.toInt64 1) &&& 63)), .long (((L 63 (Int32.toNatClampNeg v1)) + (L 64 (Int32.toNatClampNeg v1))) >>> ((Int32.toInt64 1) &&& 63)), .int v4, .ref 42], (am_uI I 60 (Int32.toNatClampNeg v1) 3, L, D, am_rf X))) 3 rfl ?_
    obtain ⟨I1, L1, D1, hr, h⟩ := h
    refine am_wp_inv (as := [.ref 42, .int v4, .long (((L 63 (Int32.toNatClampNeg v1)) + (L 64 (Int32.toNatClampNeg v1))) >>> ((Int32.toInt64 1) &&& 63)), .long (((L 63 (Int32.toNatClampNeg v1)) + (L 64 (Int32.toNatClampNeg v1))) >>> ((Int32.toInt64 1) &&& 63))]) rfl rfl rfl rfl ⟨_, hr, ?_⟩
    show am_wp ext d mz_167 (400, [some (.ref 42), some (.int v1), none, none, some (.int v4), none, none, none, none, none, none, none], [], (I1, L1, D1, am_rf X)) P
    exact am_ret_v rfl rfl h
  · replace h := h.2 z
    refine am_wpb (c' := (351, [some (.ref 42), some (.int v1), none, none, some (.int v4), none, none, none, none, none, none, none], [.int v1, .ref 63, .int 1, .ref 42], (am_uI I 60 (Int32.toNatClampNeg v1) 3, L, D, am_rf X))) 5 rfl ?_
    obtain ⟨o, h⟩ := h
    refine am_wps (c' := (352, [some (.ref 42), some (.int v1), none, none, some (.int v4), none, none, none, none, none, none, none], [.long (L 63 (Int32.toNatClampNeg v1)), .int 1, .ref 42], (am_uI I 60 (Int32.toNatClampNeg v1) 3, L, D, am_rf X))) rfl rfl (am_s_lald rfl o) ?_
    refine am_wpb (c' := (357, [some (.ref 42), some (.int v1), none, none, some (.int v4), none, none, none, none, none, none, none], [.int v1, .ref 64, .long (L 63 (Int32.toNatClampNeg v1)), .int 1, .ref 42], (am_uI I 60 (Int32.toNatClampNeg v1) 3, L, D, am_rf X))) 3 rfl ?_
    obtain ⟨o, h⟩ := h
    refine am_wps (c' := (358, [some (.ref 42), some (.int v1), none, none, some (.int v4), none, none, none, none, none, none, none], [.long (L 64 (Int32.toNatClampNeg v1)), .long (L 63 (Int32.toNatClampNeg v1)), .int 1, .ref 42], (am_uI I 60 (Int32.toNatClampNeg v1) 3, L, D, am_rf X))) rfl rfl (am_s_lald rfl o) ?_
    obtain ⟨I2, L2, D2, hr, h⟩ := h
    refine am_wp_inv (as := [.ref 42, .int 1, .long (L 63 (Int32.toNatClampNeg v1)), .long (L 64 (Int32.toNatClampNeg v1))]) rfl rfl rfl rfl ⟨_, hr, ?_⟩
    show am_wp ext d mz_167 (361, [some (.ref 42), some (.int v1), none, none, some (.int v4), none, none, none, none, none, none, none], [], (I2, L2, D2, am_rf X)) P
    refine am_wpb (c' := (400, [some (.ref 42), some (.int v1), none, none, some (.int v4), none, none, none, none, none, none, none], [], (I2, L2, D2, am_rf X))) 1 rfl ?_
    exact am_ret_v rfl rfl h
