/-- SureSumsModel.makeExact()V -/
def mz_180 : am_Y := (fun pc => am_q180.lookup pc, 6, 0)
theorem mh_180 : am_Ys 180 = some mz_180 := rfl
theorem w180_0 {ext : Nat → List Value → am_M → Option am_R} {d : Nat} {P : am_R → Prop} (I : Nat → Nat → Int32) (L : Nat → Nat → Int64) (D : Nat → Nat → UInt64) (X : am_Rf)
    (h : (((I 42 59) = 0 → (am_wp ext d mz_180 (15, [some (.ref 42), some (.int 0), none, none, none, none], [], (am_uI I 42 59 1, L, D, am_rf X)) P)) ∧ (¬ (I 42 59) = 0 → (P (none, (I, L, D, am_rf X)))))) : am_wp ext d mz_180 (0, [some (.ref 42), none, none, none, none, none], [], (I, L, D, am_rf X)) P := by
  refine am_wpb (c' := (4, [some (.ref 42), none, none, none, none, none], [.int (I 42 59)], (I, L, D, am_rf X))) 2 rfl ?_
  refine am_b1_eq rfl (fun z => ?_) (fun z => ?_)
  · replace h := h.1 z
    refine am_wpb (c' := (15, [some (.ref 42), some (.int 0), none, none, none, none], [], (am_uI I 42 59 1, L, D, am_rf X))) 5 rfl ?_
    exact h
  · replace h := h.2 z
    exact am_ret_v rfl rfl h
theorem w180_15 {ext : Nat → List Value → am_M → Option am_R} {d : Nat} {P : am_R → Prop} (I : Nat → Nat → Int32) (L : Nat → Nat → Int64) (D : Nat → Nat → UInt64) (X : am_Rf) (v1 : Int32)
    (h : (((I 42 24) ≤ v1 → (P (none, (I, L, D, am_rf X)))) ∧ (¬ (I 42 24) ≤ v1 → (am_inb v1 12 = true ∧ (am_inb (I 53 (Int32.toNatClampNeg v1)) 52 = true ∧ (∃ (r1 : Int32) (I1 : Nat → Nat → Int32) (L1 : Nat → Nat → Int64) (D1 : Nat → Nat → UInt64), am_Rn ext d 178 [.ref 42, .int (I 52 (Int32.toNatClampNeg (I 53 (Int32.toNatClampNeg v1))))] (I, L, D, am_rf X) (some (.int r1), (I1, L1, D1, am_rf X)) ∧ (am_wp ext d mz_180 (49, [some (.ref 42), some (.int v1), some (.int (I 53 (Int32.toNatClampNeg v1))), none, some (.int 1), some (.int (r1 - 1))], [], (I1, L1, D1, am_rf X)) P))))))) : am_wp ext d mz_180 (15, [some (.ref 42), some (.int v1), none, none, none, none], [], (I, L, D, am_rf X)) P := by
  refine am_wpb (c' := (20, [some (.ref 42), some (.int v1), none, none, none, none], [.int (I 42 24), .int v1], (I, L, D, am_rf X))) 3 rfl ?_
  refine am_b2_ge rfl (fun z => ?_) (fun z => ?_)
  · replace h := h.1 z
    exact am_ret_v rfl rfl h
  · replace h := h.2 z
    refine am_wpb (c' := (28, [some (.ref 42), some (.int v1), none, none, none, none], [.int v1, .ref 53], (I, L, D, am_rf X))) 3 rfl ?_
    obtain ⟨o, h⟩ := h
    refine am_wps (c' := (29, [some (.ref 42), some (.int v1), none, none, none, none], [.int (I 53 (Int32.toNatClampNeg v1))], (I, L, D, am_rf X))) rfl rfl (am_s_iald rfl o) ?_
    refine am_wpb (c' := (36, [some (.ref 42), some (.int v1), some (.int (I 53 (Int32.toNatClampNeg v1))), none, none, none], [.int (I 53 (Int32.toNatClampNeg v1)), .ref 52, .ref 42], (I, L, D, am_rf X))) 5 rfl ?_
    obtain ⟨o, h⟩ := h
    refine am_wps (c' := (37, [some (.ref 42), some (.int v1), some (.int (I 53 (Int32.toNatClampNeg v1))), none, none, none], [.int (I 52 (Int32.toNatClampNeg (I 53 (Int32.toNatClampNeg v1)))), .ref 42], (I, L, D, am_rf X))) rfl rfl (am_s_iald rfl o) ?_
    obtain ⟨r1, I1, L1, D1, hr, h⟩ := h
    refine am_wp_inv (as := [.ref 42, .int (I 52 (Int32.toNatClampNeg (I 53 (Int32.toNatClampNeg v1))))]) rfl rfl rfl rfl ⟨_, hr, ?_⟩
    show am_wp ext d mz_180 (40, [some (.ref 42), some (.int v1), some (.int (I 53 (Int32.toNatClampNeg v1))), none, none, none], [.int r1], (I1, L1, D1, am_rf X)) P
    refine am_wpb (c' := (49, [some (.ref 42), some (.int v1), some (.int (I 53 (Int32.toNatClampNeg v1))), some (.int r1), some (.int 1), some (.int (r1 - 1))], [], (I1, L1, D1, am_rf X))) 7 rfl ?_
    exact am_fgt (l := [some (.ref 42), some (.int v1), some (.int (I 53 (Int32.toNatClampNeg v1))), none, some (.int 1), some (.int (r1 - 1))]) (am_le_of (am_leS (am_leS (am_leS (am_leN (am_leS (am_leS (am_leZ)))))))) h
theorem w180_49 {ext : Nat → List Value → am_M → Option am_R} {d : Nat} {P : am_R → Prop} (I : Nat → Nat → Int32) (L : Nat → Nat → Int64) (D : Nat → Nat → UInt64) (X : am_Rf) (v1 : Int32) (v2 : Int32) (v4 : Int32) (v5 : Int32)
    (h : ((v5 < 0 → (am_wp ext d mz_180 (78, [some (.ref 42), some (.int v1), some (.int v2), none, some (.int v4), none], [], (I, L, D, am_rf X)) P)) ∧ (¬ v5 < 0 → (((v4 = 0 → (am_wp ext d mz_180 (78, [some (.ref 42), some (.int v1), some (.int v2), none, some (.int v4), none], [], (I, L, D, am_rf X)) P)) ∧ (¬ v4 = 0 → (am_inb v5 96 = true ∧ (∃ (r1 : Int32) (I1 : Nat → Nat → Int32) (L1 : Nat → Nat → Int64) (D1 : Nat → Nat → UInt64), am_Rn ext d 179 [.ref 42, .int (I 74 (Int32.toNatClampNeg v5))] (I, L, D, am_rf X) (some (.int r1), (I1, L1, D1, am_rf X)) ∧ (am_wp ext d mz_180 (49, [some (.ref 42), some (.int v1), some (.int v2), none, some (.int r1), some (.int (v5 + (-1)))], [], (I1, L1, D1, am_rf X)) P))))))))) : am_wp ext d mz_180 (49, [some (.ref 42), some (.int v1), some (.int v2), none, some (.int v4), some (.int v5)], [], (I, L, D, am_rf X)) P := by
  refine am_wpb (c' := (51, [some (.ref 42), some (.int v1), some (.int v2), none, some (.int v4), some (.int v5)], [.int v5], (I, L, D, am_rf X))) 1 rfl ?_
  refine am_b1_lt rfl (fun z => ?_) (fun z => ?_)
  · replace h := h.1 z
    exact am_fgt (l := [some (.ref 42), some (.int v1), some (.int v2), none, some (.int v4), none]) (am_le_of (am_leS (am_leS (am_leS (am_leN (am_leS (am_leN (am_leZ)))))))) h
  · replace h := h.2 z
    refine am_wpb (c' := (56, [some (.ref 42), some (.int v1), some (.int v2), none, some (.int v4), some (.int v5)], [.int v4], (I, L, D, am_rf X))) 1 rfl ?_
    refine am_b1_eq rfl (fun z => ?_) (fun z => ?_)
    · replace h := h.1 z
      exact am_fgt (l := [some (.ref 42), some (.int v1), some (.int v2), none, some (.int v4), none]) (am_le_of (am_leS (am_leS (am_leS (am_leN (am_leS (am_leN (am_leZ)))))))) h
    · replace h := h.2 z
      refine am_wpb (c' := (66, [some (.ref 42), some (.int v1), some (.int v2), none, some (.int v4), some (.int v5)], [.int v5, .ref 74, .ref 42], (I, L, D, am_rf X))) 4 rfl ?_
      obtain ⟨o, h⟩ := h
      refine am_wps (c' := (67, [some (.ref 42), some (.int v1), some (.int v2), none, some (.int v4), some (.int v5)], [.int (I 74 (Int32.toNatClampNeg v5)), .ref 42], (I, L, D, am_rf X))) rfl rfl (am_s_iald rfl o) ?_
      obtain ⟨r1, I1, L1, D1, hr, h⟩ := h
      refine am_wp_inv (as := [.ref 42, .int (I 74 (Int32.toNatClampNeg v5))]) rfl rfl rfl rfl ⟨_, hr, ?_⟩
      show am_wp ext d mz_180 (70, [some (.ref 42), some (.int v1), some (.int v2), none, some (.int v4), some (.int v5)], [.int r1], (I1, L1, D1, am_rf X)) P
      refine am_wpb (c' := (49, [some (.ref 42), some (.int v1), some (.int v2), none, some (.int r1), some (.int (v5 + (-1)))], [], (I1, L1, D1, am_rf X))) 3 rfl ?_
      exact h
theorem w180_78 {ext : Nat → List Value → am_M → Option am_R} {d : Nat} {P : am_R → Prop} (I : Nat → Nat → Int32) (L : Nat → Nat → Int64) (D : Nat → Nat → UInt64) (X : am_Rf) (v1 : Int32) (v2 : Int32) (v4 : Int32)
    (h : am_inb v2 26 = true ∧ ((v4 = 0 ∨ v4 = 1) ∧ (((v4 = 0 → (am_wp ext d mz_180 (111, [some (.ref 42), some (.int v1), some (.int v2), none, some (.int v4), none], [.long 0, .int v2, .ref 69], (am_uI I 71 (Int32.toNatClampNeg v2) v4, L, D, am_rf X)) P)) ∧ (¬ v4 = 0 → (am_inb v2 52 = true ∧ (am_inb (I 52 (Int32.toNatClampNeg v2)) 96 = true ∧ (am_wp ext d mz_180 (111, [some (.ref 42), some (.int v1), some (.int v2), none, some (.int v4), none], [.long (L 72 (Int32.toNatClampNeg (I 52 (Int32.toNatClampNeg v2)))), .int v2, .ref 69], (am_uI I 71 (Int32.toNatClampNeg v2) v4, L, D, am_rf X)) P)))))))) : am_wp ext d mz_180 (78, [some (.ref 42), some (.int v1), some (.int v2), none, some (.int v4), none], [], (I, L, D, am_rf X)) P := by
  refine am_wpb (c' := (85, [some (.ref 42), some (.int v1), some (.int v2), none, some (.int v4), none], [.int v4, .int v2, .ref 71], (I, L, D, am_rf X))) 4 rfl ?_
  obtain ⟨o, h⟩ := h
  obtain ⟨o2, h⟩ := h
  refine am_wps (c' := (86, [some (.ref 42), some (.int v1), some (.int v2), none, some (.int v4), none], [], (am_uI I 71 (Int32.toNatClampNeg v2) v4, L, D, am_rf X))) rfl rfl (am_s_zast rfl o o2) ?_
  refine am_wpb (c' := (93, [some (.ref 42), some (.int v1), some (.int v2), none, some (.int v4), none], [.int v4, .int v2, .ref 69], (am_uI I 71 (Int32.toNatClampNeg v2) v4, L, D, am_rf X))) 4 rfl ?_
  refine am_b1_eq rfl (fun z => ?_) (fun z => ?_)
  · replace h := h.1 z
    refine am_wpb (c' := (111, [some (.ref 42), some (.int v1), some (.int v2), none, some (.int v4), none], [.long 0, .int v2, .ref 69], (am_uI I 71 (Int32.toNatClampNeg v2) v4, L, D, am_rf X))) 1 rfl ?_
    exact h
  · replace h := h.2 z
    refine am_wpb (c' := (105, [some (.ref 42), some (.int v1), some (.int v2), none, some (.int v4), none], [.int v2, .ref 52, .ref 72, .int v2, .ref 69], (am_uI I 71 (Int32.toNatClampNeg v2) v4, L, D, am_rf X))) 5 rfl ?_
    obtain ⟨o, h⟩ := h
    refine am_wps (c' := (106, [some (.ref 42), some (.int v1), some (.int v2), none, some (.int v4), none], [.int (I 52 (Int32.toNatClampNeg v2)), .ref 72, .int v2, .ref 69], (am_uI I 71 (Int32.toNatClampNeg v2) v4, L, D, am_rf X))) rfl rfl (am_s_iald rfl o) ?_
    obtain ⟨o, h⟩ := h
    refine am_wps (c' := (107, [some (.ref 42), some (.int v1), some (.int v2), none, some (.int v4), none], [.long (L 72 (Int32.toNatClampNeg (I 52 (Int32.toNatClampNeg v2)))), .int v2, .ref 69], (am_uI I 71 (Int32.toNatClampNeg v2) v4, L, D, am_rf X))) rfl rfl (am_s_lald rfl o) ?_
    refine am_wpb (c' := (111, [some (.ref 42), some (.int v1), some (.int v2), none, some (.int v4), none], [.long (L 72 (Int32.toNatClampNeg (I 52 (Int32.toNatClampNeg v2)))), .int v2, .ref 69], (am_uI I 71 (Int32.toNatClampNeg v2) v4, L, D, am_rf X))) 1 rfl ?_
    exact h
theorem w180_111 {ext : Nat → List Value → am_M → Option am_R} {d : Nat} {P : am_R → Prop} (I : Nat → Nat → Int32) (L : Nat → Nat → Int64) (D : Nat → Nat → UInt64) (X : am_Rf) (v1 : Int32) (v2 : Int32) (v4 : Int32) (s0 : Int64) (s1 : Int32)
    (h : am_inb s1 26 = true ∧ (((v4 = 0 → (am_inb v2 26 = true ∧ (am_wp ext d mz_180 (15, [some (.ref 42), some (.int (v1 + 1)), none, none, none, none], [], (I, am_uL (am_uL L 69 (Int32.toNatClampNeg s1) s0) 70 (Int32.toNatClampNeg v2) 1, D, am_rf X)) P))) ∧ (¬ v4 = 0 → (am_inb v2 52 = true ∧ (am_inb (I 52 (Int32.toNatClampNeg v2)) 96 = true ∧ (am_inb v2 26 = true ∧ (am_wp ext d mz_180 (15, [some (.ref 42), some (.int (v1 + 1)), none, none, none, none], [], (I, am_uL (am_uL L 69 (Int32.toNatClampNeg s1) s0) 70 (Int32.toNatClampNeg v2) (L 73 (Int32.toNatClampNeg (I 52 (Int32.toNatClampNeg v2)))), D, am_rf X)) P)))))))) : am_wp ext d mz_180 (111, [some (.ref 42), some (.int v1), some (.int v2), none, some (.int v4), none], [.long s0, .int s1, .ref 69], (I, L, D, am_rf X)) P := by
  obtain ⟨o, h⟩ := h
  refine am_wps (c' := (112, [some (.ref 42), some (.int v1), some (.int v2), none, some (.int v4), none], [], (I, am_uL L 69 (Int32.toNatClampNeg s1) s0, D, am_rf X))) rfl rfl (am_s_last rfl o) ?_
  refine am_wpb (c' := (119, [some (.ref 42), some (.int v1), some (.int v2), none, some (.int v4), none], [.int v4, .int v2, .ref 70], (I, am_uL L 69 (Int32.toNatClampNeg s1) s0, D, am_rf X))) 4 rfl ?_
  refine am_b1_eq rfl (fun z => ?_) (fun z => ?_)
  · replace h := h.1 z
    refine am_wpb (c' := (137, [some (.ref 42), some (.int v1), some (.int v2), none, some (.int v4), none], [.long 1, .int v2, .ref 70], (I, am_uL L 69 (Int32.toNatClampNeg s1) s0, D, am_rf X))) 1 rfl ?_
    obtain ⟨o, h⟩ := h
    refine am_wps (c' := (138, [some (.ref 42), some (.int v1), some (.int v2), none, some (.int v4), none], [], (I, am_uL (am_uL L 69 (Int32.toNatClampNeg s1) s0) 70 (Int32.toNatClampNeg v2) 1, D, am_rf X))) rfl rfl (am_s_last rfl o) ?_
    refine am_wpb (c' := (15, [some (.ref 42), some (.int (v1 + 1)), some (.int v2), none, some (.int v4), none], [], (I, am_uL (am_uL L 69 (Int32.toNatClampNeg s1) s0) 70 (Int32.toNatClampNeg v2) 1, D, am_rf X))) 2 rfl ?_
    exact am_fgt (l := [some (.ref 42), some (.int (v1 + 1)), none, none, none, none]) (am_le_of (am_leS (am_leS (am_leN (am_leN (am_leN (am_leN (am_leZ)))))))) h
  · replace h := h.2 z
    refine am_wpb (c' := (131, [some (.ref 42), some (.int v1), some (.int v2), none, some (.int v4), none], [.int v2, .ref 52, .ref 73, .int v2, .ref 70], (I, am_uL L 69 (Int32.toNatClampNeg s1) s0, D, am_rf X))) 5 rfl ?_
    obtain ⟨o, h⟩ := h
    refine am_wps (c' := (132, [some (.ref 42), some (.int v1), some (.int v2), none, some (.int v4), none], [.int (I 52 (Int32.toNatClampNeg v2)), .ref 73, .int v2, .ref 70], (I, am_uL L 69 (Int32.toNatClampNeg s1) s0, D, am_rf X))) rfl rfl (am_s_iald rfl o) ?_
    obtain ⟨o, h⟩ := h
    refine am_wps (c' := (133, [some (.ref 42), some (.int v1), some (.int v2), none, some (.int v4), none], [.long (L 73 (Int32.toNatClampNeg (I 52 (Int32.toNatClampNeg v2)))), .int v2, .ref 70], (I, am_uL L 69 (Int32.toNatClampNeg s1) s0, D, am_rf X))) rfl rfl (am_s_lald rfl o) ?_
    refine am_wpb (c' := (137, [some (.ref 42), some (.int v1), some (.int v2), none, some (.int v4), none], [.long (L 73 (Int32.toNatClampNeg (I 52 (Int32.toNatClampNeg v2)))), .int v2, .ref 70], (I, am_uL L 69 (Int32.toNatClampNeg s1) s0, D, am_rf X))) 1 rfl ?_
    obtain ⟨o, h⟩ := h
    refine am_wps (c' := (138, [some (.ref 42), some (.int v1), some (.int v2), none, some (.int v4), none], [], (I, am_uL (am_uL L 69 (Int32.toNatClampNeg s1) s0) 70 (Int32.toNatClampNeg v2) (L 73 (Int32.toNatClampNeg (I 52 (Int32.toNatClampNeg v2)))), D, am_rf X))) rfl rfl (am_s_last rfl o) ?_
    refine am_wpb (c' := (15, [some (.ref 42), some (.int (v1 + 1)), some (.int v2), none, some (.int v4), none], [], (I, am_uL (am_uL L 69 (Int32.toNatClampNeg s1) s0) 70 (Int32.toNatClampNeg v2) (L 73 (Int32.toNatClampNeg (I 52 (Int32.toNatClampNeg v2)))), D, am_rf X))) 2 rfl ?_
    exact am_fgt (l := [some (.ref 42), some (.int (v1 + 1)), none, none, none, none]) (am_le_of (am_leS (am_leS (am_leN (am_leN (am_leN (am_leN (am_leZ)))))))) h
/-- SureSumsModel.exact(II)J -/
def mz_181 : am_Y := (fun pc => am_q181.lookup pc, 3, 3)
theorem mh_181 : am_Ys 181 = some mz_181 := rfl
theorem w181_0 {ext : Nat → List Value → am_M → Option am_R} {d : Nat} {P : am_R → Prop} (I : Nat → Nat → Int32) (L : Nat → Nat → Int64) (D : Nat → Nat → UInt64) (X : am_Rf) (v1 : Int32) (v2 : Int32)
    (h : ∃ (r1 : Int32) (I1 : Nat → Nat → Int32) (L1 : Nat → Nat → Int64) (D1 : Nat → Nat → UInt64), am_Rn ext d 148 [.ref 42, .int v1] (am_uI I 42 2 0, L, D, am_rf X) (some (.int r1), (I1, L1, D1, am_rf X)) ∧ (((r1 = 0 → (P (some (.long (-9223372036854775808)), (I1, L1, D1, am_rf X)))) ∧ (¬ r1 = 0 → (∃ (r2 : Int32) (I2 : Nat → Nat → Int32) (L2 : Nat → Nat → Int64) (D2 : Nat → Nat → UInt64), am_Rn ext d 117 [.int v2, .int 0, .int 1] (I1, L1, D1, am_rf X) (some (.int r2), (I2, L2, D2, am_rf X)) ∧ (((¬ r2 = 0 → (∃ (I3 : Nat → Nat → Int32) (L3 : Nat → Nat → Int64) (D3 : Nat → Nat → UInt64), am_Rn ext d 180 [.ref 42] (I2, L2, D2, am_rf X) (none, (I3, L3, D3, am_rf X)) ∧ (am_inb v1 26 = true ∧ (((¬ (I3 71 (Int32.toNatClampNeg v1)) = 0 → (((¬ v2 = 0 → (am_inb v1 26 = true ∧ (P (some (.long (L3 70 (Int32.toNatClampNeg v1))), (I3, L3, D3, am_rf X))))) ∧ (v2 = 0 → (am_inb v1 26 = true ∧ (P (some (.long (L3 69 (Int32.toNatClampNeg v1))), (I3, L3, D3, am_rf X)))))))) ∧ ((I3 71 (Int32.toNatClampNeg v1)) = 0 → (P (some (.long (-9223372036854775808)), (I3, L3, D3, am_rf X))))))))) ∧ (r2 = 0 → (P (some (.long (-9223372036854775808)), (I2, L2, D2, am_rf X))))))))))) : am_wp ext d mz_181 (0, [some (.ref 42), some (.int v1), some (.int v2)], [], (I, L, D, am_rf X)) P := by
  refine am_wpb (c' := (7, [some (.ref 42), some (.int v1), some (.int v2)], [.int v1, .ref 42], (am_uI I 42 2 0, L, D, am_rf X))) 5 rfl ?_
  obtain ⟨r1, I1, L1, D1, hr, h⟩ := h
  refine am_wp_inv (as := [.ref 42, .int v1]) rfl rfl rfl rfl ⟨_, hr, ?_⟩
  show am_wp ext d mz_181 (10, [some (.ref 42), some (.int v1), some (.int v2)], [.int r1], (I1, L1, D1, am_rf X)) P
  refine am_b1_eq rfl (fun z => ?_) (fun z => ?_)
  · replace h := h.1 z
    refine am_wpb (c' := (25, [some (.ref 42), some (.int v1), some (.int v2)], [.long (-9223372036854775808)], (I1, L1, D1, am_rf X))) 1 rfl ?_
    exact am_ret_l rfl rfl h
  · replace h := h.2 z
    refine am_wpb (c' := (16, [some (.ref 42), some (.int v1), some (.int v2)], [.int 1, .int 0, .int v2], (I1, L1, D1, am_rf X))) 3 rfl ?_
    obtain ⟨r2, I2, L2, D2, hr, h⟩ := h
    refine am_wp_inv (as := [.int v2, .int 0, .int 1]) rfl rfl rfl rfl ⟨_, hr, ?_⟩
    show am_wp ext d mz_181 (19, [some (.ref 42), some (.int v1), some (.int v2)], [.int r2], (I2, L2, D2, am_rf X)) P
    refine am_b1_ne rfl (fun z => ?_) (fun z => ?_)
    · replace h := h.1 z
      refine am_wpb (c' := (27, [some (.ref 42), some (.int v1), some (.int v2)], [.ref 42], (I2, L2, D2, am_rf X))) 1 rfl ?_
      obtain ⟨I3, L3, D3, hr, h⟩ := h
      refine am_wp_inv (as := [.ref 42]) rfl rfl rfl rfl ⟨_, hr, ?_⟩
      show am_wp ext d mz_181 (30, [some (.ref 42), some (.int v1), some (.int v2)], [], (I3, L3, D3, am_rf X)) P
      refine am_wpb (c' := (35, [some (.ref 42), some (.int v1), some (.int v2)], [.int v1, .ref 71], (I3, L3, D3, am_rf X))) 3 rfl ?_
      obtain ⟨o, h⟩ := h
      refine am_wps (c' := (36, [some (.ref 42), some (.int v1), some (.int v2)], [.int (I3 71 (Int32.toNatClampNeg v1))], (I3, L3, D3, am_rf X))) rfl rfl (am_s_zald rfl o) ?_
      refine am_b1_ne rfl (fun z => ?_) (fun z => ?_)
      · replace h := h.1 z
        refine am_wpb (c' := (46, [some (.ref 42), some (.int v1), some (.int v2)], [.int v2], (I3, L3, D3, am_rf X))) 1 rfl ?_
        refine am_b1_ne rfl (fun z => ?_) (fun z => ?_)
        · replace h := h.1 z
          refine am_wpb (c' := (63, [some (.ref 42), some (.int v1), some (.int v2)], [.int v1, .ref 70], (I3, L3, D3, am_rf X))) 3 rfl ?_
          obtain ⟨o, h⟩ := h
          refine am_wps (c' := (64, [some (.ref 42), some (.int v1), some (.int v2)], [.long (L3 70 (Int32.toNatClampNeg v1))], (I3, L3, D3, am_rf X))) rfl rfl (am_s_lald rfl o) ?_
          exact am_ret_l rfl rfl h
        · replace h := h.2 z
          refine am_wpb (c' := (54, [some (.ref 42), some (.int v1), some (.int v2)], [.int v1, .ref 69], (I3, L3, D3, am_rf X))) 3 rfl ?_
          obtain ⟨o, h⟩ := h
          refine am_wps (c' := (55, [some (.ref 42), some (.int v1), some (.int v2)], [.long (L3 69 (Int32.toNatClampNeg v1))], (I3, L3, D3, am_rf X))) rfl rfl (am_s_lald rfl o) ?_
          refine am_wpb (c' := (64, [some (.ref 42), some (.int v1), some (.int v2)], [.long (L3 69 (Int32.toNatClampNeg v1))], (I3, L3, D3, am_rf X))) 1 rfl ?_
          exact am_ret_l rfl rfl h
      · replace h := h.2 z
        refine am_wpb (c' := (64, [some (.ref 42), some (.int v1), some (.int v2)], [.long (-9223372036854775808)], (I3, L3, D3, am_rf X))) 2 rfl ?_
        exact am_ret_l rfl rfl h
    · replace h := h.2 z
      refine am_wpb (c' := (25, [some (.ref 42), some (.int v1), some (.int v2)], [.long (-9223372036854775808)], (I2, L2, D2, am_rf X))) 1 rfl ?_
      exact am_ret_l rfl rfl h
/-- SureSumsModel.compare(II)I -/
def mz_182 : am_Y := (fun pc => am_q182.lookup pc, 10, 1)
theorem mh_182 : am_Ys 182 = some mz_182 := rfl
theorem w182_0 {ext : Nat → List Value → am_M → Option am_R} {d : Nat} {P : am_R → Prop} (I : Nat → Nat → Int32) (L : Nat → Nat → Int64) (D : Nat → Nat → UInt64) (X : am_Rf) (v1 : Int32) (v2 : Int32)
    (h : ∃ (r1 : Int32) (I1 : Nat → Nat → Int32) (L1 : Nat → Nat → Int64) (D1 : Nat → Nat → UInt64), am_Rn ext d 148 [.ref 42, .int v1] (am_uI I 42 2 0, L, D, am_rf X) (some (.int r1), (I1, L1, D1, am_rf X)) ∧ (((r1 = 0 → (P (some (.int (-2147483648)), (I1, L1, D1, am_rf X)))) ∧ (¬ r1 = 0 → (∃ (r2 : Int32) (I2 : Nat → Nat → Int32) (L2 : Nat → Nat → Int64) (D2 : Nat → Nat → UInt64), am_Rn ext d 148 [.ref 42, .int v2] (I1, L1, D1, am_rf X) (some (.int r2), (I2, L2, D2, am_rf X)) ∧ (((¬ r2 = 0 → (am_wp ext d mz_182 (30, [some (.ref 42), some (.int v1), some (.int v2), some (.int 0), some (.int 4), none, none, none, none, none], [], (I2, L2, D2, am_rf X)) P)) ∧ (r2 = 0 → (P (some (.int (-2147483648)), (I2, L2, D2, am_rf X))))))))))) : am_wp ext d mz_182 (0, [some (.ref 42), some (.int v1), some (.int v2), none, none, none, none, none, none, none], [], (I, L, D, am_rf X)) P := by
  refine am_wpb (c' := (7, [some (.ref 42), some (.int v1), some (.int v2), none, none, none, none, none, none, none], [.int v1, .ref 42], (am_uI I 42 2 0, L, D, am_rf X))) 5 rfl ?_
  obtain ⟨r1, I1, L1, D1, hr, h⟩ := h
  refine am_wp_inv (as := [.ref 42, .int v1]) rfl rfl rfl rfl ⟨_, hr, ?_⟩
  show am_wp ext d mz_182 (10, [some (.ref 42), some (.int v1), some (.int v2), none, none, none, none, none, none, none], [.int r1], (I1, L1, D1, am_rf X)) P
  refine am_b1_eq rfl (fun z => ?_) (fun z => ?_)
  · replace h := h.1 z
    refine am_wpb (c' := (24, [some (.ref 42), some (.int v1), some (.int v2), none, none, none, none, none, none, none], [.int (-2147483648)], (I1, L1, D1, am_rf X))) 1 rfl ?_
    exact am_ret_i rfl rfl h
  · replace h := h.2 z
    refine am_wpb (c' := (15, [some (.ref 42), some (.int v1), some (.int v2), none, none, none, none, none, none, none], [.int v2, .ref 42], (I1, L1, D1, am_rf X))) 2 rfl ?_
    obtain ⟨r2, I2, L2, D2, hr, h⟩ := h
    refine am_wp_inv (as := [.ref 42, .int v2]) rfl rfl rfl rfl ⟨_, hr, ?_⟩
    show am_wp ext d mz_182 (18, [some (.ref 42), some (.int v1), some (.int v2), none, none, none, none, none, none, none], [.int r2], (I2, L2, D2, am_rf X)) P
    refine am_b1_ne rfl (fun z => ?_) (fun z => ?_)
    · replace h := h.1 z
      refine am_wpb (c' := (30, [some (.ref 42), some (.int v1), some (.int v2), some (.int 0), some (.int 4), none, none, none, none, none], [], (I2, L2, D2, am_rf X))) 4 rfl ?_
      exact h
    · replace h := h.2 z
      refine am_wpb (c' := (24, [some (.ref 42), some (.int v1), some (.int v2), none, none, none, none, none, none, none], [.int (-2147483648)], (I2, L2, D2, am_rf X))) 1 rfl ?_
      exact am_ret_i rfl rfl h
theorem w182_30 {ext : Nat → List Value → am_M → Option am_R} {d : Nat} {P : am_R → Prop} (I : Nat → Nat → Int32) (L : Nat → Nat → Int64) (D : Nat → Nat → UInt64) (X : am_Rf) (v1 : Int32) (v2 : Int32) (v3 : Int32) (v4 : Int32)
    (h : ((20 < v4 → (∃ (I1 : Nat → Nat → Int32) (L1 : Nat → Nat → Int64) (D1 : Nat → Nat → UInt64), am_Rn ext d 180 [.ref 42] (I, L, D, am_rf X) (none, (I1, L1, D1, am_rf X)) ∧ (am_inb v1 26 = true ∧ ((((I1 71 (Int32.toNatClampNeg v1)) = 0 → (((¬ (0 : Int32) = 0 → (P (some (.int 0), (I1, L1, D1, am_rf X)))) ∧ ((0 : Int32) = 0 → (((¬ v1 = v2 → (P (some (.int 1), (I1, L1, D1, am_rf X)))) ∧ (v1 = v2 → (((v3 = 0 → (P (some (.int 1), (I1, L1, D1, am_rf X)))) ∧ (¬ v3 = 0 → (P (some (.int 0), (I1, L1, D1, am_rf X))))))))))))) ∧ (¬ (I1 71 (Int32.toNatClampNeg v1)) = 0 → (am_inb v2 26 = true ∧ ((((I1 71 (Int32.toNatClampNeg v2)) = 0 → (((¬ (0 : Int32) = 0 → (P (some (.int 0), (I1, L1, D1, am_rf X)))) ∧ ((0 : Int32) = 0 → (((¬ v1 = v2 → (P (some (.int 1), (I1, L1, D1, am_rf X)))) ∧ (v1 = v2 → (((v3 = 0 → (P (some (.int 1), (I1, L1, D1, am_rf X)))) ∧ (¬ v3 = 0 → (P (some (.int 0), (I1, L1, D1, am_rf X))))))))))))) ∧ (¬ (I1 71 (Int32.toNatClampNeg v2)) = 0 → (am_inb v1 26 = true ∧ (am_inb v2 26 = true ∧ (((¬ (L1 69 (Int32.toNatClampNeg v1)) = (L1 69 (Int32.toNatClampNeg v2)) → (((¬ (0 : Int32) = 0 → (P (some (.int 0), (I1, L1, D1, am_rf X)))) ∧ ((0 : Int32) = 0 → (((¬ v1 = v2 → (P (some (.int 1), (I1, L1, D1, am_rf X)))) ∧ (v1 = v2 → (((v3 = 0 → (P (some (.int 1), (I1, L1, D1, am_rf X)))) ∧ (¬ v3 = 0 → (P (some (.int 0), (I1, L1, D1, am_rf X))))))))))))) ∧ ((L1 69 (Int32.toNatClampNeg v1)) = (L1 69 (Int32.toNatClampNeg v2)) → (am_inb v1 26 = true ∧ (am_inb v2 26 = true ∧ (((¬ (L1 70 (Int32.toNatClampNeg v1)) = (L1 70 (Int32.toNatClampNeg v2)) → (((¬ (0 : Int32) = 0 → (P (some (.int 0), (I1, L1, D1, am_rf X)))) ∧ ((0 : Int32) = 0 → (((¬ v1 = v2 → (P (some (.int 1), (I1, L1, D1, am_rf X)))) ∧ (v1 = v2 → (((v3 = 0 → (P (some (.int 1), (I1, L1, D1, am_rf X)))) ∧ (¬ v3 = 0 → (P (some (.int 0), (I1, L1, D1, am_rf X))))))))))))) ∧ ((L1 70 (Int32.toNatClampNeg v1)) = (L1 70 (Int32.toNatClampNeg v2)) → (((¬ (1 : Int32) = 0 → (P (some (.int 0), (I1, L1, D1, am_rf X)))) ∧ ((1 : Int32) = 0 → (((¬ v1 = v2 → (P (some (.int 1), (I1, L1, D1, am_rf X)))) ∧ (v1 = v2 → (((v3 = 0 → (P (some (.int 1), (I1, L1, D1, am_rf X)))) ∧ (¬ v3 = 0 → (P (some (.int 0), (I1, L1, D1, am_rf X)))))))))))))))))))))))))))))))) ∧ (¬ 20 < v4 → (∃ (I2 : Nat → Nat → Int32) (L2 : Nat → Nat → Int64) (D2 : Nat → Nat → UInt64), am_Rn ext d 170 [.ref 42, .int v1, .int v4] (I, L, D, am_rf X) (none, (I2, L2, D2, am_rf X)) ∧ (∃ (I3 : Nat → Nat → Int32) (L3 : Nat → Nat → Int64) (D3 : Nat → Nat → UInt64), am_Rn ext d 170 [.ref 42, .int v2, .int v4] (I2, L2, D2, am_rf X) (none, (I3, L3, D3, am_rf X)) ∧ ((((I2 42 50) = 0 → (am_wp ext d mz_182 (30, [some (.ref 42), some (.int v1), some (.int v2), some (.int (I2 42 50)), some (.int (v4 + 4)), none, none, none, none, none], [], (I3, L3, D3, am_rf X)) P)) ∧ (¬ (I2 42 50) = 0 → (((¬ (I3 42 50) = 0 → ((((L3 42 51) ≤ (L2 42 52) → ((((L2 42 51) ≤ (L3 42 52) → (am_wp ext d mz_182 (30, [some (.ref 42), some (.int v1), some (.int v2), some (.int (I2 42 50)), some (.int (v4 + 4)), none, none, none, none, none], [], (I3, L3, D3, am_rf X)) P)) ∧ (¬ (L2 42 51) ≤ (L3 42 52) → (P (some (.int (-v4)), (I3, L3, D3, am_rf X))))))) ∧ (¬ (L3 42 51) ≤ (L2 42 52) → (P (some (.int v4), (I3, L3, D3, am_rf X))))))) ∧ ((I3 42 50) = 0 → (am_wp ext d mz_182 (30, [some (.ref 42), some (.int v1), some (.int v2), some (.int (I2 42 50)), some (.int (v4 + 4)), none, none, none, none, none], [], (I3, L3, D3, am_rf X)) P)))))))))))) : am_wp ext d mz_182 (30, [some (.ref 42), some (.int v1), some (.int v2), some (.int v3), some (.int v4), none, none, none, none, none], [], (I, L, D, am_rf X)) P := by
  refine am_wpb (c' := (34, [some (.ref 42), some (.int v1), some (.int v2), some (.int v3), some (.int v4), none, none, none, none, none], [.int 20, .int v4], (I, L, D, am_rf X))) 2 rfl ?_
  refine am_b2_gt rfl (fun z => ?_) (fun z => ?_)
  · replace h := h.1 z
    refine am_wpb (c' := (121, [some (.ref 42), some (.int v1), some (.int v2), some (.int v3), some (.int v4), none, none, none, none, none], [.ref 42], (I, L, D, am_rf X))) 1 rfl ?_
    obtain ⟨I1, L1, D1, hr, h⟩ := h
    refine am_wp_inv (as := [.ref 42]) rfl rfl rfl rfl ⟨_, hr, ?_⟩
    show am_wp ext d mz_182 (124, [some (.ref 42), some (.int v1), some (.int v2), some (.int v3), some (.int v4), none, none, none, none, none], [], (I1, L1, D1, am_rf X)) P
    refine am_wpb (c' := (129, [some (.ref 42), some (.int v1), some (.int v2), some (.int v3), some (.int v4), none, none, none, none, none], [.int v1, .ref 71], (I1, L1, D1, am_rf X))) 3 rfl ?_
    obtain ⟨o, h⟩ := h
    refine am_wps (c' := (130, [some (.ref 42), some (.int v1), some (.int v2), some (.int v3), some (.int v4), none, none, none, none, none], [.int (I1 71 (Int32.toNatClampNeg v1))], (I1, L1, D1, am_rf X))) rfl rfl (am_s_zald rfl o) ?_
    refine am_b1_eq rfl (fun z => ?_) (fun z => ?_)
    · replace h := h.1 z
      refine am_wpb (c' := (183, [some (.ref 42), some (.int v1), some (.int v2), some (.int v3), some (.int 0), none, none, none, none, none], [.int 0], (I1, L1, D1, am_rf X))) 3 rfl ?_
      refine am_b1_ne rfl (fun z => ?_) (fun z => ?_)
      · replace h := h.1 z
        refine am_wpb (c' := (200, [some (.ref 42), some (.int v1), some (.int v2), some (.int v3), some (.int 0), none, none, none, none, none], [.int 0], (I1, L1, D1, am_rf X))) 2 rfl ?_
        exact am_ret_i rfl rfl h
      · replace h := h.2 z
        refine am_wpb (c' := (188, [some (.ref 42), some (.int v1), some (.int v2), some (.int v3), some (.int 0), none, none, none, none, none], [.int v2, .int v1], (I1, L1, D1, am_rf X))) 2 rfl ?_
        refine am_b2_ne rfl (fun z => ?_) (fun z => ?_)
        · replace h := h.1 z
          refine am_wpb (c' := (200, [some (.ref 42), some (.int v1), some (.int v2), some (.int v3), some (.int 0), none, none, none, none, none], [.int 1], (I1, L1, D1, am_rf X))) 1 rfl ?_
          exact am_ret_i rfl rfl h
        · replace h := h.2 z
          refine am_wpb (c' := (192, [some (.ref 42), some (.int v1), some (.int v2), some (.int v3), some (.int 0), none, none, none, none, none], [.int v3], (I1, L1, D1, am_rf X))) 1 rfl ?_
          refine am_b1_eq rfl (fun z => ?_) (fun z => ?_)
          · replace h := h.1 z
            refine am_wpb (c' := (200, [some (.ref 42), some (.int v1), some (.int v2), some (.int v3), some (.int 0), none, none, none, none, none], [.int 1], (I1, L1, D1, am_rf X))) 1 rfl ?_
            exact am_ret_i rfl rfl h
          · replace h := h.2 z
            refine am_wpb (c' := (200, [some (.ref 42), some (.int v1), some (.int v2), some (.int v3), some (.int 0), none, none, none, none, none], [.int 0], (I1, L1, D1, am_rf X))) 2 rfl ?_
            exact am_ret_i rfl rfl h
    · replace h := h.2 z
      refine am_wpb (c' := (138, [some (.ref 42), some (.int v1), some (.int v2), some (.int v3), some (.int v4), none, none, none, none, none], [.int v2, .ref 71], (I1, L1, D1, am_rf X))) 3 rfl ?_
      obtain ⟨o, h⟩ := h
      refine am_wps (c' := (139, [some (.ref 42), some (.int v1), some (.int v2), some (.int v3), some (.int v4), none, none, none, none, none], [.int (I1 71 (Int32.toNatClampNeg v2))], (I1, L1, D1, am_rf X))) rfl rfl (am_s_zald rfl o) ?_
      refine am_b1_eq rfl (fun z => ?_) (fun z => ?_)
      · replace h := h.1 z
        refine am_wpb (c' := (183, [some (.ref 42), some (.int v1), some (.int v2), some (.int v3), some (.int 0), none, none, none, none, none], [.int 0], (I1, L1, D1, am_rf X))) 3 rfl ?_
        refine am_b1_ne rfl (fun z => ?_) (fun z => ?_)
        · replace h := h.1 z
          refine am_wpb (c' := (200, [some (.ref 42), some (.int v1), some (.int v2), some (.int v3), some (.int 0), none, none, none, none, none], [.int 0], (I1, L1, D1, am_rf X))) 2 rfl ?_
          exact am_ret_i rfl rfl h
        · replace h := h.2 z
          refine am_wpb (c' := (188, [some (.ref 42), some (.int v1), some (.int v2), some (.int v3), some (.int 0), none, none, none, none, none], [.int v2, .int v1], (I1, L1, D1, am_rf X))) 2 rfl ?_
          refine am_b2_ne rfl (fun z => ?_) (fun z => ?_)
          · replace h := h.1 z
            refine am_wpb (c' := (200, [some (.ref 42), some (.int v1), some (.int v2), some (.int v3), some (.int 0), none, none, none, none, none], [.int 1], (I1, L1, D1, am_rf X))) 1 rfl ?_
            exact am_ret_i rfl rfl h
          · replace h := h.2 z
            refine am_wpb (c' := (192, [some (.ref 42), some (.int v1), some (.int v2), some (.int v3), some (.int 0), none, none, none, none, none], [.int v3], (I1, L1, D1, am_rf X))) 1 rfl ?_
            refine am_b1_eq rfl (fun z => ?_) (fun z => ?_)
            · replace h := h.1 z
              refine am_wpb (c' := (200, [some (.ref 42), some (.int v1), some (.int v2), some (.int v3), some (.int 0), none, none, none, none, none], [.int 1], (I1, L1, D1, am_rf X))) 1 rfl ?_
              exact am_ret_i rfl rfl h
            · replace h := h.2 z
              refine am_wpb (c' := (200, [some (.ref 42), some (.int v1), some (.int v2), some (.int v3), some (.int 0), none, none, none, none, none], [.int 0], (I1, L1, D1, am_rf X))) 2 rfl ?_
              exact am_ret_i rfl rfl h
      · replace h := h.2 z
        refine am_wpb (c' := (147, [some (.ref 42), some (.int v1), some (.int v2), some (.int v3), some (.int v4), none, none, none, none, none], [.int v1, .ref 69], (I1, L1, D1, am_rf X))) 3 rfl ?_
        obtain ⟨o, h⟩ := h
        refine am_wps (c' := (148, [some (.ref 42), some (.int v1), some (.int v2), some (.int v3), some (.int v4), none, none, none, none, none], [.long (L1 69 (Int32.toNatClampNeg v1))], (I1, L1, D1, am_rf X))) rfl rfl (am_s_lald rfl o) ?_
        refine am_wpb (c' := (153, [some (.ref 42), some (.int v1), some (.int v2), some (.int v3), some (.int v4), none, none, none, none, none], [.int v2, .ref 69, .long (L1 69 (Int32.toNatClampNeg v1))], (I1, L1, D1, am_rf X))) 3 rfl ?_
        obtain ⟨o, h⟩ := h
        refine am_wps (c' := (154, [some (.ref 42), some (.int v1), some (.int v2), some (.int v3), some (.int v4), none, none, none, none, none], [.long (L1 69 (Int32.toNatClampNeg v2)), .long (L1 69 (Int32.toNatClampNeg v1))], (I1, L1, D1, am_rf X))) rfl rfl (am_s_lald rfl o) ?_
        refine am_lc_ne rfl rfl (fun z => ?_) (fun z => ?_)
        · replace h := h.1 z
          refine am_wpb (c' := (183, [some (.ref 42), some (.int v1), some (.int v2), some (.int v3), some (.int 0), none, none, none, none, none], [.int 0], (I1, L1, D1, am_rf X))) 3 rfl ?_
          refine am_b1_ne rfl (fun z => ?_) (fun z => ?_)
          · replace h := h.1 z
            refine am_wpb (c' := (200, [some (.ref 42), some (.int v1), some (.int v2), some (.int v3), some (.int 0), none, none, none, none, none], [.int 0], (I1, L1, D1, am_rf X))) 2 rfl ?_
            exact am_ret_i rfl rfl h
          · replace h := h.2 z
            refine am_wpb (c' := (188, [some (.ref 42), some (.int v1), some (.int v2), some (.int v3), some (.int 0), none, none, none, none, none], [.int v2, .int v1], (I1, L1, D1, am_rf X))) 2 rfl ?_
            refine am_b2_ne rfl (fun z => ?_) (fun z => ?_)
            · replace h := h.1 z
              refine am_wpb (c' := (200, [some (.ref 42), some (.int v1), some (.int v2), some (.int v3), some (.int 0), none, none, none, none, none], [.int 1], (I1, L1, D1, am_rf X))) 1 rfl ?_
              exact am_ret_i rfl rfl h
            · replace h := h.2 z
              refine am_wpb (c' := (192, [some (.ref 42), some (.int v1), some (.int v2), some (.int v3), some (.int 0), none, none, none, none, none], [.int v3], (I1, L1, D1, am_rf X))) 1 rfl ?_
              refine am_b1_eq rfl (fun z => ?_) (fun z => ?_)
              · replace h := h.1 z
                refine am_wpb (c' := (200, [some (.ref 42), some (.int v1), some (.int v2), some (.int v3), some (.int 0), none, none, none, none, none], [.int 1], (I1, L1, D1, am_rf X))) 1 rfl ?_
                exact am_ret_i rfl rfl h
              · replace h := h.2 z
                refine am_wpb (c' := (200, [some (.ref 42), some (.int v1), some (.int v2), some (.int v3), some (.int 0), none, none, none, none, none], [.int 0], (I1, L1, D1, am_rf X))) 2 rfl ?_
                exact am_ret_i rfl rfl h
        · replace h := h.2 z
          refine am_wpb (c' := (163, [some (.ref 42), some (.int v1), some (.int v2), some (.int v3), some (.int v4), none, none, none, none, none], [.int v1, .ref 70], (I1, L1, D1, am_rf X))) 3 rfl ?_
          obtain ⟨o, h⟩ := h
          refine am_wps (c' := (164, [some (.ref 42), some (.int v1), some (.int v2), some (.int v3), some (.int v4), none, none, none, none, none], [.long (L1 70 (Int32.toNatClampNeg v1))], (I1, L1, D1, am_rf X))) rfl rfl (am_s_lald rfl o) ?_
          refine am_wpb (c' := (169, [some (.ref 42), some (.int v1), some (.int v2), some (.int v3), some (.int v4), none, none, none, none, none], [.int v2, .ref 70, .long (L1 70 (Int32.toNatClampNeg v1))], (I1, L1, D1, am_rf X))) 3 rfl ?_
          obtain ⟨o, h⟩ := h
          refine am_wps (c' := (170, [some (.ref 42), some (.int v1), some (.int v2), some (.int v3), some (.int v4), none, none, none, none, none], [.long (L1 70 (Int32.toNatClampNeg v2)), .long (L1 70 (Int32.toNatClampNeg v1))], (I1, L1, D1, am_rf X))) rfl rfl (am_s_lald rfl o) ?_
          refine am_lc_ne rfl rfl (fun z => ?_) (fun z => ?_)
          · replace h := h.1 z
            refine am_wpb (c' := (183, [some (.ref 42), some (.int v1), some (.int v2), some (.int v3), some (.int 0), none, none, none, none, none], [.int 0], (I1, L1, D1, am_rf X))) 3 rfl ?_
            refine am_b1_ne rfl (fun z => ?_) (fun z => ?_)
            · replace h := h.1 z
              refine am_wpb (c' := (200, [some (.ref 42), some (.int v1), some (.int v2), some (.int v3), some (.int 0), none, none, none, none, none], [.int 0], (I1, L1, D1, am_rf X))) 2 rfl ?_
              exact am_ret_i rfl rfl h
            · replace h := h.2 z
              refine am_wpb (c' := (188, [some (.ref 42), some (.int v1), some (.int v2), some (.int v3), some (.int 0), none, none, none, none, none], [.int v2, .int v1], (I1, L1, D1, am_rf X))) 2 rfl ?_
              refine am_b2_ne rfl (fun z => ?_) (fun z => ?_)
              · replace h := h.1 z
                refine am_wpb (c' := (200, [some (.ref 42), some (.int v1), some (.int v2), some (.int v3), some (.int 0), none, none, none, none, none], [.int 1], (I1, L1, D1, am_rf X))) 1 rfl ?_
                exact am_ret_i rfl rfl h
              · replace h := h.2 z
                refine am_wpb (c' := (192, [some (.ref 42), some (.int v1), some (.int v2), some (.int v3), some (.int 0), none, none, none, none, none], [.int v3], (I1, L1, D1, am_rf X))) 1 rfl ?_
                refine am_b1_eq rfl (fun z => ?_) (fun z => ?_)
                · replace h := h.1 z
                  refine am_wpb (c' := (200, [some (.ref 42), some (.int v1), some (.int v2), some (.int v3), some (.int 0), none, none, none, none, none], [.int 1], (I1, L1, D1, am_rf X))) 1 rfl ?_
                  exact am_ret_i rfl rfl h
                · replace h := h.2 z
                  refine am_wpb (c' := (200, [some (.ref 42), some (.int v1), some (.int v2), some (.int v3), some (.int 0), none, none, none, none, none], [.int 0], (I1, L1, D1, am_rf X))) 2 rfl ?_
                  exact am_ret_i rfl rfl h
          · replace h := h.2 z
            refine am_wpb (c' := (183, [some (.ref 42), some (.int v1), some (.int v2), some (.int v3), some (.int 1), none, none, none, none, none], [.int 1], (I1, L1, D1, am_rf X))) 4 rfl ?_
            refine am_b1_ne rfl (fun z => ?_) (fun z => ?_)
            · replace h := h.1 z
              refine am_wpb (c' := (200, [some (.ref 42), some (.int v1), some (.int v2), some (.int v3), some (.int 1), none, none, none, none, none], [.int 0], (I1, L1, D1, am_rf X))) 2 rfl ?_
              exact am_ret_i rfl rfl h
            · replace h := h.2 z
              refine am_wpb (c' := (188, [some (.ref 42), some (.int v1), some (.int v2), some (.int v3), some (.int 1), none, none, none, none, none], [.int v2, .int v1], (I1, L1, D1, am_rf X))) 2 rfl ?_
              refine am_b2_ne rfl (fun z => ?_) (fun z => ?_)
              · replace h := h.1 z
                refine am_wpb (c' := (200, [some (.ref 42), some (.int v1), some (.int v2), some (.int v3), some (.int 1), none, none, none, none, none], [.int 1], (I1, L1, D1, am_rf X))) 1 rfl ?_
                exact am_ret_i rfl rfl h
              · replace h := h.2 z
                refine am_wpb (c' := (192, [some (.ref 42), some (.int v1), some (.int v2), some (.int v3), some (.int 1), none, none, none, none, none], [.int v3], (I1, L1, D1, am_rf X))) 1 rfl ?_
                refine am_b1_eq rfl (fun z => ?_) (fun z => ?_)
                · replace h := h.1 z
                  refine am_wpb (c' := (200, [some (.ref 42), some (.int v1), some (.int v2), some (.int v3), some (.int 1), none, none, none, none, none], [.int 1], (I1, L1, D1, am_rf X))) 1 rfl ?_
                  exact am_ret_i rfl rfl h
                · replace h := h.2 z
                  refine am_wpb (c' := (200, [some (.ref 42), some (.int v1), some (.int v2), some (.int v3), some (.int 1), none, none, none, none, none], [.int 0], (I1, L1, D1, am_rf X))) 2 rfl ?_
                  exact am_ret_i rfl rfl h
  · replace h := h.2 z
    refine am_wpb (c' := (41, [some (.ref 42), some (.int v1), some (.int v2), some (.int v3), some (.int v4), none, none, none, none, none], [.int v4, .int v1, .ref 42], (I, L, D, am_rf X))) 3 rfl ?_
    obtain ⟨I2, L2, D2, hr, h⟩ := h
    refine am_wp_inv (as := [.ref 42, .int v1, .int v4]) rfl rfl rfl rfl ⟨_, hr, ?_⟩
    show am_wp ext d mz_182 (44, [some (.ref 42), some (.int v1), some (.int v2), some (.int v3), some (.int v4), none, none, none, none, none], [], (I2, L2, D2, am_rf X)) P
    refine am_wpb (c' := (66, [some (.ref 42), some (.int v1), some (.int v2), some (.int v3), some (.int v4), some (.int (I2 42 50)), some (.long (L2 42 51)), none, some (.long (L2 42 52)), none], [.int v4, .int v2, .ref 42], (I2, L2, D2, am_rf X))) 12 rfl ?_
    obtain ⟨I3, L3, D3, hr, h⟩ := h
    refine am_wp_inv (as := [.ref 42, .int v2, .int v4]) rfl rfl rfl rfl ⟨_, hr, ?_⟩
    show am_wp ext d mz_182 (69, [some (.ref 42), some (.int v1), some (.int v2), some (.int v3), some (.int v4), some (.int (I2 42 50)), some (.long (L2 42 51)), none, some (.long (L2 42 52)), none], [], (I3, L3, D3, am_rf X)) P
    refine am_wpb (c' := (74, [some (.ref 42), some (.int v1), some (.int v2), some (.int (I2 42 50)), some (.int v4), some (.int (I2 42 50)), some (.long (L2 42 51)), none, some (.long (L2 42 52)), none], [.int (I2 42 50)], (I3, L3, D3, am_rf X))) 3 rfl ?_
    refine am_b1_eq rfl (fun z => ?_) (fun z => ?_)
    · replace h := h.1 z
      refine am_wpb (c' := (30, [some (.ref 42), some (.int v1), some (.int v2), some (.int (I2 42 50)), some (.int (v4 + 4)), some (.int (I2 42 50)), some (.long (L2 42 51)), none, some (.long (L2 42 52)), none], [], (I3, L3, D3, am_rf X))) 2 rfl ?_
      exact am_fgt (l := [some (.ref 42), some (.int v1), some (.int v2), some (.int (I2 42 50)), some (.int (v4 + 4)), none, none, none, none, none]) (am_le_of (am_leS (am_leS (am_leS (am_leS (am_leS (am_leN (am_leN (am_leN (am_leN (am_leN (am_leZ)))))))))))) h
    · replace h := h.2 z
      refine am_wpb (c' := (81, [some (.ref 42), some (.int v1), some (.int v2), some (.int (I2 42 50)), some (.int v4), some (.int (I2 42 50)), some (.long (L2 42 51)), none, some (.long (L2 42 52)), none], [.int (I3 42 50)], (I3, L3, D3, am_rf X))) 2 rfl ?_
      refine am_b1_ne rfl (fun z => ?_) (fun z => ?_)
      · replace h := h.1 z
        refine am_wpb (c' := (93, [some (.ref 42), some (.int v1), some (.int v2), some (.int (I2 42 50)), some (.int v4), some (.int (I2 42 50)), some (.long (L2 42 51)), none, some (.long (L2 42 52)), none], [.long (L3 42 51), .long (L2 42 52)], (I3, L3, D3, am_rf X))) 3 rfl ?_
        refine am_lc_ge rfl rfl (fun z => ?_) (fun z => ?_)
        · replace h := h.1 z
          refine am_wpb (c' := (106, [some (.ref 42), some (.int v1), some (.int v2), some (.int (I2 42 50)), some (.int v4), some (.int (I2 42 50)), some (.long (L2 42 51)), none, some (.long (L2 42 52)), none], [.long (L2 42 51), .long (L3 42 52)], (I3, L3, D3, am_rf X))) 3 rfl ?_
          refine am_lc_ge rfl rfl (fun z => ?_) (fun z => ?_)
          · replace h := h.1 z
            refine am_wpb (c' := (30, [some (.ref 42), some (.int v1), some (.int v2), some (.int (I2 42 50)), some (.int (v4 + 4)), some (.int (I2 42 50)), some (.long (L2 42 51)), none, some (.long (L2 42 52)), none], [], (I3, L3, D3, am_rf X))) 2 rfl ?_
            exact am_fgt (l := [some (.ref 42), some (.int v1), some (.int v2), some (.int (I2 42 50)), some (.int (v4 + 4)), none, none, none, none, none]) (am_le_of (am_leS (am_leS (am_leS (am_leS (am_leS (am_leN (am_leN (am_leN (am_leN (am_leN (am_leZ)))))))))))) h
          · replace h := h.2 z
            refine am_wpb (c' := (113, [some (.ref 42), some (.int v1), some (.int v2), some (.int (I2 42 50)), some (.int v4), some (.int (I2 42 50)), some (.long (L2 42 51)), none, some (.long (L2 42 52)), none], [.int (-v4)], (I3, L3, D3, am_rf X))) 2 rfl ?_
            exact am_ret_i rfl rfl h
        · replace h := h.2 z
          refine am_wpb (c' := (99, [some (.ref 42), some (.int v1), some (.int v2), some (.int (I2 42 50)), some (.int v4), some (.int (I2 42 50)), some (.long (L2 42 51)), none, some (.long (L2 42 52)), none], [.int v4], (I3, L3, D3, am_rf X))) 1 rfl ?_
          exact am_ret_i rfl rfl h
      · replace h := h.2 z
        refine am_wpb (c' := (30, [some (.ref 42), some (.int v1), some (.int v2), some (.int (I2 42 50)), some (.int (v4 + 4)), some (.int (I2 42 50)), some (.long (L2 42 51)), none, some (.long (L2 42 52)), none], [], (I3, L3, D3, am_rf X))) 3 rfl ?_
        exact am_fgt (l := [some (.ref 42), some (.int v1), some (.int v2), some (.int (I2 42 50)), some (.int (v4 + 4)), none, none, none, none, none]) (am_le_of (am_leS (am_leS (am_leS (am_leS (am_leS (am_leN (am_leN (am_leN (am_leN (am_leN (am_leZ)))))))))))) h
/-- SureSumsModel.where(III)I -/
def mz_183 : am_Y := (fun pc => am_q183.lookup pc, 8, 1)
theorem mh_183 : am_Ys 183 = some mz_183 := rfl
theorem w183_0 {ext : Nat → List Value → am_M → Option am_R} {d : Nat} {P : am_R → Prop} (I : Nat → Nat → Int32) (L : Nat → Nat → Int64) (D : Nat → Nat → UInt64) (X : am_Rf) (v1 : Int32) (v2 : Int32) (v3 : Int32)
    (h : ∃ (r1 : Int32) (I1 : Nat → Nat → Int32) (L1 : Nat → Nat → Int64) (D1 : Nat → Nat → UInt64), am_Rn ext d 149 [.ref 42, .int v1] (am_uI I 42 2 0, L, D, am_rf X) (some (.int r1), (I1, L1, D1, am_rf X)) ∧ (((r1 = 0 → (P (some (.int 0), (I1, L1, D1, am_rf X)))) ∧ (¬ r1 = 0 → (∃ (r2 : Int32) (I2 : Nat → Nat → Int32) (L2 : Nat → Nat → Int64) (D2 : Nat → Nat → UInt64), am_Rn ext d 117 [.int v2, .int (-64), .int 64] (I1, L1, D1, am_rf X) (some (.int r2), (I2, L2, D2, am_rf X)) ∧ (((r2 = 0 → (P (some (.int 0), (I2, L2, D2, am_rf X)))) ∧ (¬ r2 = 0 → (∃ (r3 : Int32) (I3 : Nat → Nat → Int32) (L3 : Nat → Nat → Int64) (D3 : Nat → Nat → UInt64), am_Rn ext d 117 [.int v3, .int (v2 + 1), .int 64] (I2, L2, D2, am_rf X) (some (.int r3), (I3, L3, D3, am_rf X)) ∧ (((¬ r3 = 0 → (am_wp ext d mz_183 (52, [some (.ref 42), some (.int v1), some (.int v2), some (.int v3), some (.long (-9223372036854775808)), none, some (.int 0), none], [], (am_uI I3 42 48 16, L3, D3, am_rf X)) P)) ∧ (r3 = 0 → (P (some (.int 0), (I3, L3, D3, am_rf X))))))))))))))) : am_wp ext d mz_183 (0, [some (.ref 42), some (.int v1), some (.int v2), some (.int v3), none, none, none, none], [], (I, L, D, am_rf X)) P := by
  refine am_wpb (c' := (7, [some (.ref 42), some (.int v1), some (.int v2), some (.int v3), none, none, none, none], [.int v1, .ref 42], (am_uI I 42 2 0, L, D, am_rf X))) 5 rfl ?_
  obtain ⟨r1, I1, L1, D1, hr, h⟩ := h
  refine am_wp_inv (as := [.ref 42, .int v1]) rfl rfl rfl rfl ⟨_, hr, ?_⟩
  show am_wp ext d mz_183 (10, [some (.ref 42), some (.int v1), some (.int v2), some (.int v3), none, none, none, none], [.int r1], (I1, L1, D1, am_rf X)) P
  refine am_b1_eq rfl (fun z => ?_) (fun z => ?_)
  · replace h := h.1 z
    refine am_wpb (c' := (37, [some (.ref 42), some (.int v1), some (.int v2), some (.int v3), none, none, none, none], [.int 0], (I1, L1, D1, am_rf X))) 1 rfl ?_
    exact am_ret_i rfl rfl h
  · replace h := h.2 z
    refine am_wpb (c' := (18, [some (.ref 42), some (.int v1), some (.int v2), some (.int v3), none, none, none, none], [.int 64, .int (-64), .int v2], (I1, L1, D1, am_rf X))) 3 rfl ?_
    obtain ⟨r2, I2, L2, D2, hr, h⟩ := h
    refine am_wp_inv (as := [.int v2, .int (-64), .int 64]) rfl rfl rfl rfl ⟨_, hr, ?_⟩
    show am_wp ext d mz_183 (21, [some (.ref 42), some (.int v1), some (.int v2), some (.int v3), none, none, none, none], [.int r2], (I2, L2, D2, am_rf X)) P
    refine am_b1_eq rfl (fun z => ?_) (fun z => ?_)
    · replace h := h.1 z
      refine am_wpb (c' := (37, [some (.ref 42), some (.int v1), some (.int v2), some (.int v3), none, none, none, none], [.int 0], (I2, L2, D2, am_rf X))) 1 rfl ?_
      exact am_ret_i rfl rfl h
    · replace h := h.2 z
      refine am_wpb (c' := (30, [some (.ref 42), some (.int v1), some (.int v2), some (.int v3), none, none, none, none], [.int 64, .int (v2 + 1), .int v3], (I2, L2, D2, am_rf X))) 5 rfl ?_
      obtain ⟨r3, I3, L3, D3, hr, h⟩ := h
      refine am_wp_inv (as := [.int v3, .int (v2 + 1), .int 64]) rfl rfl rfl rfl ⟨_, hr, ?_⟩
      show am_wp ext d mz_183 (33, [some (.ref 42), some (.int v1), some (.int v2), some (.int v3), none, none, none, none], [.int r3], (I3, L3, D3, am_rf X)) P
      refine am_b1_ne rfl (fun z => ?_) (fun z => ?_)
      · replace h := h.1 z
        refine am_wpb (c' := (52, [some (.ref 42), some (.int v1), some (.int v2), some (.int v3), some (.long (-9223372036854775808)), none, some (.int 0), none], [], (am_uI I3 42 48 16, L3, D3, am_rf X))) 7 rfl ?_
        exact h
      · replace h := h.2 z
        refine am_wpb (c' := (37, [some (.ref 42), some (.int v1), some (.int v2), some (.int v3), none, none, none, none], [.int 0], (I3, L3, D3, am_rf X))) 1 rfl ?_
        exact am_ret_i rfl rfl h
theorem w183_52 {ext : Nat → List Value → am_M → Option am_R} {d : Nat} {P : am_R → Prop} (I : Nat → Nat → Int32) (L : Nat → Nat → Int64) (D : Nat → Nat → UInt64) (X : am_Rf) (v1 : Int32) (v2 : Int32) (v3 : Int32) (v4 : Int64) (v6 : Int32)
    (h : ((16 ≤ v6 → (am_wp ext d mz_183 (100, [some (.ref 42), some (.int v1), some (.int v2), some (.int v3), some (.long v4), none, some (.int 0), some (.int 0)], [], (I, L, D, am_rf X)) P)) ∧ (¬ 16 ≤ v6 → (∃ (I1 : Nat → Nat → Int32) (L1 : Nat → Nat → Int64) (D1 : Nat → Nat → UInt64), am_Rn ext d 184 [.ref 42, .int v1, .int v2, .int v3, .int v6] (I, L, D, am_rf X) (none, (I1, L1, D1, am_rf X)) ∧ (((¬ (I1 42 50) = 0 → (∃ (r2 : Int64) (I2 : Nat → Nat → Int32) (L2 : Nat → Nat → Int64) (D2 : Nat → Nat → UInt64), am_Rn ext d 158 [.long v4, .long (L1 42 51)] (I1, L1, D1, am_rf X) (some (.long r2), (I2, L2, D2, am_rf X)) ∧ (am_wp ext d mz_183 (52, [some (.ref 42), some (.int v1), some (.int v2), some (.int v3), some (.long r2), none, some (.int (v6 + 1)), none], [], (I2, L2, D2, am_rf X)) P))) ∧ ((I1 42 50) = 0 → (P (some (.int 0), (I1, L1, D1, am_rf X)))))))))) : am_wp ext d mz_183 (52, [some (.ref 42), some (.int v1), some (.int v2), some (.int v3), some (.long v4), none, some (.int v6), none], [], (I, L, D, am_rf X)) P := by
  refine am_wpb (c' := (56, [some (.ref 42), some (.int v1), some (.int v2), some (.int v3), some (.long v4), none, some (.int v6), none], [.int 16, .int v6], (I, L, D, am_rf X))) 2 rfl ?_
  refine am_b2_ge rfl (fun z => ?_) (fun z => ?_)
  · replace h := h.1 z
    refine am_wpb (c' := (100, [some (.ref 42), some (.int v1), some (.int v2), some (.int v3), some (.long v4), none, some (.int 0), some (.int 0)], [], (I, L, D, am_rf X))) 4 rfl ?_
    exact h
  · replace h := h.2 z
    refine am_wpb (c' := (65, [some (.ref 42), some (.int v1), some (.int v2), some (.int v3), some (.long v4), none, some (.int v6), none], [.int v6, .int v3, .int v2, .int v1, .ref 42], (I, L, D, am_rf X))) 5 rfl ?_
    obtain ⟨I1, L1, D1, hr, h⟩ := h
    refine am_wp_inv (as := [.ref 42, .int v1, .int v2, .int v3, .int v6]) rfl rfl rfl rfl ⟨_, hr, ?_⟩
    show am_wp ext d mz_183 (68, [some (.ref 42), some (.int v1), some (.int v2), some (.int v3), some (.long v4), none, some (.int v6), none], [], (I1, L1, D1, am_rf X)) P
    refine am_wpb (c' := (72, [some (.ref 42), some (.int v1), some (.int v2), some (.int v3), some (.long v4), none, some (.int v6), none], [.int (I1 42 50)], (I1, L1, D1, am_rf X))) 2 rfl ?_
    refine am_b1_ne rfl (fun z => ?_) (fun z => ?_)
    · replace h := h.1 z
      refine am_wpb (c' := (83, [some (.ref 42), some (.int v1), some (.int v2), some (.int v3), some (.long v4), none, some (.int v6), none], [.long (L1 42 51), .long v4], (I1, L1, D1, am_rf X))) 3 rfl ?_
      obtain ⟨r2, I2, L2, D2, hr, h⟩ := h
      refine am_wp_inv (as := [.long v4, .long (L1 42 51)]) rfl rfl rfl rfl ⟨_, hr, ?_⟩
      show am_wp ext d mz_183 (86, [some (.ref 42), some (.int v1), some (.int v2), some (.int v3), some (.long v4), none, some (.int v6), none], [.long r2], (I2, L2, D2, am_rf X)) P
      refine am_wpb (c' := (52, [some (.ref 42), some (.int v1), some (.int v2), some (.int v3), some (.long r2), none, some (.int (v6 + 1)), none], [], (I2, L2, D2, am_rf X))) 3 rfl ?_
      exact h
    · replace h := h.2 z
      refine am_wpb (c' := (76, [some (.ref 42), some (.int v1), some (.int v2), some (.int v3), some (.long v4), none, some (.int v6), none], [.int 0], (I1, L1, D1, am_rf X))) 1 rfl ?_
      exact am_ret_i rfl rfl h
theorem w183_100 {ext : Nat → List Value → am_M → Option am_R} {d : Nat} {P : am_R → Prop} (I : Nat → Nat → Int32) (L : Nat → Nat → Int64) (D : Nat → Nat → UInt64) (X : am_Rf) (v1 : Int32) (v2 : Int32) (v3 : Int32) (v4 : Int64) (v6 : Int32) (v7 : Int32)
    (h : ((16 ≤ v7 → (P (some (.int v6), (I, L, D, am_rf X)))) ∧ (¬ 16 ≤ v7 → (∃ (I1 : Nat → Nat → Int32) (L1 : Nat → Nat → Int64) (D1 : Nat → Nat → UInt64), am_Rn ext d 184 [.ref 42, .int v1, .int v2, .int v3, .int v7] (I, L, D, am_rf X) (none, (I1, L1, D1, am_rf X)) ∧ ((((L1 42 52) < v4 → (am_wp ext d mz_183 (100, [some (.ref 42), some (.int v1), some (.int v2), some (.int v3), some (.long v4), none, some (.int v6), some (.int (v7 + 1))], [], (I1, L1, D1, am_rf X)) P)) ∧ (¬ (L1 42 52) < v4 → (am_wp ext d mz_183 (100, [some (.ref 42), some (.int v1), some (.int v2), some (.int v3), some (.long v4), none, some (.int (v6 ||| (1 <<< (v7 &&& 31)))), some (.int (v7 + 1))], [], (I1, L1, D1, am_rf X)) P)))))))) : am_wp ext d mz_183 (100, [some (.ref 42), some (.int v1), some (.int v2), some (.int v3), some (.long v4), none, some (.int v6), some (.int v7)], [], (I, L, D, am_rf X)) P := by
  refine am_wpb (c' := (104, [some (.ref 42), some (.int v1), some (.int v2), some (.int v3), some (.long v4), none, some (.int v6), some (.int v7)], [.int 16, .int v7], (I, L, D, am_rf X))) 2 rfl ?_
  refine am_b2_ge rfl (fun z => ?_) (fun z => ?_)
  · replace h := h.1 z
    refine am_wpb (c' := (143, [some (.ref 42), some (.int v1), some (.int v2), some (.int v3), some (.long v4), none, some (.int v6), some (.int v7)], [.int v6], (I, L, D, am_rf X))) 1 rfl ?_
    exact am_ret_i rfl rfl h
  · replace h := h.2 z
    refine am_wpb (c' := (113, [some (.ref 42), some (.int v1), some (.int v2), some (.int v3), some (.long v4), none, some (.int v6), some (.int v7)], [.int v7, .int v3, .int v2, .int v1, .ref 42], (I, L, D, am_rf X))) 5 rfl ?_
    obtain ⟨I1, L1, D1, hr, h⟩ := h
    refine am_wp_inv (as := [.ref 42, .int v1, .int v2, .int v3, .int v7]) rfl rfl rfl rfl ⟨_, hr, ?_⟩
    show am_wp ext d mz_183 (116, [some (.ref 42), some (.int v1), some (.int v2), some (.int v3), some (.long v4), none, some (.int v6), some (.int v7)], [], (I1, L1, D1, am_rf X)) P
    refine am_wpb (c' := (122, [some (.ref 42), some (.int v1), some (.int v2), some (.int v3), some (.long v4), none, some (.int v6), some (.int v7)], [.long v4, .long (L1 42 52)], (I1, L1, D1, am_rf X))) 3 rfl ?_
    refine am_lc_lt rfl rfl (fun z => ?_) (fun z => ?_)
    · replace h := h.1 z
      refine am_wpb (c' := (100, [some (.ref 42), some (.int v1), some (.int v2), some (.int v3), some (.long v4), none, some (.int v6), some (.int (v7 + 1))], [], (I1, L1, D1, am_rf X))) 2 rfl ?_
      exact h
    · replace h := h.2 z
      refine am_wpb (c' := (100, [some (.ref 42), some (.int v1), some (.int v2), some (.int v3), some (.long v4), none, some (.int (v6 ||| (1 <<< (v7 &&& 31)))), some (.int (v7 + 1))], [], (I1, L1, D1, am_rf X))) 8 rfl ?_
      exact h
/-- SureSumsModel.pieceOf(IIII)V -/
def mz_184 : am_Y := (fun pc => am_q184.lookup pc, 9, 0)
theorem mh_184 : am_Ys 184 = some mz_184 := rfl
theorem w184_0 {ext : Nat → List Value → am_M → Option am_R} {d : Nat} {P : am_R → Prop} (I : Nat → Nat → Int32) (L : Nat → Nat → Int64) (D : Nat → Nat → UInt64) (X : am_Rf) (v1 : Int32) (v2 : Int32) (v3 : Int32) (v4 : Int32)
    (h : am_inb v1 52 = true ∧ (∃ (I1 : Nat → Nat → Int32) (L1 : Nat → Nat → Int64) (D1 : Nat → Nat → UInt64), am_Rn ext d 153 [.ref 42, .int (I 52 (Int32.toNatClampNeg v1)), .long (((Int32.toInt64 v2) <<< ((Int32.toInt64 16) &&& 63)) + (((Int32.toInt64 (v3 - v2)) <<< ((Int32.toInt64 12) &&& 63)) * (Int32.toInt64 v4))), .long (((Int32.toInt64 v2) <<< ((Int32.toInt64 16) &&& 63)) + (((Int32.toInt64 (v3 - v2)) <<< ((Int32.toInt64 12) &&& 63)) * (Int32.toInt64 (v4 + 1))))] (I, L, D, am_rf X) (none, (I1, L1, D1, am_rf X)) ∧ (P (none, (I1, L1, D1, am_rf X))))) : am_wp ext d mz_184 (0, [some (.ref 42), some (.int v1), some (.int v2), some (.int v3), some (.int v4), none, none, none, none], [], (I, L, D, am_rf X)) P := by
  refine am_wpb (c' := (22, [some (.ref 42), some (.int v1), some (.int v2), some (.int v3), some (.int v4), some (.long ((Int32.toInt64 v2) <<< ((Int32.toInt64 16) &&& 63))), none, some (.long ((Int32.toInt64 (v3 - v2)) <<< ((Int32.toInt64 12) &&& 63))), none], [.int v1, .ref 52, .ref 42], (I, L, D, am_rf X))) 16 rfl ?_
  obtain ⟨o, h⟩ := h
  refine am_wps (c' := (23, [some (.ref 42), some (.int v1), some (.int v2), some (.int v3), some (.int v4), some (.long ((Int32.toInt64 v2) <<< ((Int32.toInt64 16) &&& 63))), none, some (.long ((Int32.toInt64 (v3 - v2)) <<< ((Int32.toInt64 12) &&& 63))), none], [.int (I 52 (Int32.toNatClampNeg v1)), .ref 42], (I, L, D, am_rf X))) rfl rfl (am_s_iald rfl o) ?_
  refine am_wpb (c' := (43, [some (.ref 42), some (.int v1), some (.int v2), some (.int v3), some (.int v4), some (.long ((Int32.toInt64 v2) <<< ((Int32.toInt64 16) &&& 63))), none, some (.long ((Int32.toInt64 (v3 - v2)) <<< ((Int32.toInt64 12) &&& 63))), none], [.long (((Int32.toInt64 v2) <<< ((Int32.toInt64 16) &&& 63)) + (((Int32.toInt64 (v3 - v2)) <<< ((Int32.toInt64 12) &&& 63)) * (Int32.toInt64 (v4 + 1)))), .long (((Int32.toInt64 v2) <<< ((Int32.toInt64 16) &&& 63)) + (((Int32.toInt64 (v3 - v2)) <<< ((Int32.toInt64 12) &&& 63)) * (Int32.toInt64 v4))), .int (I 52 (Int32.toNatClampNeg v1)), .ref 42], (I, L, D, am_rf X))) 14 rfl ?_
  obtain ⟨I1, L1, D1, hr, h⟩ := h
  refine am_wp_inv (as := [.ref 42, .int (I 52 (Int32.toNatClampNeg v1)), .long (((Int32.toInt64 v2) <<< ((Int32.toInt64 16) &&& 63)) + (((Int32.toInt64 (v3 - v2)) <<< ((Int32.toInt64 12) &&& 63)) * (Int32.toInt64 v4))), .long (((Int32.toInt64 v2) <<< ((Int32.toInt64 16) &&& 63)) + (((Int32.toInt64 (v3 - v2)) <<< ((Int32.toInt64 12) &&& 63)) * (Int32.toInt64 (v4 + 1))))]) rfl rfl rfl rfl ⟨_, hr, ?_⟩
  show am_wp ext d mz_184 (46, [some (.ref 42), some (.int v1), some (.int v2), some (.int v3), some (.int v4), some (.long ((Int32.toInt64 v2) <<< ((Int32.toInt64 16) &&& 63))), none, some (.long ((Int32.toInt64 (v3 - v2)) <<< ((Int32.toInt64 12) &&& 63))), none], [], (I1, L1, D1, am_rf X)) P
  exact am_ret_v rfl rfl h
/-- SureSumsModel.dotOf(III)I -/
def mz_185 : am_Y := (fun pc => am_q185.lookup pc, 11, 1)
theorem mh_185 : am_Ys 185 = some mz_185 := rfl
theorem w185_0 {ext : Nat → List Value → am_M → Option am_R} {d : Nat} {P : am_R → Prop} (I : Nat → Nat → Int32) (L : Nat → Nat → Int64) (D : Nat → Nat → UInt64) (X : am_Rf) (v1 : Int32) (v2 : Int32) (v3 : Int32)
    (h : am_inb v1 52 = true ∧ (∃ (I1 : Nat → Nat → Int32) (L1 : Nat → Nat → Int64) (D1 : Nat → Nat → UInt64), am_Rn ext d 153 [.ref 42, .int (I 52 (Int32.toNatClampNeg v1)), .long ((Int32.toInt64 v2) <<< ((Int32.toInt64 16) &&& 63)), .long (((Int32.toInt64 v2) <<< ((Int32.toInt64 16) &&& 63)) + 65536)] (am_uI I 42 48 16, L, D, am_rf X) (none, (I1, L1, D1, am_rf X)) ∧ ((((I1 42 50) = 0 → (am_wp ext d mz_185 (78, [some (.ref 42), some (.int v1), none, none, some (.long ((Int32.toInt64 v2) <<< ((Int32.toInt64 16) &&& 63))), none, some (.long ((Int32.toInt64 v3) <<< ((Int32.toInt64 16) &&& 63))), none, some (.long (((Int32.toInt64 v3) <<< ((Int32.toInt64 16) &&& 63)) + 65536)), none, some (.int 0)], [], (I1, L1, D1, am_rf X)) P)) ∧ (¬ (I1 42 50) = 0 → ((((((Int32.toInt64 v3) <<< ((Int32.toInt64 16) &&& 63)) + 65536) < (L1 42 51) → (P (some (.int 0), (I1, L1, D1, am_rf X)))) ∧ (¬ (((Int32.toInt64 v3) <<< ((Int32.toInt64 16) &&& 63)) + 65536) < (L1 42 51) → (((((Int32.toInt64 v3) <<< ((Int32.toInt64 16) &&& 63)) ≤ (L1 42 52) → (am_wp ext d mz_185 (78, [some (.ref 42), some (.int v1), none, none, some (.long ((Int32.toInt64 v2) <<< ((Int32.toInt64 16) &&& 63))), none, some (.long ((Int32.toInt64 v3) <<< ((Int32.toInt64 16) &&& 63))), none, some (.long (((Int32.toInt64 v3) <<< ((Int32.toInt64 16) &&& 63)) + 65536)), none, some (.int 0)], [], (I1, L1, D1, am_rf X)) P)) ∧ (¬ ((Int32.toInt64 v3) <<< ((Int32.toInt64 16) &&& 63)) ≤ (L1 42 52) → (P (some (.int 0), (I1, L1, D1, am_rf X)))))))))))))) : am_wp ext d mz_185 (0, [some (.ref 42), some (.int v1), some (.int v2), some (.int v3), none, none, none, none, none, none, none], [], (I, L, D, am_rf X)) P := by
  refine am_wpb (c' := (34, [some (.ref 42), some (.int v1), some (.int v2), some (.int v3), some (.long ((Int32.toInt64 v2) <<< ((Int32.toInt64 16) &&& 63))), none, some (.long ((Int32.toInt64 v3) <<< ((Int32.toInt64 16) &&& 63))), none, some (.long (((Int32.toInt64 v3) <<< ((Int32.toInt64 16) &&& 63)) + 65536)), none, none], [.int v1, .ref 52, .ref 42], (am_uI I 42 48 16, L, D, am_rf X))) 21 rfl ?_
  obtain ⟨o, h⟩ := h
  refine am_wps (c' := (35, [some (.ref 42), some (.int v1), some (.int v2), some (.int v3), some (.long ((Int32.toInt64 v2) <<< ((Int32.toInt64 16) &&& 63))), none, some (.long ((Int32.toInt64 v3) <<< ((Int32.toInt64 16) &&& 63))), none, some (.long (((Int32.toInt64 v3) <<< ((Int32.toInt64 16) &&& 63)) + 65536)), none, none], [.int (I 52 (Int32.toNatClampNeg v1)), .ref 42], (am_uI I 42 48 16, L, D, am_rf X))) rfl rfl (am_s_iald rfl o) ?_
  refine am_wpb (c' := (43, [some (.ref 42), some (.int v1), some (.int v2), some (.int v3), some (.long ((Int32.toInt64 v2) <<< ((Int32.toInt64 16) &&& 63))), none, some (.long ((Int32.toInt64 v3) <<< ((Int32.toInt64 16) &&& 63))), none, some (.long (((Int32.toInt64 v3) <<< ((Int32.toInt64 16) &&& 63)) + 65536)), none, none], [.long (((Int32.toInt64 v2) <<< ((Int32.toInt64 16) &&& 63)) + 65536), .long ((Int32.toInt64 v2) <<< ((Int32.toInt64 16) &&& 63)), .int (I 52 (Int32.toNatClampNeg v1)), .ref 42], (am_uI I 42 48 16, L, D, am_rf X))) 4 rfl ?_
  obtain ⟨I1, L1, D1, hr, h⟩ := h
  refine am_wp_inv (as := [.ref 42, .int (I 52 (Int32.toNatClampNeg v1)), .long ((Int32.toInt64 v2) <<< ((Int32.toInt64 16) &&& 63)), .long (((Int32.toInt64 v2) <<< ((Int32.toInt64 16) &&& 63)) + 65536)]) rfl rfl rfl rfl ⟨_, hr, ?_⟩
  show am_wp ext d mz_185 (46, [some (.ref 42), some (.int v1), some (.int v2), some (.int v3), some (.long ((Int32.toInt64 v2) <<< ((Int32.toInt64 16) &&& 63))), none, some (.long ((Int32.toInt64 v3) <<< ((Int32.toInt64 16) &&& 63))), none, some (.long (((Int32.toInt64 v3) <<< ((Int32.toInt64 16) &&& 63)) + 65536)), none, none], [], (I1, L1, D1, am_rf X)) P
  refine am_wpb (c' := (50, [some (.ref 42), some (.int v1), some (.int v2), some (.int v3), some (.long ((Int32.toInt64 v2) <<< ((Int32.toInt64 16) &&& 63))), none, some (.long ((Int32.toInt64 v3) <<< ((Int32.toInt64 16) &&& 63))), none, some (.long (((Int32.toInt64 v3) <<< ((Int32.toInt64 16) &&& 63)) + 65536)), none, none], [.int (I1 42 50)], (I1, L1, D1, am_rf X))) 2 rfl ?_
  refine am_b1_eq rfl (fun z => ?_) (fun z => ?_)
  · replace h := h.1 z
    refine am_wpb (c' := (78, [some (.ref 42), some (.int v1), some (.int v2), some (.int v3), some (.long ((Int32.toInt64 v2) <<< ((Int32.toInt64 16) &&& 63))), none, some (.long ((Int32.toInt64 v3) <<< ((Int32.toInt64 16) &&& 63))), none, some (.long (((Int32.toInt64 v3) <<< ((Int32.toInt64 16) &&& 63)) + 65536)), none, some (.int 0)], [], (I1, L1, D1, am_rf X))) 2 rfl ?_
    exact am_fgt (l := [some (.ref 42), some (.int v1), none, none, some (.long ((Int32.toInt64 v2) <<< ((Int32.toInt64 16) &&& 63))), none, some (.long ((Int32.toInt64 v3) <<< ((Int32.toInt64 16) &&& 63))), none, some (.long (((Int32.toInt64 v3) <<< ((Int32.toInt64 16) &&& 63)) + 65536)), none, some (.int 0)]) (am_le_of (am_leS (am_leS (am_leN (am_leN (am_leS (am_leN (am_leS (am_leN (am_leS (am_leN (am_leS (am_leZ))))))))))))) h
  · replace h := h.2 z
    refine am_wpb (c' := (59, [some (.ref 42), some (.int v1), some (.int v2), some (.int v3), some (.long ((Int32.toInt64 v2) <<< ((Int32.toInt64 16) &&& 63))), none, some (.long ((Int32.toInt64 v3) <<< ((Int32.toInt64 16) &&& 63))), none, some (.long (((Int32.toInt64 v3) <<< ((Int32.toInt64 16) &&& 63)) + 65536)), none, none], [.long (((Int32.toInt64 v3) <<< ((Int32.toInt64 16) &&& 63)) + 65536), .long (L1 42 51)], (I1, L1, D1, am_rf X))) 3 rfl ?_
    refine am_lc_gt rfl rfl (fun z => ?_) (fun z => ?_)
    · replace h := h.1 z
      refine am_wpb (c' := (74, [some (.ref 42), some (.int v1), some (.int v2), some (.int v3), some (.long ((Int32.toInt64 v2) <<< ((Int32.toInt64 16) &&& 63))), none, some (.long ((Int32.toInt64 v3) <<< ((Int32.toInt64 16) &&& 63))), none, some (.long (((Int32.toInt64 v3) <<< ((Int32.toInt64 16) &&& 63)) + 65536)), none, none], [.int 0], (I1, L1, D1, am_rf X))) 1 rfl ?_
      exact am_ret_i rfl rfl h
    · replace h := h.2 z
      refine am_wpb (c' := (69, [some (.ref 42), some (.int v1), some (.int v2), some (.int v3), some (.long ((Int32.toInt64 v2) <<< ((Int32.toInt64 16) &&& 63))), none, some (.long ((Int32.toInt64 v3) <<< ((Int32.toInt64 16) &&& 63))), none, some (.long (((Int32.toInt64 v3) <<< ((Int32.toInt64 16) &&& 63)) + 65536)), none, none], [.long ((Int32.toInt64 v3) <<< ((Int32.toInt64 16) &&& 63)), .long (L1 42 52)], (I1, L1, D1, am_rf X))) 3 rfl ?_
      refine am_lc_ge rfl rfl (fun z => ?_) (fun z => ?_)
      · replace h := h.1 z
        refine am_wpb (c' := (78, [some (.ref 42), some (.int v1), some (.int v2), some (.int v3), some (.long ((Int32.toInt64 v2) <<< ((Int32.toInt64 16) &&& 63))), none, some (.long ((Int32.toInt64 v3) <<< ((Int32.toInt64 16) &&& 63))), none, some (.long (((Int32.toInt64 v3) <<< ((Int32.toInt64 16) &&& 63)) + 65536)), none, some (.int 0)], [], (I1, L1, D1, am_rf X))) 2 rfl ?_
        exact am_fgt (l := [some (.ref 42), some (.int v1), none, none, some (.long ((Int32.toInt64 v2) <<< ((Int32.toInt64 16) &&& 63))), none, some (.long ((Int32.toInt64 v3) <<< ((Int32.toInt64 16) &&& 63))), none, some (.long (((Int32.toInt64 v3) <<< ((Int32.toInt64 16) &&& 63)) + 65536)), none, some (.int 0)]) (am_le_of (am_leS (am_leS (am_leN (am_leN (am_leS (am_leN (am_leS (am_leN (am_leS (am_leN (am_leS (am_leZ))))))))))))) h
      · replace h := h.2 z
        refine am_wpb (c' := (74, [some (.ref 42), some (.int v1), some (.int v2), some (.int v3), some (.long ((Int32.toInt64 v2) <<< ((Int32.toInt64 16) &&& 63))), none, some (.long ((Int32.toInt64 v3) <<< ((Int32.toInt64 16) &&& 63))), none, some (.long (((Int32.toInt64 v3) <<< ((Int32.toInt64 16) &&& 63)) + 65536)), none, none], [.int 0], (I1, L1, D1, am_rf X))) 1 rfl ?_
        exact am_ret_i rfl rfl h
theorem w185_78 {ext : Nat → List Value → am_M → Option am_R} {d : Nat} {P : am_R → Prop} (I : Nat → Nat → Int32) (L : Nat → Nat → Int64) (D : Nat → Nat → UInt64) (X : am_Rf) (v1 : Int32) (v4 : Int64) (v6 : Int64) (v8 : Int64) (v10 : Int32)
    (h : ((17 ≤ v10 → (P (some (.int 1), (I, L, D, am_rf X)))) ∧ (¬ 17 ≤ v10 → (am_inb v1 52 = true ∧ (∃ (I1 : Nat → Nat → Int32) (L1 : Nat → Nat → Int64) (D1 : Nat → Nat → UInt64), am_Rn ext d 153 [.ref 42, .int (I 52 (Int32.toNatClampNeg v1)), .long (v4 + (4096 * (Int32.toInt64 v10))), .long (v4 + (4096 * (Int32.toInt64 v10)))] (I, L, D, am_rf X) (none, (I1, L1, D1, am_rf X)) ∧ ((((I1 42 50) = 0 → (am_wp ext d mz_185 (78, [some (.ref 42), some (.int v1), none, none, some (.long v4), none, some (.long v6), none, some (.long v8), none, some (.int (v10 + 1))], [], (I1, L1, D1, am_rf X)) P)) ∧ (¬ (I1 42 50) = 0 → ((((L1 42 51) < v6 → (am_wp ext d mz_185 (78, [some (.ref 42), some (.int v1), none, none, some (.long v4), none, some (.long v6), none, some (.long v8), none, some (.int (v10 + 1))], [], (I1, L1, D1, am_rf X)) P)) ∧ (¬ (L1 42 51) < v6 → (((v8 < (L1 42 52) → (am_wp ext d mz_185 (78, [some (.ref 42), some (.int v1), none, none, some (.long v4), none, some (.long v6), none, some (.long v8), none, some (.int (v10 + 1))], [], (I1, L1, D1, am_rf X)) P)) ∧ (¬ v8 < (L1 42 52) → (P (some (.int 2), (I1, L1, D1, am_rf X))))))))))))))))) : am_wp ext d mz_185 (78, [some (.ref 42), some (.int v1), none, none, some (.long v4), none, some (.long v6), none, some (.long v8), none, some (.int v10)], [], (I, L, D, am_rf X)) P := by
  refine am_wpb (c' := (82, [some (.ref 42), some (.int v1), none, none, some (.long v4), none, some (.long v6), none, some (.long v8), none, some (.int v10)], [.int 17, .int v10], (I, L, D, am_rf X))) 2 rfl ?_
  refine am_b2_ge rfl (fun z => ?_) (fun z => ?_)
  · replace h := h.1 z
    refine am_wpb (c' := (151, [some (.ref 42), some (.int v1), none, none, some (.long v4), none, some (.long v6), none, some (.long v8), none, some (.int v10)], [.int 1], (I, L, D, am_rf X))) 1 rfl ?_
    exact am_ret_i rfl rfl h
  · replace h := h.2 z
    refine am_wpb (c' := (91, [some (.ref 42), some (.int v1), none, none, some (.long v4), none, some (.long v6), none, some (.long v8), none, some (.int v10)], [.int v1, .ref 52, .ref 42], (I, L, D, am_rf X))) 4 rfl ?_
    obtain ⟨o, h⟩ := h
    refine am_wps (c' := (92, [some (.ref 42), some (.int v1), none, none, some (.long v4), none, some (.long v6), none, some (.long v8), none, some (.int v10)], [.int (I 52 (Int32.toNatClampNeg v1)), .ref 42], (I, L, D, am_rf X))) rfl rfl (am_s_iald rfl o) ?_
    refine am_wpb (c' := (112, [some (.ref 42), some (.int v1), none, none, some (.long v4), none, some (.long v6), none, some (.long v8), none, some (.int v10)], [.long (v4 + (4096 * (Int32.toInt64 v10))), .long (v4 + (4096 * (Int32.toInt64 v10))), .int (I 52 (Int32.toNatClampNeg v1)), .ref 42], (I, L, D, am_rf X))) 12 rfl ?_
    obtain ⟨I1, L1, D1, hr, h⟩ := h
    refine am_wp_inv (as := [.ref 42, .int (I 52 (Int32.toNatClampNeg v1)), .long (v4 + (4096 * (Int32.toInt64 v10))), .long (v4 + (4096 * (Int32.toInt64 v10)))]) rfl rfl rfl rfl ⟨_, hr, ?_⟩
    show am_wp ext d mz_185 (115, [some (.ref 42), some (.int v1), none, none, some (.long v4), none, some (.long v6), none, some (.long v8), none, some (.int v10)], [], (I1, L1, D1, am_rf X)) P
    refine am_wpb (c' := (119, [some (.ref 42), some (.int v1), none, none, some (.long v4), none, some (.long v6), none, some (.long v8), none, some (.int v10)], [.int (I1 42 50)], (I1, L1, D1, am_rf X))) 2 rfl ?_
    refine am_b1_eq rfl (fun z => ?_) (fun z => ?_)
    · replace h := h.1 z
      refine am_wpb (c' := (78, [some (.ref 42), some (.int v1), none, none, some (.long v4), none, some (.long v6), none, some (.long v8), none, some (.int (v10 + 1))], [], (I1, L1, D1, am_rf X))) 2 rfl ?_
      exact h
    · replace h := h.2 z
      refine am_wpb (c' := (128, [some (.ref 42), some (.int v1), none, none, some (.long v4), none, some (.long v6), none, some (.long v8), none, some (.int v10)], [.long v6, .long (L1 42 51)], (I1, L1, D1, am_rf X))) 3 rfl ?_
      refine am_lc_lt rfl rfl (fun z => ?_) (fun z => ?_)
      · replace h := h.1 z
        refine am_wpb (c' := (78, [some (.ref 42), some (.int v1), none, none, some (.long v4), none, some (.long v6), none, some (.long v8), none, some (.int (v10 + 1))], [], (I1, L1, D1, am_rf X))) 2 rfl ?_
        exact h
      · replace h := h.2 z
        refine am_wpb (c' := (138, [some (.ref 42), some (.int v1), none, none, some (.long v4), none, some (.long v6), none, some (.long v8), none, some (.int v10)], [.long v8, .long (L1 42 52)], (I1, L1, D1, am_rf X))) 3 rfl ?_
        refine am_lc_gt rfl rfl (fun z => ?_) (fun z => ?_)
        · replace h := h.1 z
          refine am_wpb (c' := (78, [some (.ref 42), some (.int v1), none, none, some (.long v4), none, some (.long v6), none, some (.long v8), none, some (.int (v10 + 1))], [], (I1, L1, D1, am_rf X))) 2 rfl ?_
          exact h
        · replace h := h.2 z
          refine am_wpb (c' := (143, [some (.ref 42), some (.int v1), none, none, some (.long v4), none, some (.long v6), none, some (.long v8), none, some (.int v10)], [.int 2], (I1, L1, D1, am_rf X))) 1 rfl ?_
          exact am_ret_i rfl rfl h
/-- SureSumsModel.dot(III)I -/
def mz_186 : am_Y := (fun pc => am_q186.lookup pc, 4, 1)
theorem mh_186 : am_Ys 186 = some mz_186 := rfl
theorem w186_0 {ext : Nat → List Value → am_M → Option am_R} {d : Nat} {P : am_R → Prop} (I : Nat → Nat → Int32) (L : Nat → Nat → Int64) (D : Nat → Nat → UInt64) (X : am_Rf) (v1 : Int32) (v2 : Int32) (v3 : Int32)
    (h : ∃ (r1 : Int32) (I1 : Nat → Nat → Int32) (L1 : Nat → Nat → Int64) (D1 : Nat → Nat → UInt64), am_Rn ext d 149 [.ref 42, .int v1] (am_uI I 42 2 0, L, D, am_rf X) (some (.int r1), (I1, L1, D1, am_rf X)) ∧ (((r1 = 0 → (P (some (.int (-1)), (I1, L1, D1, am_rf X)))) ∧ (¬ r1 = 0 → (∃ (r2 : Int32) (I2 : Nat → Nat → Int32) (L2 : Nat → Nat → Int64) (D2 : Nat → Nat → UInt64), am_Rn ext d 117 [.int v2, .int (-64), .int 63] (I1, L1, D1, am_rf X) (some (.int r2), (I2, L2, D2, am_rf X)) ∧ (((r2 = 0 → (P (some (.int (-1)), (I2, L2, D2, am_rf X)))) ∧ (¬ r2 = 0 → (∃ (r3 : Int32) (I3 : Nat → Nat → Int32) (L3 : Nat → Nat → Int64) (D3 : Nat → Nat → UInt64), am_Rn ext d 117 [.int v3, .int (-64), .int 63] (I2, L2, D2, am_rf X) (some (.int r3), (I3, L3, D3, am_rf X)) ∧ (((r3 = 0 → (P (some (.int (-1)), (I3, L3, D3, am_rf X)))) ∧ (¬ r3 = 0 → (∃ (r4 : Int32) (I4 : Nat → Nat → Int32) (L4 : Nat → Nat → Int64) (D4 : Nat → Nat → UInt64), am_Rn ext d 185 [.ref 42, .int v1, .int v2, .int v3] (I3, L3, D3, am_rf X) (some (.int r4), (I4, L4, D4, am_rf X)) ∧ (P (some (.int r4), (I4, L4, D4, am_rf X)))))))))))))))) : am_wp ext d mz_186 (0, [some (.ref 42), some (.int v1), some (.int v2), some (.int v3)], [], (I, L, D, am_rf X)) P := by
  refine am_wpb (c' := (7, [some (.ref 42), some (.int v1), some (.int v2), some (.int v3)], [.int v1, .ref 42], (am_uI I 42 2 0, L, D, am_rf X))) 5 rfl ?_
  obtain ⟨r1, I1, L1, D1, hr, h⟩ := h
  refine am_wp_inv (as := [.ref 42, .int v1]) rfl rfl rfl rfl ⟨_, hr, ?_⟩
  show am_wp ext d mz_186 (10, [some (.ref 42), some (.int v1), some (.int v2), some (.int v3)], [.int r1], (I1, L1, D1, am_rf X)) P
  refine am_b1_eq rfl (fun z => ?_) (fun z => ?_)
  · replace h := h.1 z
    refine am_wpb (c' := (46, [some (.ref 42), some (.int v1), some (.int v2), some (.int v3)], [.int (-1)], (I1, L1, D1, am_rf X))) 1 rfl ?_
    exact am_ret_i rfl rfl h
  · replace h := h.2 z
    refine am_wpb (c' := (18, [some (.ref 42), some (.int v1), some (.int v2), some (.int v3)], [.int 63, .int (-64), .int v2], (I1, L1, D1, am_rf X))) 3 rfl ?_
    obtain ⟨r2, I2, L2, D2, hr, h⟩ := h
    refine am_wp_inv (as := [.int v2, .int (-64), .int 63]) rfl rfl rfl rfl ⟨_, hr, ?_⟩
    show am_wp ext d mz_186 (21, [some (.ref 42), some (.int v1), some (.int v2), some (.int v3)], [.int r2], (I2, L2, D2, am_rf X)) P
    refine am_b1_eq rfl (fun z => ?_) (fun z => ?_)
    · replace h := h.1 z
      refine am_wpb (c' := (46, [some (.ref 42), some (.int v1), some (.int v2), some (.int v3)], [.int (-1)], (I2, L2, D2, am_rf X))) 1 rfl ?_
      exact am_ret_i rfl rfl h
    · replace h := h.2 z
      refine am_wpb (c' := (29, [some (.ref 42), some (.int v1), some (.int v2), some (.int v3)], [.int 63, .int (-64), .int v3], (I2, L2, D2, am_rf X))) 3 rfl ?_
      obtain ⟨r3, I3, L3, D3, hr, h⟩ := h
      refine am_wp_inv (as := [.int v3, .int (-64), .int 63]) rfl rfl rfl rfl ⟨_, hr, ?_⟩
      show am_wp ext d mz_186 (32, [some (.ref 42), some (.int v1), some (.int v2), some (.int v3)], [.int r3], (I3, L3, D3, am_rf X)) P
      refine am_b1_eq rfl (fun z => ?_) (fun z => ?_)
      · replace h := h.1 z
        refine am_wpb (c' := (46, [some (.ref 42), some (.int v1), some (.int v2), some (.int v3)], [.int (-1)], (I3, L3, D3, am_rf X))) 1 rfl ?_
        exact am_ret_i rfl rfl h
      · replace h := h.2 z
        refine am_wpb (c' := (39, [some (.ref 42), some (.int v1), some (.int v2), some (.int v3)], [.int v3, .int v2, .int v1, .ref 42], (I3, L3, D3, am_rf X))) 4 rfl ?_
        obtain ⟨r4, I4, L4, D4, hr, h⟩ := h
        refine am_wp_inv (as := [.ref 42, .int v1, .int v2, .int v3]) rfl rfl rfl rfl ⟨_, hr, ?_⟩
        show am_wp ext d mz_186 (42, [some (.ref 42), some (.int v1), some (.int v2), some (.int v3)], [.int r4], (I4, L4, D4, am_rf X)) P
        refine am_wpb (c' := (46, [some (.ref 42), some (.int v1), some (.int v2), some (.int v3)], [.int r4], (I4, L4, D4, am_rf X))) 1 rfl ?_
        exact am_ret_i rfl rfl h
/-- SureSumsModel.dots(IIIII)I -/
def mz_187 : am_Y := (fun pc => am_q187.lookup pc, 9, 1)
theorem mh_187 : am_Ys 187 = some mz_187 := rfl
theorem w187_0 {ext : Nat → List Value → am_M → Option am_R} {d : Nat} {P : am_R → Prop} (I : Nat → Nat → Int32) (L : Nat → Nat → Int64) (D : Nat → Nat → UInt64) (X : am_Rf) (v1 : Int32) (v2 : Int32) (v3 : Int32) (v4 : Int32) (v5 : Int32)
    (h : ∃ (r1 : Int32) (I1 : Nat → Nat → Int32) (L1 : Nat → Nat → Int64) (D1 : Nat → Nat → UInt64), am_Rn ext d 149 [.ref 42, .int v1] (am_uI I 42 2 0, L, D, am_rf X) (some (.int r1), (I1, L1, D1, am_rf X)) ∧ (((r1 = 0 → (P (some (.int (-1)), (I1, L1, D1, am_rf X)))) ∧ (¬ r1 = 0 → (∃ (r2 : Int32) (I2 : Nat → Nat → Int32) (L2 : Nat → Nat → Int64) (D2 : Nat → Nat → UInt64), am_Rn ext d 117 [.int v2, .int (-64), .int 63] (I1, L1, D1, am_rf X) (some (.int r2), (I2, L2, D2, am_rf X)) ∧ (((r2 = 0 → (P (some (.int (-1)), (I2, L2, D2, am_rf X)))) ∧ (¬ r2 = 0 → (∃ (r3 : Int32) (I3 : Nat → Nat → Int32) (L3 : Nat → Nat → Int64) (D3 : Nat → Nat → UInt64), am_Rn ext d 117 [.int v4, .int 1, .int 16] (I2, L2, D2, am_rf X) (some (.int r3), (I3, L3, D3, am_rf X)) ∧ (((r3 = 0 → (P (some (.int (-1)), (I3, L3, D3, am_rf X)))) ∧ (¬ r3 = 0 → (∃ (r4 : Int32) (I4 : Nat → Nat → Int32) (L4 : Nat → Nat → Int64) (D4 : Nat → Nat → UInt64), am_Rn ext d 117 [.int v3, .int (-64), .int 63] (I3, L3, D3, am_rf X) (some (.int r4), (I4, L4, D4, am_rf X)) ∧ (((r4 = 0 → (P (some (.int (-1)), (I4, L4, D4, am_rf X)))) ∧ (¬ r4 = 0 → (∃ (r5 : Int32) (I5 : Nat → Nat → Int32) (L5 : Nat → Nat → Int64) (D5 : Nat → Nat → UInt64), am_Rn ext d 117 [.int v5, .int 0, .int 2] (I4, L4, D4, am_rf X) (some (.int r5), (I5, L5, D5, am_rf X)) ∧ (((¬ r5 = 0 → (am_wp ext d mz_187 (64, [some (.ref 42), some (.int v1), some (.int v2), some (.int v3), some (.int v4), some (.int v5), some (.int 0), some (.int 0), none], [], (I5, L5, D5, am_rf X)) P)) ∧ (r5 = 0 → (P (some (.int (-1)), (I5, L5, D5, am_rf X))))))))))))))))))))))) : am_wp ext d mz_187 (0, [some (.ref 42), some (.int v1), some (.int v2), some (.int v3), some (.int v4), some (.int v5), none, none, none], [], (I, L, D, am_rf X)) P := by
  refine am_wpb (c' := (7, [some (.ref 42), some (.int v1), some (.int v2), some (.int v3), some (.int v4), some (.int v5), none, none, none], [.int v1, .ref 42], (am_uI I 42 2 0, L, D, am_rf X))) 5 rfl ?_
  obtain ⟨r1, I1, L1, D1, hr, h⟩ := h
  refine am_wp_inv (as := [.ref 42, .int v1]) rfl rfl rfl rfl ⟨_, hr, ?_⟩
  show am_wp ext d mz_187 (10, [some (.ref 42), some (.int v1), some (.int v2), some (.int v3), some (.int v4), some (.int v5), none, none, none], [.int r1], (I1, L1, D1, am_rf X)) P
  refine am_b1_eq rfl (fun z => ?_) (fun z => ?_)
  · replace h := h.1 z
    refine am_wpb (c' := (57, [some (.ref 42), some (.int v1), some (.int v2), some (.int v3), some (.int v4), some (.int v5), none, none, none], [.int (-1)], (I1, L1, D1, am_rf X))) 1 rfl ?_
    exact am_ret_i rfl rfl h
  · replace h := h.2 z
    refine am_wpb (c' := (18, [some (.ref 42), some (.int v1), some (.int v2), some (.int v3), some (.int v4), some (.int v5), none, none, none], [.int 63, .int (-64), .int v2], (I1, L1, D1, am_rf X))) 3 rfl ?_
    obtain ⟨r2, I2, L2, D2, hr, h⟩ := h
    refine am_wp_inv (as := [.int v2, .int (-64), .int 63]) rfl rfl rfl rfl ⟨_, hr, ?_⟩
    show am_wp ext d mz_187 (21, [some (.ref 42), some (.int v1), some (.int v2), some (.int v3), some (.int v4), some (.int v5), none, none, none], [.int r2], (I2, L2, D2, am_rf X)) P
    refine am_b1_eq rfl (fun z => ?_) (fun z => ?_)
    · replace h := h.1 z
      refine am_wpb (c' := (57, [some (.ref 42), some (.int v1), some (.int v2), some (.int v3), some (.int v4), some (.int v5), none, none, none], [.int (-1)], (I2, L2, D2, am_rf X))) 1 rfl ?_
      exact am_ret_i rfl rfl h
    · replace h := h.2 z
      refine am_wpb (c' := (29, [some (.ref 42), some (.int v1), some (.int v2), some (.int v3), some (.int v4), some (.int v5), none, none, none], [.int 16, .int 1, .int v4], (I2, L2, D2, am_rf X))) 3 rfl ?_
      obtain ⟨r3, I3, L3, D3, hr, h⟩ := h
      refine am_wp_inv (as := [.int v4, .int 1, .int 16]) rfl rfl rfl rfl ⟨_, hr, ?_⟩
      show am_wp ext d mz_187 (32, [some (.ref 42), some (.int v1), some (.int v2), some (.int v3), some (.int v4), some (.int v5), none, none, none], [.int r3], (I3, L3, D3, am_rf X)) P
      refine am_b1_eq rfl (fun z => ?_) (fun z => ?_)
      · replace h := h.1 z
        refine am_wpb (c' := (57, [some (.ref 42), some (.int v1), some (.int v2), some (.int v3), some (.int v4), some (.int v5), none, none, none], [.int (-1)], (I3, L3, D3, am_rf X))) 1 rfl ?_
        exact am_ret_i rfl rfl h
      · replace h := h.2 z
        refine am_wpb (c' := (40, [some (.ref 42), some (.int v1), some (.int v2), some (.int v3), some (.int v4), some (.int v5), none, none, none], [.int 63, .int (-64), .int v3], (I3, L3, D3, am_rf X))) 3 rfl ?_
        obtain ⟨r4, I4, L4, D4, hr, h⟩ := h
        refine am_wp_inv (as := [.int v3, .int (-64), .int 63]) rfl rfl rfl rfl ⟨_, hr, ?_⟩
        show am_wp ext d mz_187 (43, [some (.ref 42), some (.int v1), some (.int v2), some (.int v3), some (.int v4), some (.int v5), none, none, none], [.int r4], (I4, L4, D4, am_rf X)) P
        refine am_b1_eq rfl (fun z => ?_) (fun z => ?_)
        · replace h := h.1 z
          refine am_wpb (c' := (57, [some (.ref 42), some (.int v1), some (.int v2), some (.int v3), some (.int v4), some (.int v5), none, none, none], [.int (-1)], (I4, L4, D4, am_rf X))) 1 rfl ?_
          exact am_ret_i rfl rfl h
        · replace h := h.2 z
          refine am_wpb (c' := (50, [some (.ref 42), some (.int v1), some (.int v2), some (.int v3), some (.int v4), some (.int v5), none, none, none], [.int 2, .int 0, .int v5], (I4, L4, D4, am_rf X))) 3 rfl ?_
          obtain ⟨r5, I5, L5, D5, hr, h⟩ := h
          refine am_wp_inv (as := [.int v5, .int 0, .int 2]) rfl rfl rfl rfl ⟨_, hr, ?_⟩
          show am_wp ext d mz_187 (53, [some (.ref 42), some (.int v1), some (.int v2), some (.int v3), some (.int v4), some (.int v5), none, none, none], [.int r5], (I5, L5, D5, am_rf X)) P
          refine am_b1_ne rfl (fun z => ?_) (fun z => ?_)
          · replace h := h.1 z
            refine am_wpb (c' := (64, [some (.ref 42), some (.int v1), some (.int v2), some (.int v3), some (.int v4), some (.int v5), some (.int 0), some (.int 0), none], [], (I5, L5, D5, am_rf X))) 4 rfl ?_
            exact h
          · replace h := h.2 z
            refine am_wpb (c' := (57, [some (.ref 42), some (.int v1), some (.int v2), some (.int v3), some (.int v4), some (.int v5), none, none, none], [.int (-1)], (I5, L5, D5, am_rf X))) 1 rfl ?_
            exact am_ret_i rfl rfl h
theorem w187_64 {ext : Nat → List Value → am_M → Option am_R} {d : Nat} {P : am_R → Prop} (I : Nat → Nat → Int32) (L : Nat → Nat → Int64) (D : Nat → Nat → UInt64) (X : am_Rf) (v1 : Int32) (v2 : Int32) (v3 : Int32) (v4 : Int32) (v5 : Int32) (v6 : Int32) (v7 : Int32)
    (h : ((16 ≤ v7 → (P (some (.int v6), (I, L, D, am_rf X)))) ∧ (¬ 16 ≤ v7 → (((64 ≤ (v2 + v7) → (P (some (.int v6), (I, L, D, am_rf X)))) ∧ (¬ 64 ≤ (v2 + v7) → (am_wp ext d mz_187 (83, [some (.ref 42), some (.int v1), some (.int v2), some (.int v3), some (.int v4), some (.int v5), some (.int v6), some (.int v7), some (.int 0)], [], (I, L, D, am_rf X)) P))))))) : am_wp ext d mz_187 (64, [some (.ref 42), some (.int v1), some (.int v2), some (.int v3), some (.int v4), some (.int v5), some (.int v6), some (.int v7), none], [], (I, L, D, am_rf X)) P := by
  refine am_wpb (c' := (68, [some (.ref 42), some (.int v1), some (.int v2), some (.int v3), some (.int v4), some (.int v5), some (.int v6), some (.int v7), none], [.int 16, .int v7], (I, L, D, am_rf X))) 2 rfl ?_
  refine am_b2_ge rfl (fun z => ?_) (fun z => ?_)
  · replace h := h.1 z
    refine am_wpb (c' := (141, [some (.ref 42), some (.int v1), some (.int v2), some (.int v3), some (.int v4), some (.int v5), some (.int v6), some (.int v7), none], [.int v6], (I, L, D, am_rf X))) 1 rfl ?_
    exact am_ret_i rfl rfl h
  · replace h := h.2 z
    refine am_wpb (c' := (77, [some (.ref 42), some (.int v1), some (.int v2), some (.int v3), some (.int v4), some (.int v5), some (.int v6), some (.int v7), none], [.int 64, .int (v2 + v7)], (I, L, D, am_rf X))) 4 rfl ?_
    refine am_b2_ge rfl (fun z => ?_) (fun z => ?_)
    · replace h := h.1 z
      refine am_wpb (c' := (141, [some (.ref 42), some (.int v1), some (.int v2), some (.int v3), some (.int v4), some (.int v5), some (.int v6), some (.int v7), none], [.int v6], (I, L, D, am_rf X))) 1 rfl ?_
      exact am_ret_i rfl rfl h
    · replace h := h.2 z
      refine am_wpb (c' := (83, [some (.ref 42), some (.int v1), some (.int v2), some (.int v3), some (.int v4), some (.int v5), some (.int v6), some (.int v7), some (.int 0)], [], (I, L, D, am_rf X))) 2 rfl ?_
      exact h
theorem w187_83 {ext : Nat → List Value → am_M → Option am_R} {d : Nat} {P : am_R → Prop} (I : Nat → Nat → Int32) (L : Nat → Nat → Int64) (D : Nat → Nat → UInt64) (X : am_Rf) (v1 : Int32) (v2 : Int32) (v3 : Int32) (v4 : Int32) (v5 : Int32) (v6 : Int32) (v7 : Int32) (v8 : Int32)
    (h : ((v4 ≤ v8 → (am_wp ext d mz_187 (64, [some (.ref 42), some (.int v1), some (.int v2), some (.int v3), some (.int v4), some (.int v5), some (.int v6), some (.int (v7 + 1)), none], [], (I, L, D, am_rf X)) P)) ∧ (¬ v4 ≤ v8 → (((64 ≤ (v3 + v8) → (am_wp ext d mz_187 (64, [some (.ref 42), some (.int v1), some (.int v2), some (.int v3), some (.int v4), some (.int v5), some (.int v6), some (.int (v7 + 1)), none], [], (I, L, D, am_rf X)) P)) ∧ (¬ 64 ≤ (v3 + v8) → (∃ (r1 : Int32) (I1 : Nat → Nat → Int32) (L1 : Nat → Nat → Int64) (D1 : Nat → Nat → UInt64), am_Rn ext d 185 [.ref 42, .int v1, .int (v2 + v7), .int (v3 + v8)] (I, L, D, am_rf X) (some (.int r1), (I1, L1, D1, am_rf X)) ∧ (((¬ r1 = v5 → (am_wp ext d mz_187 (83, [some (.ref 42), some (.int v1), some (.int v2), some (.int v3), some (.int v4), some (.int v5), some (.int (v6 + 0)), some (.int v7), some (.int (v8 + 1))], [], (I1, L1, D1, am_rf X)) P)) ∧ (r1 = v5 → (am_wp ext d mz_187 (83, [some (.ref 42), some (.int v1), some (.int v2), some (.int v3), some (.int v4), some (.int v5), some (.int (v6 + 1)), some (.int v7), some (.int (v8 + 1))], [], (I1, L1, D1, am_rf X)) P))))))))))) : am_wp ext d mz_187 (83, [some (.ref 42), some (.int v1), some (.int v2), some (.int v3), some (.int v4), some (.int v5), some (.int v6), some (.int v7), some (.int v8)], [], (I, L, D, am_rf X)) P := by
  refine am_wpb (c' := (87, [some (.ref 42), some (.int v1), some (.int v2), some (.int v3), some (.int v4), some (.int v5), some (.int v6), some (.int v7), some (.int v8)], [.int v4, .int v8], (I, L, D, am_rf X))) 2 rfl ?_
  refine am_b2_ge rfl (fun z => ?_) (fun z => ?_)
  · replace h := h.1 z
    refine am_wpb (c' := (64, [some (.ref 42), some (.int v1), some (.int v2), some (.int v3), some (.int v4), some (.int v5), some (.int v6), some (.int (v7 + 1)), some (.int v8)], [], (I, L, D, am_rf X))) 2 rfl ?_
    exact am_fgt (l := [some (.ref 42), some (.int v1), some (.int v2), some (.int v3), some (.int v4), some (.int v5), some (.int v6), some (.int (v7 + 1)), none]) (am_le_of (am_leS (am_leS (am_leS (am_leS (am_leS (am_leS (am_leS (am_leS (am_leN (am_leZ))))))))))) h
  · replace h := h.2 z
    refine am_wpb (c' := (96, [some (.ref 42), some (.int v1), some (.int v2), some (.int v3), some (.int v4), some (.int v5), some (.int v6), some (.int v7), some (.int v8)], [.int 64, .int (v3 + v8)], (I, L, D, am_rf X))) 4 rfl ?_
    refine am_b2_ge rfl (fun z => ?_) (fun z => ?_)
    · replace h := h.1 z
      refine am_wpb (c' := (64, [some (.ref 42), some (.int v1), some (.int v2), some (.int v3), some (.int v4), some (.int v5), some (.int v6), some (.int (v7 + 1)), some (.int v8)], [], (I, L, D, am_rf X))) 2 rfl ?_
      exact am_fgt (l := [some (.ref 42), some (.int v1), some (.int v2), some (.int v3), some (.int v4), some (.int v5), some (.int v6), some (.int (v7 + 1)), none]) (am_le_of (am_leS (am_leS (am_leS (am_leS (am_leS (am_leS (am_leS (am_leS (am_leN (am_leZ))))))))))) h
    · replace h := h.2 z
      refine am_wpb (c' := (111, [some (.ref 42), some (.int v1), some (.int v2), some (.int v3), some (.int v4), some (.int v5), some (.int v6), some (.int v7), some (.int v8)], [.int (v3 + v8), .int (v2 + v7), .int v1, .ref 42, .int v6], (I, L, D, am_rf X))) 9 rfl ?_
      obtain ⟨r1, I1, L1, D1, hr, h⟩ := h
      refine am_wp_inv (as := [.ref 42, .int v1, .int (v2 + v7), .int (v3 + v8)]) rfl rfl rfl rfl ⟨_, hr, ?_⟩
      show am_wp ext d mz_187 (114, [some (.ref 42), some (.int v1), some (.int v2), some (.int v3), some (.int v4), some (.int v5), some (.int v6), some (.int v7), some (.int v8)], [.int r1, .int v6], (I1, L1, D1, am_rf X)) P
      refine am_wpb (c' := (116, [some (.ref 42), some (.int v1), some (.int v2), some (.int v3), some (.int v4), some (.int v5), some (.int v6), some (.int v7), some (.int v8)], [.int v5, .int r1, .int v6], (I1, L1, D1, am_rf X))) 1 rfl ?_
      refine am_b2_ne rfl (fun z => ?_) (fun z => ?_)
      · replace h := h.1 z
        refine am_wpb (c' := (83, [some (.ref 42), some (.int v1), some (.int v2), some (.int v3), some (.int v4), some (.int v5), some (.int (v6 + 0)), some (.int v7), some (.int (v8 + 1))], [], (I1, L1, D1, am_rf X))) 5 rfl ?_
        exact h
      · replace h := h.2 z
        refine am_wpb (c' := (83, [some (.ref 42), some (.int v1), some (.int v2), some (.int v3), some (.int v4), some (.int v5), some (.int (v6 + 1)), some (.int v7), some (.int (v8 + 1))], [], (I1, L1, D1, am_rf X))) 6 rfl ?_
        exact h
/-- SureSumsModel.below(IDZ)V -/
def mz_188 : am_Y := (fun pc => am_q188.lookup pc, 5, 0)
theorem mh_188 : am_Ys 188 = some mz_188 := rfl
theorem w188_0 {ext : Nat → List Value → am_M → Option am_R} {d : Nat} {P : am_R → Prop} (I : Nat → Nat → Int32) (L : Nat → Nat → Int64) (D : Nat → Nat → UInt64) (X : am_Rf) (v1 : Int32) (v2 : UInt64) (v4 : Int32)
    (h : am_inb (I 42 47) 128 = true ∧ (am_inb (I 42 47) 128 = true ∧ (am_inb (I 42 47) 128 = true ∧ (am_inb (I 42 47) 128 = true ∧ ((v4 = 0 ∨ v4 = 1) ∧ (P (none, (am_uI (am_uI (am_uI (am_uI I 59 (Int32.toNatClampNeg (I 42 47)) v1) 60 (Int32.toNatClampNeg (I 42 47)) 0) 78 (Int32.toNatClampNeg (I 42 47)) v4) 42 47 ((I 42 47) + 1), L, am_uD D 77 (Int32.toNatClampNeg (I 42 47)) v2, am_rf X)))))))) : am_wp ext d mz_188 (0, [some (.ref 42), some (.int v1), some (.double v2), none, some (.int v4)], [], (I, L, D, am_rf X)) P := by
  refine am_wpb (c' := (9, [some (.ref 42), some (.int v1), some (.double v2), none, some (.int v4)], [.int v1, .int (I 42 47), .ref 59], (I, L, D, am_rf X))) 5 rfl ?_
  obtain ⟨o, h⟩ := h
  refine am_wps (c' := (10, [some (.ref 42), some (.int v1), some (.double v2), none, some (.int v4)], [], (am_uI I 59 (Int32.toNatClampNeg (I 42 47)) v1, L, D, am_rf X))) rfl rfl (am_s_iast rfl o) ?_
  refine am_wpb (c' := (19, [some (.ref 42), some (.int v1), some (.double v2), none, some (.int v4)], [.int 0, .int (I 42 47), .ref 60], (am_uI I 59 (Int32.toNatClampNeg (I 42 47)) v1, L, D, am_rf X))) 5 rfl ?_
  obtain ⟨o, h⟩ := h
  refine am_wps (c' := (20, [some (.ref 42), some (.int v1), some (.double v2), none, some (.int v4)], [], (am_uI (am_uI I 59 (Int32.toNatClampNeg (I 42 47)) v1) 60 (Int32.toNatClampNeg (I 42 47)) 0, L, D, am_rf X))) rfl rfl (am_s_iast rfl o) ?_
  refine am_wpb (c' := (29, [some (.ref 42), some (.int v1), some (.double v2), none, some (.int v4)], [.double v2, .int (I 42 47), .ref 77], (am_uI (am_uI I 59 (Int32.toNatClampNeg (I 42 47)) v1) 60 (Int32.toNatClampNeg (I 42 47)) 0, L, D, am_rf X))) 5 rfl ?_
  obtain ⟨o, h⟩ := h
  refine am_wps (c' := (30, [some (.ref 42), some (.int v1), some (.double v2), none, some (.int v4)], [], (am_uI (am_uI I 59 (Int32.toNatClampNeg (I 42 47)) v1) 60 (Int32.toNatClampNeg (I 42 47)) 0, L, am_uD D 77 (Int32.toNatClampNeg (I 42 47)) v2, am_rf X))) rfl rfl (am_s_dast rfl o) ?_
  refine am_wpb (c' := (40, [some (.ref 42), some (.int v1), some (.double v2), none, some (.int v4)], [.int v4, .int (I 42 47), .ref 78], (am_uI (am_uI I 59 (Int32.toNatClampNeg (I 42 47)) v1) 60 (Int32.toNatClampNeg (I 42 47)) 0, L, am_uD D 77 (Int32.toNatClampNeg (I 42 47)) v2, am_rf X))) 5 rfl ?_
  obtain ⟨o, h⟩ := h
  obtain ⟨o2, h⟩ := h
  refine am_wps (c' := (41, [some (.ref 42), some (.int v1), some (.double v2), none, some (.int v4)], [], (am_uI (am_uI (am_uI I 59 (Int32.toNatClampNeg (I 42 47)) v1) 60 (Int32.toNatClampNeg (I 42 47)) 0) 78 (Int32.toNatClampNeg (I 42 47)) v4, L, am_uD D 77 (Int32.toNatClampNeg (I 42 47)) v2, am_rf X))) rfl rfl (am_s_zast rfl o o2) ?_
  refine am_wpb (c' := (51, [some (.ref 42), some (.int v1), some (.double v2), none, some (.int v4)], [], (am_uI (am_uI (am_uI (am_uI I 59 (Int32.toNatClampNeg (I 42 47)) v1) 60 (Int32.toNatClampNeg (I 42 47)) 0) 78 (Int32.toNatClampNeg (I 42 47)) v4) 42 47 ((I 42 47) + 1), L, am_uD D 77 (Int32.toNatClampNeg (I 42 47)) v2, am_rf X))) 6 rfl ?_
  exact am_ret_v rfl rfl h
/-- SureSumsModel.part(II)V -/
def mz_189 : am_Y := (fun pc => am_q189.lookup pc, 3, 0)
theorem mh_189 : am_Ys 189 = some mz_189 := rfl
theorem w189_0 {ext : Nat → List Value → am_M → Option am_R} {d : Nat} {P : am_R → Prop} (I : Nat → Nat → Int32) (L : Nat → Nat → Int64) (D : Nat → Nat → UInt64) (X : am_Rf) (v1 : Int32) (v2 : Int32)
    (h : am_inb v2 128 = true ∧ (am_inb v2 128 = true ∧ (∃ (I1 : Nat → Nat → Int32) (L1 : Nat → Nat → Int64) (D1 : Nat → Nat → UInt64), am_Rn ext d 188 [.ref 42, .int v1, .double (D 77 (Int32.toNatClampNeg v2)), .int (I 78 (Int32.toNatClampNeg v2))] (I, L, D, am_rf X) (none, (I1, L1, D1, am_rf X)) ∧ (P (none, (I1, L1, D1, am_rf X)))))) : am_wp ext d mz_189 (0, [some (.ref 42), some (.int v1), some (.int v2)], [], (I, L, D, am_rf X)) P := by
  refine am_wpb (c' := (7, [some (.ref 42), some (.int v1), some (.int v2)], [.int v2, .ref 77, .int v1, .ref 42], (I, L, D, am_rf X))) 5 rfl ?_
  obtain ⟨o, h⟩ := h
  refine am_wps (c' := (8, [some (.ref 42), some (.int v1), some (.int v2)], [.double (D 77 (Int32.toNatClampNeg v2)), .int v1, .ref 42], (I, L, D, am_rf X))) rfl rfl (am_s_dald rfl o) ?_
  refine am_wpb (c' := (13, [some (.ref 42), some (.int v1), some (.int v2)], [.int v2, .ref 78, .double (D 77 (Int32.toNatClampNeg v2)), .int v1, .ref 42], (I, L, D, am_rf X))) 3 rfl ?_
  obtain ⟨o, h⟩ := h
  refine am_wps (c' := (14, [some (.ref 42), some (.int v1), some (.int v2)], [.int (I 78 (Int32.toNatClampNeg v2)), .double (D 77 (Int32.toNatClampNeg v2)), .int v1, .ref 42], (I, L, D, am_rf X))) rfl rfl (am_s_zald rfl o) ?_
  obtain ⟨I1, L1, D1, hr, h⟩ := h
  refine am_wp_inv (as := [.ref 42, .int v1, .double (D 77 (Int32.toNatClampNeg v2)), .int (I 78 (Int32.toNatClampNeg v2))]) rfl rfl rfl rfl ⟨_, hr, ?_⟩
  show am_wp ext d mz_189 (17, [some (.ref 42), some (.int v1), some (.int v2)], [], (I1, L1, D1, am_rf X)) P
  exact am_ret_v rfl rfl h
/-- SureSumsModel.yields(DZ)V -/
def mz_190 : am_Y := (fun pc => am_q190.lookup pc, 4, 0)
theorem mh_190 : am_Ys 190 = some mz_190 := rfl
theorem w190_0 {ext : Nat → List Value → am_M → Option am_R} {d : Nat} {P : am_R → Prop} (I : Nat → Nat → Int32) (L : Nat → Nat → Int64) (D : Nat → Nat → UInt64) (X : am_Rf) (v1 : UInt64) (v3 : Int32)
    (h : ((v3 = 0 → ((v3 = 0 ∨ v3 = 1) ∧ (P (none, (am_uI (am_uI I 42 68 v3) 42 47 ((I 42 47) - 1), L, am_uD D 42 67 v1, am_rf X))))) ∧ (¬ v3 = 0 → ((v3 = 0 ∨ v3 = 1) ∧ (P (none, (am_uI (am_uI I 42 68 v3) 42 47 ((I 42 47) - 1), L, am_uD D 42 67 FP.dconst0, am_rf X))))))) : am_wp ext d mz_190 (0, [some (.ref 42), some (.double v1), none, some (.int v3)], [], (I, L, D, am_rf X)) P := by
  refine am_wpb (c' := (2, [some (.ref 42), some (.double v1), none, some (.int v3)], [.int v3, .ref 42], (I, L, D, am_rf X))) 2 rfl ?_
  refine am_b1_eq rfl (fun z => ?_) (fun z => ?_)
  · replace h := h.1 z
    refine am_wpb (c' := (15, [some (.ref 42), some (.double v1), none, some (.int v3)], [.int v3, .ref 42], (I, L, am_uD D 42 67 v1, am_rf X))) 4 rfl ?_
    obtain ⟨o, h⟩ := h
    refine am_wps (c' := (18, [some (.ref 42), some (.double v1), none, some (.int v3)], [], (am_uI I 42 68 v3, L, am_uD D 42 67 v1, am_rf X))) rfl rfl (am_s_zput rfl rfl o) ?_
    refine am_wpb (c' := (28, [some (.ref 42), some (.double v1), none, some (.int v3)], [], (am_uI (am_uI I 42 68 v3) 42 47 ((I 42 47) - 1), L, am_uD D 42 67 v1, am_rf X))) 6 rfl ?_
    exact am_ret_v rfl rfl h
  · replace h := h.2 z
    refine am_wpb (c' := (15, [some (.ref 42), some (.double v1), none, some (.int v3)], [.int v3, .ref 42], (I, L, am_uD D 42 67 FP.dconst0, am_rf X))) 5 rfl ?_
    obtain ⟨o, h⟩ := h
    refine am_wps (c' := (18, [some (.ref 42), some (.double v1), none, some (.int v3)], [], (am_uI I 42 68 v3, L, am_uD D 42 67 FP.dconst0, am_rf X))) rfl rfl (am_s_zput rfl rfl o) ?_
    refine am_wpb (c' := (28, [some (.ref 42), some (.double v1), none, some (.int v3)], [], (am_uI (am_uI I 42 68 v3) 42 47 ((I 42 47) - 1), L, am_uD D 42 67 FP.dconst0, am_rf X))) 6 rfl ?_
    exact am_ret_v rfl rfl h
/-- SureSumsModel.makeMachine()V -/
def mz_191 : am_Y := (fun pc => am_q191.lookup pc, 2, 0)
theorem mh_191 : am_Ys 191 = some mz_191 := rfl
theorem w191_0 {ext : Nat → List Value → am_M → Option am_R} {d : Nat} {P : am_R → Prop} (I : Nat → Nat → Int32) (L : Nat → Nat → Int64) (D : Nat → Nat → UInt64) (X : am_Rf)
    (h : (((I 42 60) = 0 → (am_wp ext d mz_191 (15, [some (.ref 42), some (.int 0)], [], (am_uI I 42 60 1, L, D, am_rf X)) P)) ∧ (¬ (I 42 60) = 0 → (P (none, (I, L, D, am_rf X)))))) : am_wp ext d mz_191 (0, [some (.ref 42), none], [], (I, L, D, am_rf X)) P := by
  refine am_wpb (c' := (4, [some (.ref 42), none], [.int (I 42 60)], (I, L, D, am_rf X))) 2 rfl ?_
  refine am_b1_eq rfl (fun z => ?_) (fun z => ?_)
  · replace h := h.1 z
    refine am_wpb (c' := (15, [some (.ref 42), some (.int 0)], [], (am_uI I 42 60 1, L, D, am_rf X))) 5 rfl ?_
    exact h
  · replace h := h.2 z
    exact am_ret_v rfl rfl h
theorem w191_15 {ext : Nat → List Value → am_M → Option am_R} {d : Nat} {P : am_R → Prop} (I : Nat → Nat → Int32) (L : Nat → Nat → Int64) (D : Nat → Nat → UInt64) (X : am_Rf) (v1 : Int32)
    (h : (((I 42 24) ≤ v1 → (P (none, (I, L, D, am_rf X)))) ∧ (¬ (I 42 24) ≤ v1 → (am_inb v1 12 = true ∧ (am_inb (I 53 (Int32.toNatClampNeg v1)) 52 = true ∧ (∃ (I1 : Nat → Nat → Int32) (L1 : Nat → Nat → Int64) (D1 : Nat → Nat → UInt64), am_Rn ext d 188 [.ref 42, .int (I 52 (Int32.toNatClampNeg (I 53 (Int32.toNatClampNeg v1)))), .double FP.dconst0, .int 0] (am_uI I 42 47 0, L, D, am_rf X) (none, (I1, L1, D1, am_rf X)) ∧ (am_wp ext d mz_191 (45, [some (.ref 42), some (.int v1)], [], (I1, L1, D1, am_rf X)) P))))))) : am_wp ext d mz_191 (15, [some (.ref 42), some (.int v1)], [], (I, L, D, am_rf X)) P := by
  refine am_wpb (c' := (20, [some (.ref 42), some (.int v1)], [.int (I 42 24), .int v1], (I, L, D, am_rf X))) 3 rfl ?_
  refine am_b2_ge rfl (fun z => ?_) (fun z => ?_)
  · replace h := h.1 z
    exact am_ret_v rfl rfl h
  · replace h := h.2 z
    refine am_wpb (c' := (38, [some (.ref 42), some (.int v1)], [.int v1, .ref 53, .ref 52, .ref 42], (am_uI I 42 47 0, L, D, am_rf X))) 9 rfl ?_
    obtain ⟨o, h⟩ := h
    refine am_wps (c' := (39, [some (.ref 42), some (.int v1)], [.int (I 53 (Int32.toNatClampNeg v1)), .ref 52, .ref 42], (am_uI I 42 47 0, L, D, am_rf X))) rfl rfl (am_s_iald rfl o) ?_
    obtain ⟨o, h⟩ := h
    refine am_wps (c' := (40, [some (.ref 42), some (.int v1)], [.int (I 52 (Int32.toNatClampNeg (I 53 (Int32.toNatClampNeg v1)))), .ref 42], (am_uI I 42 47 0, L, D, am_rf X))) rfl rfl (am_s_iald rfl o) ?_
    refine am_wpb (c' := (42, [some (.ref 42), some (.int v1)], [.int 0, .double FP.dconst0, .int (I 52 (Int32.toNatClampNeg (I 53 (Int32.toNatClampNeg v1)))), .ref 42], (am_uI I 42 47 0, L, D, am_rf X))) 2 rfl ?_
    obtain ⟨I1, L1, D1, hr, h⟩ := h
    refine am_wp_inv (as := [.ref 42, .int (I 52 (Int32.toNatClampNeg (I 53 (Int32.toNatClampNeg v1)))), .double FP.dconst0, .int 0]) rfl rfl rfl rfl ⟨_, hr, ?_⟩
    show am_wp ext d mz_191 (45, [some (.ref 42), some (.int v1)], [], (I1, L1, D1, am_rf X)) P
    exact h
theorem w191_45 {ext : Nat → List Value → am_M → Option am_R} {d : Nat} {P : am_R → Prop} (I : Nat → Nat → Int32) (L : Nat → Nat → Int64) (D : Nat → Nat → UInt64) (X : am_Rf) (v1 : Int32)
    (h : (((I 42 47) ≤ 0 → (am_inb v1 12 = true ∧ (am_inb (I 53 (Int32.toNatClampNeg v1)) 26 = true ∧ (am_inb v1 12 = true ∧ (am_inb (I 53 (Int32.toNatClampNeg v1)) 26 = true ∧ (((I 42 68) = 0 ∨ (I 42 68) = 1) ∧ (am_wp ext d mz_191 (15, [some (.ref 42), some (.int (v1 + 1))], [], (am_uI I 76 (Int32.toNatClampNeg (I 53 (Int32.toNatClampNeg v1))) (I 42 68), L, am_uD D 75 (Int32.toNatClampNeg (I 53 (Int32.toNatClampNeg v1))) (D 42 67), am_rf X)) P))))))) ∧ (¬ (I 42 47) ≤ 0 → (∃ (I1 : Nat → Nat → Int32) (L1 : Nat → Nat → Int64) (D1 : Nat → Nat → UInt64), am_Rn ext d 192 [.ref 42, .int ((I 42 47) - 1)] (I, L, D, am_rf X) (none, (I1, L1, D1, am_rf X)) ∧ (am_wp ext d mz_191 (45, [some (.ref 42), some (.int v1)], [], (I1, L1, D1, am_rf X)) P))))) : am_wp ext d mz_191 (45, [some (.ref 42), some (.int v1)], [], (I, L, D, am_rf X)) P := by
  refine am_wpb (c' := (49, [some (.ref 42), some (.int v1)], [.int (I 42 47)], (I, L, D, am_rf X))) 2 rfl ?_
  refine am_b1_le rfl (fun z => ?_) (fun z => ?_)
  · replace h := h.1 z
    refine am_wpb (c' := (74, [some (.ref 42), some (.int v1)], [.int v1, .ref 53, .ref 75], (I, L, D, am_rf X))) 5 rfl ?_
    obtain ⟨o, h⟩ := h
    refine am_wps (c' := (75, [some (.ref 42), some (.int v1)], [.int (I 53 (Int32.toNatClampNeg v1)), .ref 75], (I, L, D, am_rf X))) rfl rfl (am_s_iald rfl o) ?_
    refine am_wpb (c' := (79, [some (.ref 42), some (.int v1)], [.double (D 42 67), .int (I 53 (Int32.toNatClampNeg v1)), .ref 75], (I, L, D, am_rf X))) 2 rfl ?_
    obtain ⟨o, h⟩ := h
    refine am_wps (c' := (80, [some (.ref 42), some (.int v1)], [], (I, L, am_uD D 75 (Int32.toNatClampNeg (I 53 (Int32.toNatClampNeg v1))) (D 42 67), am_rf X))) rfl rfl (am_s_dast rfl o) ?_
    refine am_wpb (c' := (89, [some (.ref 42), some (.int v1)], [.int v1, .ref 53, .ref 76], (I, L, am_uD D 75 (Int32.toNatClampNeg (I 53 (Int32.toNatClampNeg v1))) (D 42 67), am_rf X))) 5 rfl ?_
    obtain ⟨o, h⟩ := h
    refine am_wps (c' := (90, [some (.ref 42), some (.int v1)], [.int (I 53 (Int32.toNatClampNeg v1)), .ref 76], (I, L, am_uD D 75 (Int32.toNatClampNeg (I 53 (Int32.toNatClampNeg v1))) (D 42 67), am_rf X))) rfl rfl (am_s_iald rfl o) ?_
    refine am_wpb (c' := (94, [some (.ref 42), some (.int v1)], [.int (I 42 68), .int (I 53 (Int32.toNatClampNeg v1)), .ref 76], (I, L, am_uD D 75 (Int32.toNatClampNeg (I 53 (Int32.toNatClampNeg v1))) (D 42 67), am_rf X))) 2 rfl ?_
    obtain ⟨o, h⟩ := h
    obtain ⟨o2, h⟩ := h
    refine am_wps (c' := (95, [some (.ref 42), some (.int v1)], [], (am_uI I 76 (Int32.toNatClampNeg (I 53 (Int32.toNatClampNeg v1))) (I 42 68), L, am_uD D 75 (Int32.toNatClampNeg (I 53 (Int32.toNatClampNeg v1))) (D 42 67), am_rf X))) rfl rfl (am_s_zast rfl o o2) ?_
    refine am_wpb (c' := (15, [some (.ref 42), some (.int (v1 + 1))], [], (am_uI I 76 (Int32.toNatClampNeg (I 53 (Int32.toNatClampNeg v1))) (I 42 68), L, am_uD D 75 (Int32.toNatClampNeg (I 53 (Int32.toNatClampNeg v1))) (D 42 67), am_rf X))) 2 rfl ?_
    exact h
  · replace h := h.2 z
    refine am_wpb (c' := (59, [some (.ref 42), some (.int v1)], [.int ((I 42 47) - 1), .ref 42], (I, L, D, am_rf X))) 5 rfl ?_
    obtain ⟨I1, L1, D1, hr, h⟩ := h
    refine am_wp_inv (as := [.ref 42, .int ((I 42 47) - 1)]) rfl rfl rfl rfl ⟨_, hr, ?_⟩
    show am_wp ext d mz_191 (62, [some (.ref 42), some (.int v1)], [], (I1, L1, D1, am_rf X)) P
    refine am_wpb (c' := (45, [some (.ref 42), some (.int v1)], [], (I1, L1, D1, am_rf X))) 1 rfl ?_
    exact h
/-- SureSumsModel.reckons(I)V -/
def mz_192 : am_Y := (fun pc => am_q192.lookup pc, 6, 0)
theorem mh_192 : am_Ys 192 = some mz_192 := rfl
set_option maxRecDepth 100000 in
theorem w192_0 {ext : Nat → List Value → am_M → Option am_R} {d : Nat} {P : am_R → Prop} (I : Nat → Nat → Int32) (L : Nat → Nat → Int64) (D : Nat → Nat → UInt64) (X : am_Rf) (v1 : Int32)
    (h : am_inb v1 128 = true ∧ (am_inb v1 128 = true ∧ (am_inb v1 128 = true ∧ (am_inb v1 128 = true ∧ (am_inb (I 59 (Int32.toNatClampNeg v1)) 192 = true ∧ (((¬ (I 45 (Int32.toNatClampNeg (I 59 (Int32.toNatClampNeg v1)))) = 0 → (((¬ (I 45 (Int32.toNatClampNeg (I 59 (Int32.toNatClampNeg v1)))) = 1 → (((¬ (I 45 (Int32.toNatClampNeg (I 59 (Int32.toNatClampNeg v1)))) = 2 → (((¬ (I 45 (Int32.toNatClampNeg (I 59 (Int32.toNatClampNeg v1)))) = 15 → (((5 < (I 45 (Int32.toNatClampNeg (I 59 (Int32.toNatClampNeg v1)))) → (((¬ (I 45 (Int32.toNatClampNeg (I 59 (Int32.toNatClampNeg v1)))) = 14 → (((¬ (I 60 (Int32.toNatClampNeg v1)) = 0 → (((¬ (I 60 (Int32.toNatClampNeg v1)) = 1 → (((¬ (I 60 (Int32.toNatClampNeg v1)) = 2 → (am_wp ext d mz_192 (472, [some (.ref 42), some (.int v1), none, some (.int (I 60 (Int32.toNatClampNeg v1))), some (.int (I 45 (Int32.toNatClampNeg (I 59 (Int32.toNatClampNeg v1))))), none], [], (am_uI I 60 (Int32.toNatClampNeg v1) ((I 60 (Int32.toNatClampNeg v1)) + 1), L, D, am_rf X)) P)) ∧ ((I 60 (Int32.toNatClampNeg v1)) = 2 → ((((I 45 (Int32.toNatClampNeg (I 59 (Int32.toNatClampNeg v1)))) < 12 → (am_wp ext d mz_192 (472, [some (.ref 42), some (.int v1), none, some (.int (I 60 (Int32.toNatClampNeg v1))), some (.int (I 45 (Int32.toNatClampNeg (I 59 (Int32.toNatClampNeg v1))))), none], [], (am_uI I 60 (Int32.toNatClampNeg v1) ((I 60 (Int32.toNatClampNeg v1)) + 1), L, D, am_rf X)) P)) ∧ (¬ (I 45 (Int32.toNatClampNeg (I 59 (Int32.toNatClampNeg v1)))) < 12 → (((¬ (I 42 68) = 0 → (am_wp ext d mz_192 (441, [some (.ref 42), some (.int v1), some (.int (I 59 (Int32.toNatClampNeg v1))), none, none, none], [], (am_uI I 60 (Int32.toNatClampNeg v1) ((I 60 (Int32.toNatClampNeg v1)) + 1), L, D, am_rf X)) P)) ∧ ((I 42 68) = 0 → (am_inb v1 128 = true ∧ (((¬ (I 80 (Int32.toNatClampNeg v1)) = 0 → (am_wp ext d mz_192 (441, [some (.ref 42), some (.int v1), some (.int (I 59 (Int32.toNatClampNeg v1))), none, none, none], [], (am_uI I 60 (Int32.toNatClampNeg v1) ((I 60 (Int32.toNatClampNeg v1)) + 1), L, D, am_rf X)) P)) ∧ ((I 80 (Int32.toNatClampNeg v1)) = 0 → (((¬ (I 45 (Int32.toNatClampNeg (I 59 (Int32.toNatClampNeg v1)))) = 12 → (am_inb v1 128 = true ∧ (((0 ≤ (Op.cmpValue (FP.dcmp (D 42 67) (D 79 (Int32.toNatClampNeg v1))) .g) → (am_wp ext d mz_192 (441, [some (.ref 42), some (.int v1), some (.int (I 59 (Int32.toNatClampNeg v1))), none, none, none], [], (am_uI I 60 (Int32.toNatClampNeg v1) ((I 60 (Int32.toNatClampNeg v1)) + 1), L, D, am_rf X)) P)) ∧ (¬ 0 ≤ (Op.cmpValue (FP.dcmp (D 42 67) (D 79 (Int32.toNatClampNeg v1))) .g) → (am_wp ext d mz_192 (442, [some (.ref 42), some (.int v1), some (.int (I 59 (Int32.toNatClampNeg v1))), none, none, none], [.int 1], (am_uI I 60 (Int32.toNatClampNeg v1) ((I 60 (Int32.toNatClampNeg v1)) + 1), L, D, am_rf X)) P)))))) ∧ ((I 45 (Int32.toNatClampNeg (I 59 (Int32.toNatClampNeg v1)))) = 12 → (am_inb v1 128 = true ∧ (((0 ≤ (Op.cmpValue (FP.dcmp (D 79 (Int32.toNatClampNeg v1)) (D 42 67)) .g) → (am_wp ext d mz_192 (441, [some (.ref 42), some (.int v1), some (.int (I 59 (Int32.toNatClampNeg v1))), none, none, none], [], (am_uI I 60 (Int32.toNatClampNeg v1) ((I 60 (Int32.toNatClampNeg v1)) + 1), L, D, am_rf X)) P)) ∧ (¬ 0 ≤ (Op.cmpValue (FP.dcmp (D 79 (Int32.toNatClampNeg v1)) (D 42 67)) .g) → (am_wp ext d mz_192 (442, [some (.ref 42), some (.int v1), some (.int (I 59 (Int32.toNatClampNeg v1))), none, none, none], [.int 1], (am_uI I 60 (Int32.toNatClampNeg v1) ((I 60 (Int32.toNatClampNeg v1)) + 1), L, D, am_rf X)) P)))))))))))))))))))))) ∧ ((I 60 (Int32.toNatClampNeg v1)) = 1 → (am_inb v1 128 = true ∧ (am_inb v1 128 = true ∧ (((I 42 68) = 0 ∨ (I 42 68) = 1) ∧ (am_inb (I 59 (Int32.toNatClampNeg v1)) 192 = true ∧ (∃ (I1 : Nat → Nat → Int32) (L1 : Nat → Nat → Int64) (D1 : Nat → Nat → UInt64), am_Rn ext d 189 [.ref 42, .int (I 48 (Int32.toNatClampNeg (I 59 (Int32.toNatClampNeg v1)))), .int v1] (am_uI (am_uI I 60 (Int32.toNatClampNeg v1) ((I 60 (Int32.toNatClampNeg v1)) + 1)) 80 (Int32.toNatClampNeg v1) (I 42 68), L, am_uD D 79 (Int32.toNatClampNeg v1) (D 42 67), am_rf X) (none, (I1, L1, D1, am_rf X)) ∧ (P (none, (I1, L1, D1, am_rf X)))))))))))) ∧ ((I 60 (Int32.toNatClampNeg v1)) = 0 → (am_inb (I 59 (Int32.toNatClampNeg v1)) 192 = true ∧ (∃ (I2 : Nat → Nat → Int32) (L2 : Nat → Nat → Int64) (D2 : Nat → Nat → UInt64), am_Rn ext d 189 [.ref 42, .int (I 47 (Int32.toNatClampNeg (I 59 (Int32.toNatClampNeg v1)))), .int v1] (am_uI I 60 (Int32.toNatClampNeg v1) ((I 60 (Int32.toNatClampNeg v1)) + 1), L, D, am_rf X) (none, (I2, L2, D2, am_rf X)) ∧ (P (none, (I2, L2, D2, am_rf X))))))))) ∧ ((I 45 (Int32.toNatClampNeg (I 59 (Int32.toNatClampNeg v1)))) = 14 → (((¬ (I 60 (Int32.toNatClampNeg v1)) = 0 → (((¬ (I 60 (Int32.toNatClampNeg v1)) = 1 → (∃ (I3 : Nat → Nat → Int32) (L3 : Nat → Nat → Int64) (D3 : Nat → Nat → UInt64), am_Rn ext d 190 [.ref 42, .double (D 42 67), .int (I 42 68)] (am_uI I 60 (Int32.toNatClampNeg v1) ((I 60 (Int32.toNatClampNeg v1)) + 1), L, D, am_rf X) (none, (I3, L3, D3, am_rf X)) ∧ (P (none, (I3, L3, D3, am_rf X))))) ∧ ((I 60 (Int32.toNatClampNeg v1)) = 1 → (am_inb (I 59 (Int32.toNatClampNeg v1)) 192 = true ∧ (am_inb (I 46 (Int32.toNatClampNeg (I 59 (Int32.toNatClampNeg v1)))) 52 = true ∧ (∃ (I4 : Nat → Nat → Int32) (L4 : Nat → Nat → Int64) (D4 : Nat → Nat → UInt64), am_Rn ext d 188 [.ref 42, .int (I 52 (Int32.toNatClampNeg (I 46 (Int32.toNatClampNeg (I 59 (Int32.toNatClampNeg v1)))))), .double (D 42 67), .int (I 42 68)] (am_uI I 60 (Int32.toNatClampNeg v1) ((I 60 (Int32.toNatClampNeg v1)) + 1), L, D, am_rf X) (none, (I4, L4, D4, am_rf X)) ∧ (P (none, (I4, L4, D4, am_rf X)))))))))) ∧ ((I 60 (Int32.toNatClampNeg v1)) = 0 → (am_inb (I 59 (Int32.toNatClampNeg v1)) 192 = true ∧ (∃ (I5 : Nat → Nat → Int32) (L5 : Nat → Nat → Int64) (D5 : Nat → Nat → UInt64), am_Rn ext d 189 [.ref 42, .int (I 47 (Int32.toNatClampNeg (I 59 (Int32.toNatClampNeg v1)))), .int v1] (am_uI I 60 (Int32.toNatClampNeg v1) ((I 60 (Int32.toNatClampNeg v1)) + 1), L, D, am_rf X) (none, (I5, L5, D5, am_rf X)) ∧ (P (none, (I5, L5, D5, am_rf X)))))))))))) ∧ (¬ 5 < (I 45 (Int32.toNatClampNeg (I 59 (Int32.toNatClampNeg v1)))) → (((¬ (I 60 (Int32.toNatClampNeg v1)) = 0 → (((¬ (I 42 68) = 0 → (∃ (I6 : Nat → Nat → Int32) (L6 : Nat → Nat → Int64) (D6 : Nat → Nat → UInt64), am_Rn ext d 190 [.ref 42, .double FP.dconst0, .int 1] (am_uI I 60 (Int32.toNatClampNeg v1) ((I 60 (Int32.toNatClampNeg v1)) + 1), L, D, am_rf X) (none, (I6, L6, D6, am_rf X)) ∧ (P (none, (I6, L6, D6, am_rf X))))) ∧ ((I 42 68) = 0 → (((¬ (I 45 (Int32.toNatClampNeg (I 59 (Int32.toNatClampNeg v1)))) = 4 → (am_wp ext d mz_192 (183, [some (.ref 42), none, none, none, some (.int (I 45 (Int32.toNatClampNeg (I 59 (Int32.toNatClampNeg v1))))), none], [], (am_uI I 60 (Int32.toNatClampNeg v1) ((I 60 (Int32.toNatClampNeg v1)) + 1), L, D, am_rf X)) P)) ∧ ((I 45 (Int32.toNatClampNeg (I 59 (Int32.toNatClampNeg v1)))) = 4 → (((0 ≤ (Op.cmpValue (FP.dcmp (D 42 67) FP.dconst0) .g) → (am_wp ext d mz_192 (183, [some (.ref 42), none, none, none, some (.int (I 45 (Int32.toNatClampNeg (I 59 (Int32.toNatClampNeg v1))))), none], [], (am_uI I 60 (Int32.toNatClampNeg v1) ((I 60 (Int32.toNatClampNeg v1)) + 1), L, D, am_rf X)) P)) ∧ (¬ 0 ≤ (Op.cmpValue (FP.dcmp (D 42 67) FP.dconst0) .g) → (∃ (I7 : Nat → Nat → Int32) (L7 : Nat → Nat → Int64) (D7 : Nat → Nat → UInt64), am_Rn ext d 190 [.ref 42, .double FP.dconst0, .int 1] (am_uI I 60 (Int32.toNatClampNeg v1) ((I 60 (Int32.toNatClampNeg v1)) + 1), L, D, am_rf X) (none, (I7, L7, D7, am_rf X)) ∧ (P (none, (I7, L7, D7, am_rf X)))))))))))))) ∧ ((I 60 (Int32.toNatClampNeg v1)) = 0 → (am_inb (I 59 (Int32.toNatClampNeg v1)) 192 = true ∧ (∃ (I8 : Nat → Nat → Int32) (L8 : Nat → Nat → Int64) (D8 : Nat → Nat → UInt64), am_Rn ext d 189 [.ref 42, .int (I 47 (Int32.toNatClampNeg (I 59 (Int32.toNatClampNeg v1)))), .int v1] (am_uI I 60 (Int32.toNatClampNeg v1) ((I 60 (Int32.toNatClampNeg v1)) + 1), L, D, am_rf X) (none, (I8, L8, D8, am_rf X)) ∧ (P (none, (I8, L8, D8, am_rf X)))))))))))) ∧ ((I 45 (Int32.toNatClampNeg (I 59 (Int32.toNatClampNeg v1)))) = 15 → (∃ (I9 : Nat → Nat → Int32) (L9 : Nat → Nat → Int64) (D9 : Nat → Nat → UInt64), am_Rn ext d 190 [.ref 42, .double FP.dconst0, .int 1] (am_uI I 60 (Int32.toNatClampNeg v1) ((I 60 (Int32.toNatClampNeg v1)) + 1), L, D, am_rf X) (none, (I9, L9, D9, am_rf X)) ∧ (P (none, (I9, L9, D9, am_rf X)))))))) ∧ ((I 45 (Int32.toNatClampNeg (I 59 (Int32.toNatClampNeg v1)))) = 2 → (am_inb (I 59 (Int32.toNatClampNeg v1)) 192 = true ∧ (am_inb (I 46 (Int32.toNatClampNeg (I 59 (Int32.toNatClampNeg v1)))) 26 = true ∧ (am_inb (I 59 (Int32.toNatClampNeg v1)) 192 = true ∧ (am_inb (I 46 (Int32.toNatClampNeg (I 59 (Int32.toNatClampNeg v1)))) 26 = true ∧ (∃ (I10 : Nat → Nat → Int32) (L10 : Nat → Nat → Int64) (D10 : Nat → Nat → UInt64), am_Rn ext d 190 [.ref 42, .double (D 75 (Int32.toNatClampNeg (I 46 (Int32.toNatClampNeg (I 59 (Int32.toNatClampNeg v1)))))), .int (I 76 (Int32.toNatClampNeg (I 46 (Int32.toNatClampNeg (I 59 (Int32.toNatClampNeg v1))))))] (am_uI I 60 (Int32.toNatClampNeg v1) ((I 60 (Int32.toNatClampNeg v1)) + 1), L, D, am_rf X) (none, (I10, L10, D10, am_rf X)) ∧ (P (none, (I10, L10, D10, am_rf X)))))))))))) ∧ ((I 45 (Int32.toNatClampNeg (I 59 (Int32.toNatClampNeg v1)))) = 1 → (am_inb v1 128 = true ∧ (am_inb v1 128 = true ∧ (∃ (I11 : Nat → Nat → Int32) (L11 : Nat → Nat → Int64) (D11 : Nat → Nat → UInt64), am_Rn ext d 190 [.ref 42, .double (D 77 (Int32.toNatClampNeg v1)), .int (I 78 (Int32.toNatClampNeg v1))] (am_uI I 60 (Int32.toNatClampNeg v1) ((I 60 (Int32.toNatClampNeg v1)) + 1), L, D, am_rf X) (none, (I11, L11, D11, am_rf X)) ∧ (P (none, (I11, L11, D11, am_rf X)))))))))) ∧ ((I 45 (Int32.toNatClampNeg (I 59 (Int32.toNatClampNeg v1)))) = 0 → (am_inb (I 59 (Int32.toNatClampNeg v1)) 192 = true ∧ (∃ (I12 : Nat → Nat → Int32) (L12 : Nat → Nat → Int64) (D12 : Nat → Nat → UInt64), am_Rn ext d 190 [.ref 42, .double (FP.i2d (I 46 (Int32.toNatClampNeg (I 59 (Int32.toNatClampNeg v1))))), .int 0] (am_uI I 60 (Int32.toNatClampNeg v1) ((I 60 (Int32.toNatClampNeg v1)) + 1), L, D, am_rf X) (none, (I12, L12, D12, am_rf X)) ∧ (P (none, (I12, L12, D12, am_rf X))))))))))))) : am_wp ext d mz_192 (0, [some (.ref 42), some (.int v1), none, none, none, none], [], (I, L, D, am_rf X)) P := by
  refine am_wpb (c' := (5, [some (.ref 42), some (.int v1), none, none, none, none], [.int v1, .ref 59], (I, L, D, am_rf X))) 3 rfl ?_
  obtain ⟨o, h⟩ := h
  refine am_wps (c' := (6, [some (.ref 42), some (.int v1), none, none, none, none], [.int (I 59 (Int32.toNatClampNeg v1))], (I, L, D, am_rf X))) rfl rfl (am_s_iald rfl o) ?_
  refine am_wpb (c' := (12, [some (.ref 42), some (.int v1), some (.int (I 59 (Int32.toNatClampNeg v1))), none, none, none], [.int v1, .ref 60], (I, L, D, am_rf X))) 4 rfl ?_
  obtain ⟨o, h⟩ := h
  refine am_wps (c' := (13, [some (.ref 42), some (.int v1), some (.int (I 59 (Int32.toNatClampNeg v1))), none, none, none], [.int (I 60 (Int32.toNatClampNeg v1))], (I, L, D, am_rf X))) rfl rfl (am_s_iald rfl o) ?_
  refine am_wpb (c' := (20, [some (.ref 42), some (.int v1), some (.int (I 59 (Int32.toNatClampNeg v1))), some (.int (I 60 (Int32.toNatClampNeg v1))), none, none], [.int v1, .ref 60, .int v1, .ref 60], (I, L, D, am_rf X))) 5 rfl ?_
  obtain ⟨o, h⟩ := h
  refine am_wps (c' := (21, [some (.ref 42), some (.int v1), some (.int (I 59 (Int32.toNatClampNeg v1))), some (.int (I 60 (Int32.toNatClampNeg v1))), none, none], [.int (I 60 (Int32.toNatClampNeg v1)), .int v1, .ref 60], (I, L, D, am_rf X))) rfl rfl (am_s_iald rfl o) ?_
  refine am_wpb (c' := (23, [some (.ref 42), some (.int v1), some (.int (I 59 (Int32.toNatClampNeg v1))), some (.int (I 60 (Int32.toNatClampNeg v1))), none, none], [.int ((I 60 (Int32.toNatClampNeg v1)) + 1), .int v1, .ref 60], (I, L, D, am_rf X))) 2 rfl ?_
  obtain ⟨o, h⟩ := h
  refine am_wps (c' := (24, [some (.ref 42), some (.int v1), some (.int (I 59 (Int32.toNatClampNeg v1))), some (.int (I 60 (Int32.toNatClampNeg v1))), none, none], [], (am_uI I 60 (Int32.toNatClampNeg v1) ((I 60 (Int32.toNatClampNeg v1)) + 1), L, D, am_rf X))) rfl rfl (am_s_iast rfl o) ?_
  refine am_wpb (c' := (29, [some (.ref 42), some (.int v1), some (.int (I 59 (Int32.toNatClampNeg v1))), some (.int (I 60 (Int32.toNatClampNeg v1))), none, none], [.int (I 59 (Int32.toNatClampNeg v1)), .ref 45], (am_uI I 60 (Int32.toNatClampNeg v1) ((I 60 (Int32.toNatClampNeg v1)) + 1), L, D, am_rf X))) 3 rfl ?_
  obtain ⟨o, h⟩ := h
  refine am_wps (c' := (30, [some (.ref 42), some (.int v1), some (.int (I 59 (Int32.toNatClampNeg v1))), some (.int (I 60 (Int32.toNatClampNeg v1))), none, none], [.int (I 45 (Int32.toNatClampNeg (I 59 (Int32.toNatClampNeg v1))))], (am_uI I 60 (Int32.toNatClampNeg v1) ((I 60 (Int32.toNatClampNeg v1)) + 1), L, D, am_rf X))) rfl rfl (am_s_iald rfl o) ?_
  refine am_wpb (c' := (34, [some (.ref 42), some (.int v1), some (.int (I 59 (Int32.toNatClampNeg v1))), some (.int (I 60 (Int32.toNatClampNeg v1))), some (.int (I 45 (Int32.toNatClampNeg (I 59 (Int32.toNatClampNeg v1))))), none], [.int (I 45 (Int32.toNatClampNeg (I 59 (Int32.toNatClampNeg v1))))], (am_uI I 60 (Int32.toNatClampNeg v1) ((I 60 (Int32.toNatClampNeg v1)) + 1), L, D, am_rf X))) 2 rfl ?_
  refine am_b1_ne rfl (fun z => ?_) (fun z => ?_)
  · replace h := h.1 z
    refine am_wpb (c' := (55, [some (.ref 42), some (.int v1), some (.int (I 59 (Int32.toNatClampNeg v1))), some (.int (I 60 (Int32.toNatClampNeg v1))), some (.int (I 45 (Int32.toNatClampNeg (I 59 (Int32.toNatClampNeg v1))))), none], [.int 1, .int (I 45 (Int32.toNatClampNeg (I 59 (Int32.toNatClampNeg v1))))], (am_uI I 60 (Int32.toNatClampNeg v1) ((I 60 (Int32.toNatClampNeg v1)) + 1), L, D, am_rf X))) 2 rfl ?_
    refine am_b2_ne rfl (fun z => ?_) (fun z => ?_)
    · replace h := h.1 z
      refine am_wpb (c' := (80, [some (.ref 42), some (.int v1), some (.int (I 59 (Int32.toNatClampNeg v1))), some (.int (I 60 (Int32.toNatClampNeg v1))), some (.int (I 45 (Int32.toNatClampNeg (I 59 (Int32.toNatClampNeg v1))))), none], [.int 2, .int (I 45 (Int32.toNatClampNeg (I 59 (Int32.toNatClampNeg v1))))], (am_uI I 60 (Int32.toNatClampNeg v1) ((I 60 (Int32.toNatClampNeg v1)) + 1), L, D, am_rf X))) 2 rfl ?_
      refine am_b2_ne rfl (fun z => ?_) (fun z => ?_)
      · replace h := h.1 z
        refine am_wpb (c' := (116, [some (.ref 42), some (.int v1), some (.int (I 59 (Int32.toNatClampNeg v1))), some (.int (I 60 (Int32.toNatClampNeg v1))), some (.int (I 45 (Int32.toNatClampNeg (I 59 (Int32.toNatClampNeg v1))))), none], [.int 15, .int (I 45 (Int32.toNatClampNeg (I 59 (Int32.toNatClampNeg v1))))], (am_uI I 60 (Int32.toNatClampNeg v1) ((I 60 (Int32.toNatClampNeg v1)) + 1), L, D, am_rf X))) 2 rfl ?_
        refine am_b2_ne rfl (fun z => ?_) (fun z => ?_)
        · replace h := h.1 z
          refine am_wpb (c' := (131, [some (.ref 42), some (.int v1), some (.int (I 59 (Int32.toNatClampNeg v1))), some (.int (I 60 (Int32.toNatClampNeg v1))), some (.int (I 45 (Int32.toNatClampNeg (I 59 (Int32.toNatClampNeg v1))))), none], [.int 5, .int (I 45 (Int32.toNatClampNeg (I 59 (Int32.toNatClampNeg v1))))], (am_uI I 60 (Int32.toNatClampNeg v1) ((I 60 (Int32.toNatClampNeg v1)) + 1), L, D, am_rf X))) 2 rfl ?_
          refine am_b2_gt rfl (fun z => ?_) (fun z => ?_)
          · replace h := h.1 z
            refine am_wpb (c' := (247, [some (.ref 42), some (.int v1), some (.int (I 59 (Int32.toNatClampNeg v1))), some (.int (I 60 (Int32.toNatClampNeg v1))), some (.int (I 45 (Int32.toNatClampNeg (I 59 (Int32.toNatClampNeg v1))))), none], [.int 14, .int (I 45 (Int32.toNatClampNeg (I 59 (Int32.toNatClampNeg v1))))], (am_uI I 60 (Int32.toNatClampNeg v1) ((I 60 (Int32.toNatClampNeg v1)) + 1), L, D, am_rf X))) 2 rfl ?_
            refine am_b2_ne rfl (fun z => ?_) (fun z => ?_)
            · replace h := h.1 z
              refine am_wpb (c' := (315, [some (.ref 42), some (.int v1), some (.int (I 59 (Int32.toNatClampNeg v1))), some (.int (I 60 (Int32.toNatClampNeg v1))), some (.int (I 45 (Int32.toNatClampNeg (I 59 (Int32.toNatClampNeg v1))))), none], [.int (I 60 (Int32.toNatClampNeg v1))], (am_uI I 60 (Int32.toNatClampNeg v1) ((I 60 (Int32.toNatClampNeg v1)) + 1), L, D, am_rf X))) 1 rfl ?_
              refine am_b1_ne rfl (fun z => ?_) (fun z => ?_)
              · replace h := h.1 z
                refine am_wpb (c' := (334, [some (.ref 42), some (.int v1), some (.int (I 59 (Int32.toNatClampNeg v1))), some (.int (I 60 (Int32.toNatClampNeg v1))), some (.int (I 45 (Int32.toNatClampNeg (I 59 (Int32.toNatClampNeg v1))))), none], [.int 1, .int (I 60 (Int32.toNatClampNeg v1))], (am_uI I 60 (Int32.toNatClampNeg v1) ((I 60 (Int32.toNatClampNeg v1)) + 1), L, D, am_rf X))) 2 rfl ?_
                refine am_b2_ne rfl (fun z => ?_) (fun z => ?_)
                · replace h := h.1 z
                  refine am_wpb (c' := (373, [some (.ref 42), some (.int v1), some (.int (I 59 (Int32.toNatClampNeg v1))), some (.int (I 60 (Int32.toNatClampNeg v1))), some (.int (I 45 (Int32.toNatClampNeg (I 59 (Int32.toNatClampNeg v1))))), none], [.int 2, .int (I 60 (Int32.toNatClampNeg v1))], (am_uI I 60 (Int32.toNatClampNeg v1) ((I 60 (Int32.toNatClampNeg v1)) + 1), L, D, am_rf X))) 2 rfl ?_
                  refine am_b2_ne rfl (fun z => ?_) (fun z => ?_)
                  · replace h := h.1 z
                    exact am_fgt (l := [some (.ref 42), some (.int v1), none, some (.int (I 60 (Int32.toNatClampNeg v1))), some (.int (I 45 (Int32.toNatClampNeg (I 59 (Int32.toNatClampNeg v1))))), none]) (am_le_of (am_leS (am_leS (am_leN (am_leS (am_leS (am_leN (am_leZ)))))))) h
                  · replace h := h.2 z
                    refine am_wpb (c' := (380, [some (.ref 42), some (.int v1), some (.int (I 59 (Int32.toNatClampNeg v1))), some (.int (I 60 (Int32.toNatClampNeg v1))), some (.int (I 45 (Int32.toNatClampNeg (I 59 (Int32.toNatClampNeg v1))))), none], [.int 12, .int (I 45 (Int32.toNatClampNeg (I 59 (Int32.toNatClampNeg v1))))], (am_uI I 60 (Int32.toNatClampNeg v1) ((I 60 (Int32.toNatClampNeg v1)) + 1), L, D, am_rf X))) 2 rfl ?_
                    refine am_b2_lt rfl (fun z => ?_) (fun z => ?_)
                    · replace h := h.1 z
                      exact am_fgt (l := [some (.ref 42), some (.int v1), none, some (.int (I 60 (Int32.toNatClampNeg v1))), some (.int (I 45 (Int32.toNatClampNeg (I 59 (Int32.toNatClampNeg v1))))), none]) (am_le_of (am_leS (am_leS (am_leN (am_leS (am_leS (am_leN (am_leZ)))))))) h
                    · replace h := h.2 z
                      refine am_wpb (c' := (387, [some (.ref 42), some (.int v1), some (.int (I 59 (Int32.toNatClampNeg v1))), some (.int (I 60 (Int32.toNatClampNeg v1))), some (.int (I 45 (Int32.toNatClampNeg (I 59 (Int32.toNatClampNeg v1))))), none], [.int (I 42 68)], (am_uI I 60 (Int32.toNatClampNeg v1) ((I 60 (Int32.toNatClampNeg v1)) + 1), L, D, am_rf X))) 2 rfl ?_
                      refine am_b1_ne rfl (fun z => ?_) (fun z => ?_)
                      · replace h := h.1 z
                        exact am_fgt (l := [some (.ref 42), some (.int v1), some (.int (I 59 (Int32.toNatClampNeg v1))), none, none, none]) (am_le_of (am_leS (am_leS (am_leS (am_leN (am_leN (am_leN (am_leZ)))))))) h
                      · replace h := h.2 z
                        refine am_wpb (c' := (395, [some (.ref 42), some (.int v1), some (.int (I 59 (Int32.toNatClampNeg v1))), some (.int (I 60 (Int32.toNatClampNeg v1))), some (.int (I 45 (Int32.toNatClampNeg (I 59 (Int32.toNatClampNeg v1))))), none], [.int v1, .ref 80], (am_uI I 60 (Int32.toNatClampNeg v1) ((I 60 (Int32.toNatClampNeg v1)) + 1), L, D, am_rf X))) 3 rfl ?_
                        obtain ⟨o, h⟩ := h
                        refine am_wps (c' := (396, [some (.ref 42), some (.int v1), some (.int (I 59 (Int32.toNatClampNeg v1))), some (.int (I 60 (Int32.toNatClampNeg v1))), some (.int (I 45 (Int32.toNatClampNeg (I 59 (Int32.toNatClampNeg v1))))), none], [.int (I 80 (Int32.toNatClampNeg v1))], (am_uI I 60 (Int32.toNatClampNeg v1) ((I 60 (Int32.toNatClampNeg v1)) + 1), L, D, am_rf X))) rfl rfl (am_s_zald rfl o) ?_
                        refine am_b1_ne rfl (fun z => ?_) (fun z => ?_)
                        · replace h := h.1 z
                          exact am_fgt (l := [some (.ref 42), some (.int v1), some (.int (I 59 (Int32.toNatClampNeg v1))), none, none, none]) (am_le_of (am_leS (am_leS (am_leS (am_leN (am_leN (am_leN (am_leZ)))))))) h
                        · replace h := h.2 z
                          refine am_wpb (c' := (403, [some (.ref 42), some (.int v1), some (.int (I 59 (Int32.toNatClampNeg v1))), some (.int (I 60 (Int32.toNatClampNeg v1))), some (.int (I 45 (Int32.toNatClampNeg (I 59 (Int32.toNatClampNeg v1))))), none], [.int 12, .int (I 45 (Int32.toNatClampNeg (I 59 (Int32.toNatClampNeg v1))))], (am_uI I 60 (Int32.toNatClampNeg v1) ((I 60 (Int32.toNatClampNeg v1)) + 1), L, D, am_rf X))) 2 rfl ?_
                          refine am_b2_ne rfl (fun z => ?_) (fun z => ?_)
                          · replace h := h.1 z
                            refine am_wpb (c' := (432, [some (.ref 42), some (.int v1), some (.int (I 59 (Int32.toNatClampNeg v1))), some (.int (I 60 (Int32.toNatClampNeg v1))), some (.int (I 45 (Int32.toNatClampNeg (I 59 (Int32.toNatClampNeg v1))))), none], [.int v1, .ref 79, .double (D 42 67)], (am_uI I 60 (Int32.toNatClampNeg v1) ((I 60 (Int32.toNatClampNeg v1)) + 1), L, D, am_rf X))) 5 rfl ?_
                            obtain ⟨o, h⟩ := h
                            refine am_wps (c' := (433, [some (.ref 42), some (.int v1), some (.int (I 59 (Int32.toNatClampNeg v1))), some (.int (I 60 (Int32.toNatClampNeg v1))), some (.int (I 45 (Int32.toNatClampNeg (I 59 (Int32.toNatClampNeg v1))))), none], [.double (D 79 (Int32.toNatClampNeg v1)), .double (D 42 67)], (am_uI I 60 (Int32.toNatClampNeg v1) ((I 60 (Int32.toNatClampNeg v1)) + 1), L, D, am_rf X))) rfl rfl (am_s_dald rfl o) ?_
                            refine am_wpb (c' := (434, [some (.ref 42), some (.int v1), some (.int (I 59 (Int32.toNatClampNeg v1))), some (.int (I 60 (Int32.toNatClampNeg v1))), some (.int (I 45 (Int32.toNatClampNeg (I 59 (Int32.toNatClampNeg v1))))), none], [.int (Op.cmpValue (FP.dcmp (D 42 67) (D 79 (Int32.toNatClampNeg v1))) .g)], (am_uI I 60 (Int32.toNatClampNeg v1) ((I 60 (Int32.toNatClampNeg v1)) + 1), L, D, am_rf X))) 1 rfl ?_
                            refine am_b1_ge rfl (fun z => ?_) (fun z => ?_)
                            · replace h := h.1 z
                              exact am_fgt (l := [some (.ref 42), some (.int v1), some (.int (I 59 (Int32.toNatClampNeg v1))), none, none, none]) (am_le_of (am_leS (am_leS (am_leS (am_leN (am_leN (am_leN (am_leZ)))))))) h
                            · replace h := h.2 z
                              refine am_wpb (c' := (442, [some (.ref 42), some (.int v1), some (.int (I 59 (Int32.toNatClampNeg v1))), some (.int (I 60 (Int32.toNatClampNeg v1))), some (.int (I 45 (Int32.toNatClampNeg (I 59 (Int32.toNatClampNeg v1))))), none], [.int 1], (am_uI I 60 (Int32.toNatClampNeg v1) ((I 60 (Int32.toNatClampNeg v1)) + 1), L, D, am_rf X))) 2 rfl ?_
                              exact am_fgt (l := [some (.ref 42), some (.int v1), some (.int (I 59 (Int32.toNatClampNeg v1))), none, none, none]) (am_le_of (am_leS (am_leS (am_leS (am_leN (am_leN (am_leN (am_leZ)))))))) h
                          · replace h := h.2 z
                            refine am_wpb (c' := (411, [some (.ref 42), some (.int v1), some (.int (I 59 (Int32.toNatClampNeg v1))), some (.int (I 60 (Int32.toNatClampNeg v1))), some (.int (I 45 (Int32.toNatClampNeg (I 59 (Int32.toNatClampNeg v1))))), none], [.int v1, .ref 79], (am_uI I 60 (Int32.toNatClampNeg v1) ((I 60 (Int32.toNatClampNeg v1)) + 1), L, D, am_rf X))) 3 rfl ?_
                            obtain ⟨o, h⟩ := h
                            refine am_wps (c' := (412, [some (.ref 42), some (.int v1), some (.int (I 59 (Int32.toNatClampNeg v1))), some (.int (I 60 (Int32.toNatClampNeg v1))), some (.int (I 45 (Int32.toNatClampNeg (I 59 (Int32.toNatClampNeg v1))))), none], [.double (D 79 (Int32.toNatClampNeg v1))], (am_uI I 60 (Int32.toNatClampNeg v1) ((I 60 (Int32.toNatClampNeg v1)) + 1), L, D, am_rf X))) rfl rfl (am_s_dald rfl o) ?_
                            refine am_wpb (c' := (417, [some (.ref 42), some (.int v1), some (.int (I 59 (Int32.toNatClampNeg v1))), some (.int (I 60 (Int32.toNatClampNeg v1))), some (.int (I 45 (Int32.toNatClampNeg (I 59 (Int32.toNatClampNeg v1))))), none], [.int (Op.cmpValue (FP.dcmp (D 79 (Int32.toNatClampNeg v1)) (D 42 67)) .g)], (am_uI I 60 (Int32.toNatClampNeg v1) ((I 60 (Int32.toNatClampNeg v1)) + 1), L, D, am_rf X))) 3 rfl ?_
                            refine am_b1_ge rfl (fun z => ?_) (fun z => ?_)
                            · replace h := h.1 z
                              exact am_fgt (l := [some (.ref 42), some (.int v1), some (.int (I 59 (Int32.toNatClampNeg v1))), none, none, none]) (am_le_of (am_leS (am_leS (am_leS (am_leN (am_leN (am_leN (am_leZ)))))))) h
                            · replace h := h.2 z
                              refine am_wpb (c' := (442, [some (.ref 42), some (.int v1), some (.int (I 59 (Int32.toNatClampNeg v1))), some (.int (I 60 (Int32.toNatClampNeg v1))), some (.int (I 45 (Int32.toNatClampNeg (I 59 (Int32.toNatClampNeg v1))))), none], [.int 1], (am_uI I 60 (Int32.toNatClampNeg v1) ((I 60 (Int32.toNatClampNeg v1)) + 1), L, D, am_rf X))) 3 rfl ?_
                              exact am_fgt (l := [some (.ref 42), some (.int v1), some (.int (I 59 (Int32.toNatClampNeg v1))), none, none, none]) (am_le_of (am_leS (am_leS (am_leS (am_leN (am_leN (am_leN (am_leZ)))))))) h
                · replace h := h.2 z
                  refine am_wpb (c' := (346, [some (.ref 42), some (.int v1), some (.int (I 59 (Int32.toNatClampNeg v1))), some (.int (I 60 (Int32.toNatClampNeg v1))), some (.int (I 45 (Int32.toNatClampNeg (I 59 (Int32.toNatClampNeg v1))))), none], [.double (D 42 67), .int v1, .ref 79], (am_uI I 60 (Int32.toNatClampNeg v1) ((I 60 (Int32.toNatClampNeg v1)) + 1), L, D, am_rf X))) 5 rfl ?_
                  obtain ⟨o, h⟩ := h
                  refine am_wps (c' := (347, [some (.ref 42), some (.int v1), some (.int (I 59 (Int32.toNatClampNeg v1))), some (.int (I 60 (Int32.toNatClampNeg v1))), some (.int (I 45 (Int32.toNatClampNeg (I 59 (Int32.toNatClampNeg v1))))), none], [], (am_uI I 60 (Int32.toNatClampNeg v1) ((I 60 (Int32.toNatClampNeg v1)) + 1), L, am_uD D 79 (Int32.toNatClampNeg v1) (D 42 67), am_rf X))) rfl rfl (am_s_dast rfl o) ?_
                  refine am_wpb (c' := (356, [some (.ref 42), some (.int v1), some (.int (I 59 (Int32.toNatClampNeg v1))), some (.int (I 60 (Int32.toNatClampNeg v1))), some (.int (I 45 (Int32.toNatClampNeg (I 59 (Int32.toNatClampNeg v1))))), none], [.int (I 42 68), .int v1, .ref 80], (am_uI I 60 (Int32.toNatClampNeg v1) ((I 60 (Int32.toNatClampNeg v1)) + 1), L, am_uD D 79 (Int32.toNatClampNeg v1) (D 42 67), am_rf X))) 5 rfl ?_
                  obtain ⟨o, h⟩ := h
                  obtain ⟨o2, h⟩ := h
                  refine am_wps (c' := (357, [some (.ref 42), some (.int v1), some (.int (I 59 (Int32.toNatClampNeg v1))), some (.int (I 60 (Int32.toNatClampNeg v1))), some (.int (I 45 (Int32.toNatClampNeg (I 59 (Int32.toNatClampNeg v1))))), none], [], (am_uI (am_uI I 60 (Int32.toNatClampNeg v1) ((I 60 (Int32.toNatClampNeg v1)) + 1)) 80 (Int32.toNatClampNeg v1) (I 42 68), L, am_uD D 79 (Int32.toNatClampNeg v1) (D 42 67), am_rf X))) rfl rfl (am_s_zast rfl o o2) ?_
                  refine am_wpb (c' := (363, [some (.ref 42), some (.int v1), some (.int (I 59 (Int32.toNatClampNeg v1))), some (.int (I 60 (Int32.toNatClampNeg v1))), some (.int (I 45 (Int32.toNatClampNeg (I 59 (Int32.toNatClampNeg v1))))), none], [.int (I 59 (Int32.toNatClampNeg v1)), .ref 48, .ref 42], (am_uI (am_uI I 60 (Int32.toNatClampNeg v1) ((I 60 (Int32.toNatClampNeg v1)) + 1)) 80 (Int32.toNatClampNeg v1) (I 42 68), L, am_uD D 79 (Int32.toNatClampNeg v1) (D 42 67), am_rf X))) 4 rfl ?_
                  obtain ⟨o, h⟩ := h
                  refine am_wps (c' := (364, [some (.ref 42), some (.int v1), some (.int (I 59 (Int32.toNatClampNeg v1))), some (.int (I 60 (Int32.toNatClampNeg v1))), some (.int (I 45 (Int32.toNatClampNeg (I 59 (Int32.toNatClampNeg v1))))), none], [.int (I 48 (Int32.toNatClampNeg (I 59 (Int32.toNatClampNeg v1)))), .ref 42], (am_uI (am_uI I 60 (Int32.toNatClampNeg v1) ((I 60 (Int32.toNatClampNeg v1)) + 1)) 80 (Int32.toNatClampNeg v1) (I 42 68), L, am_uD D 79 (Int32.toNatClampNeg v1) (D 42 67), am_rf X))) rfl rfl (am_s_iald rfl o) ?_
                  refine am_wpb (c' := (365, [some (.ref 42), some (.int v1), some (.int (I 59 (Int32.toNatClampNeg v1))), some (.int (I 60 (Int32.toNatClampNeg v1))), some (.int (I 45 (Int32.toNatClampNeg (I 59 (Int32.toNatClampNeg v1))))), none], [.int v1, .int (I 48 (Int32.toNatClampNeg (I 59 (Int32.toNatClampNeg v1)))), .ref 42], (am_uI (am_uI I 60 (Int32.toNatClampNeg v1) ((I 60 (Int32.toNatClampNeg v1)) + 1)) 80 (Int32.toNatClampNeg v1) (I 42 68), L, am_uD D 79 (Int32.toNatClampNeg v1) (D 42 67), am_rf X))) 1 rfl ?_
                  obtain ⟨I1, L1, D1, hr, h⟩ := h
                  refine am_wp_inv (as := [.ref 42, .int (I 48 (Int32.toNatClampNeg (I 59 (Int32.toNatClampNeg v1)))), .int v1]) rfl rfl rfl rfl ⟨_, hr, ?_⟩
                  show am_wp ext d mz_192 (368, [some (.ref 42), some (.int v1), some (.int (I 59 (Int32.toNatClampNeg v1))), some (.int (I 60 (Int32.toNatClampNeg v1))), some (.int (I 45 (Int32.toNatClampNeg (I 59 (Int32.toNatClampNeg v1))))), none], [], (I1, L1, D1, am_rf X)) P
                  refine am_wpb (c' := (563, [some (.ref 42), some (.int v1), some (.int (I 59 (Int32.toNatClampNeg v1))), some (.int (I 60 (Int32.toNatClampNeg v1))), some (.int (I 45 (Int32.toNatClampNeg (I 59 (Int32.toNatClampNeg v1))))), none], [], (I1, L1, D1, am_rf X))) 1 rfl ?_
                  exact am_ret_v rfl rfl h
              · replace h := h.2 z
                refine am_wpb (c' := (324, [some (.ref 42), some (.int v1), some (.int (I 59 (Int32.toNatClampNeg v1))), some (.int (I 60 (Int32.toNatClampNeg v1))), some (.int (I 45 (Int32.toNatClampNeg (I 59 (Int32.toNatClampNeg v1))))), none], [.int (I 59 (Int32.toNatClampNeg v1)), .ref 47, .ref 42], (am_uI I 60 (Int32.toNatClampNeg v1) ((I 60 (Int32.toNatClampNeg v1)) + 1), L, D, am_rf X))) 4 rfl ?_
                obtain ⟨o, h⟩ := h
                refine am_wps (c' := (325, [some (.ref 42), some (.int v1), some (.int (I 59 (Int32.toNatClampNeg v1))), some (.int (I 60 (Int32.toNatClampNeg v1))), some (.int (I 45 (Int32.toNatClampNeg (I 59 (Int32.toNatClampNeg v1))))), none], [.int (I 47 (Int32.toNatClampNeg (I 59 (Int32.toNatClampNeg v1)))), .ref 42], (am_uI I 60 (Int32.toNatClampNeg v1) ((I 60 (Int32.toNatClampNeg v1)) + 1), L, D, am_rf X))) rfl rfl (am_s_iald rfl o) ?_
                refine am_wpb (c' := (326, [some (.ref 42), some (.int v1), some (.int (I 59 (Int32.toNatClampNeg v1))), some (.int (I 60 (Int32.toNatClampNeg v1))), some (.int (I 45 (Int32.toNatClampNeg (I 59 (Int32.toNatClampNeg v1))))), none], [.int v1, .int (I 47 (Int32.toNatClampNeg (I 59 (Int32.toNatClampNeg v1)))), .ref 42], (am_uI I 60 (Int32.toNatClampNeg v1) ((I 60 (Int32.toNatClampNeg v1)) + 1), L, D, am_rf X))) 1 rfl ?_
                obtain ⟨I2, L2, D2, hr, h⟩ := h
                refine am_wp_inv (as := [.ref 42, .int (I 47 (Int32.toNatClampNeg (I 59 (Int32.toNatClampNeg v1)))), .int v1]) rfl rfl rfl rfl ⟨_, hr, ?_⟩
                show am_wp ext d mz_192 (329, [some (.ref 42), some (.int v1), some (.int (I 59 (Int32.toNatClampNeg v1))), some (.int (I 60 (Int32.toNatClampNeg v1))), some (.int (I 45 (Int32.toNatClampNeg (I 59 (Int32.toNatClampNeg v1))))), none], [], (I2, L2, D2, am_rf X)) P
                refine am_wpb (c' := (563, [some (.ref 42), some (.int v1), some (.int (I 59 (Int32.toNatClampNeg v1))), some (.int (I 60 (Int32.toNatClampNeg v1))), some (.int (I 45 (Int32.toNatClampNeg (I 59 (Int32.toNatClampNeg v1))))), none], [], (I2, L2, D2, am_rf X))) 1 rfl ?_
                exact am_ret_v rfl rfl h
            · replace h := h.2 z
              refine am_wpb (c' := (251, [some (.ref 42), some (.int v1), some (.int (I 59 (Int32.toNatClampNeg v1))), some (.int (I 60 (Int32.toNatClampNeg v1))), some (.int (I 45 (Int32.toNatClampNeg (I 59 (Int32.toNatClampNeg v1))))), none], [.int (I 60 (Int32.toNatClampNeg v1))], (am_uI I 60 (Int32.toNatClampNeg v1) ((I 60 (Int32.toNatClampNeg v1)) + 1), L, D, am_rf X))) 1 rfl ?_
              refine am_b1_ne rfl (fun z => ?_) (fun z => ?_)
              · replace h := h.1 z
                refine am_wpb (c' := (270, [some (.ref 42), some (.int v1), some (.int (I 59 (Int32.toNatClampNeg v1))), some (.int (I 60 (Int32.toNatClampNeg v1))), some (.int (I 45 (Int32.toNatClampNeg (I 59 (Int32.toNatClampNeg v1))))), none], [.int 1, .int (I 60 (Int32.toNatClampNeg v1))], (am_uI I 60 (Int32.toNatClampNeg v1) ((I 60 (Int32.toNatClampNeg v1)) + 1), L, D, am_rf X))) 2 rfl ?_
                refine am_b2_ne rfl (fun z => ?_) (fun z => ?_)
                · replace h := h.1 z
                  refine am_wpb (c' := (308, [some (.ref 42), some (.int v1), some (.int (I 59 (Int32.toNatClampNeg v1))), some (.int (I 60 (Int32.toNatClampNeg v1))), some (.int (I 45 (Int32.toNatClampNeg (I 59 (Int32.toNatClampNeg v1))))), none], [.int (I 42 68), .double (D 42 67), .ref 42], (am_uI I 60 (Int32.toNatClampNeg v1) ((I 60 (Int32.toNatClampNeg v1)) + 1), L, D, am_rf X))) 5 rfl ?_
                  obtain ⟨I3, L3, D3, hr, h⟩ := h
                  refine am_wp_inv (as := [.ref 42, .double (D 42 67), .int (I 42 68)]) rfl rfl rfl rfl ⟨_, hr, ?_⟩
                  show am_wp ext d mz_192 (311, [some (.ref 42), some (.int v1), some (.int (I 59 (Int32.toNatClampNeg v1))), some (.int (I 60 (Int32.toNatClampNeg v1))), some (.int (I 45 (Int32.toNatClampNeg (I 59 (Int32.toNatClampNeg v1))))), none], [], (I3, L3, D3, am_rf X)) P
                  refine am_wpb (c' := (563, [some (.ref 42), some (.int v1), some (.int (I 59 (Int32.toNatClampNeg v1))), some (.int (I 60 (Int32.toNatClampNeg v1))), some (.int (I 45 (Int32.toNatClampNeg (I 59 (Int32.toNatClampNeg v1))))), none], [], (I3, L3, D3, am_rf X))) 1 rfl ?_
                  exact am_ret_v rfl rfl h
                · replace h := h.2 z
                  refine am_wpb (c' := (283, [some (.ref 42), some (.int v1), some (.int (I 59 (Int32.toNatClampNeg v1))), some (.int (I 60 (Int32.toNatClampNeg v1))), some (.int (I 45 (Int32.toNatClampNeg (I 59 (Int32.toNatClampNeg v1))))), none], [.int (I 59 (Int32.toNatClampNeg v1)), .ref 46, .ref 52, .ref 42], (am_uI I 60 (Int32.toNatClampNeg v1) ((I 60 (Int32.toNatClampNeg v1)) + 1), L, D, am_rf X))) 6 rfl ?_
                  obtain ⟨o, h⟩ := h
                  refine am_wps (c' := (284, [some (.ref 42), some (.int v1), some (.int (I 59 (Int32.toNatClampNeg v1))), some (.int (I 60 (Int32.toNatClampNeg v1))), some (.int (I 45 (Int32.toNatClampNeg (I 59 (Int32.toNatClampNeg v1))))), none], [.int (I 46 (Int32.toNatClampNeg (I 59 (Int32.toNatClampNeg v1)))), .ref 52, .ref 42], (am_uI I 60 (Int32.toNatClampNeg v1) ((I 60 (Int32.toNatClampNeg v1)) + 1), L, D, am_rf X))) rfl rfl (am_s_iald rfl o) ?_
                  obtain ⟨o, h⟩ := h
                  refine am_wps (c' := (285, [some (.ref 42), some (.int v1), some (.int (I 59 (Int32.toNatClampNeg v1))), some (.int (I 60 (Int32.toNatClampNeg v1))), some (.int (I 45 (Int32.toNatClampNeg (I 59 (Int32.toNatClampNeg v1))))), none], [.int (I 52 (Int32.toNatClampNeg (I 46 (Int32.toNatClampNeg (I 59 (Int32.toNatClampNeg v1)))))), .ref 42], (am_uI I 60 (Int32.toNatClampNeg v1) ((I 60 (Int32.toNatClampNeg v1)) + 1), L, D, am_rf X))) rfl rfl (am_s_iald rfl o) ?_
                  refine am_wpb (c' := (293, [some (.ref 42), some (.int v1), some (.int (I 59 (Int32.toNatClampNeg v1))), some (.int (I 60 (Int32.toNatClampNeg v1))), some (.int (I 45 (Int32.toNatClampNeg (I 59 (Int32.toNatClampNeg v1))))), none], [.int (I 42 68), .double (D 42 67), .int (I 52 (Int32.toNatClampNeg (I 46 (Int32.toNatClampNeg (I 59 (Int32.toNatClampNeg v1)))))), .ref 42], (am_uI I 60 (Int32.toNatClampNeg v1) ((I 60 (Int32.toNatClampNeg v1)) + 1), L, D, am_rf X))) 4 rfl ?_
                  obtain ⟨I4, L4, D4, hr, h⟩ := h
                  refine am_wp_inv (as := [.ref 42, .int (I 52 (Int32.toNatClampNeg (I 46 (Int32.toNatClampNeg (I 59 (Int32.toNatClampNeg v1)))))), .double (D 42 67), .int (I 42 68)]) rfl rfl rfl rfl ⟨_, hr, ?_⟩
                  show am_wp ext d mz_192 (296, [some (.ref 42), some (.int v1), some (.int (I 59 (Int32.toNatClampNeg v1))), some (.int (I 60 (Int32.toNatClampNeg v1))), some (.int (I 45 (Int32.toNatClampNeg (I 59 (Int32.toNatClampNeg v1))))), none], [], (I4, L4, D4, am_rf X)) P
                  refine am_wpb (c' := (563, [some (.ref 42), some (.int v1), some (.int (I 59 (Int32.toNatClampNeg v1))), some (.int (I 60 (Int32.toNatClampNeg v1))), some (.int (I 45 (Int32.toNatClampNeg (I 59 (Int32.toNatClampNeg v1))))), none], [], (I4, L4, D4, am_rf X))) 1 rfl ?_
                  exact am_ret_v rfl rfl h
              · replace h := h.2 z
                refine am_wpb (c' := (260, [some (.ref 42), some (.int v1), some (.int (I 59 (Int32.toNatClampNeg v1))), some (.int (I 60 (Int32.toNatClampNeg v1))), some (.int (I 45 (Int32.toNatClampNeg (I 59 (Int32.toNatClampNeg v1))))), none], [.int (I 59 (Int32.toNatClampNeg v1)), .ref 47, .ref 42], (am_uI I 60 (Int32.toNatClampNeg v1) ((I 60 (Int32.toNatClampNeg v1)) + 1), L, D, am_rf X))) 4 rfl ?_
                obtain ⟨o, h⟩ := h
                refine am_wps (c' := (261, [some (.ref 42), some (.int v1), some (.int (I 59 (Int32.toNatClampNeg v1))), some (.int (I 60 (Int32.toNatClampNeg v1))), some (.int (I 45 (Int32.toNatClampNeg (I 59 (Int32.toNatClampNeg v1))))), none], [.int (I 47 (Int32.toNatClampNeg (I 59 (Int32.toNatClampNeg v1)))), .ref 42], (am_uI I 60 (Int32.toNatClampNeg v1) ((I 60 (Int32.toNatClampNeg v1)) + 1), L, D, am_rf X))) rfl rfl (am_s_iald rfl o) ?_
                refine am_wpb (c' := (262, [some (.ref 42), some (.int v1), some (.int (I 59 (Int32.toNatClampNeg v1))), some (.int (I 60 (Int32.toNatClampNeg v1))), some (.int (I 45 (Int32.toNatClampNeg (I 59 (Int32.toNatClampNeg v1))))), none], [.int v1, .int (I 47 (Int32.toNatClampNeg (I 59 (Int32.toNatClampNeg v1)))), .ref 42], (am_uI I 60 (Int32.toNatClampNeg v1) ((I 60 (Int32.toNatClampNeg v1)) + 1), L, D, am_rf X))) 1 rfl ?_
                obtain ⟨I5, L5, D5, hr, h⟩ := h
                refine am_wp_inv (as := [.ref 42, .int (I 47 (Int32.toNatClampNeg (I 59 (Int32.toNatClampNeg v1)))), .int v1]) rfl rfl rfl rfl ⟨_, hr, ?_⟩
                show am_wp ext d mz_192 (265, [some (.ref 42), some (.int v1), some (.int (I 59 (Int32.toNatClampNeg v1))), some (.int (I 60 (Int32.toNatClampNeg v1))), some (.int (I 45 (Int32.toNatClampNeg (I 59 (Int32.toNatClampNeg v1))))), none], [], (I5, L5, D5, am_rf X)) P
                refine am_wpb (c' := (563, [some (.ref 42), some (.int v1), some (.int (I 59 (Int32.toNatClampNeg v1))), some (.int (I 60 (Int32.toNatClampNeg v1))), some (.int (I 45 (Int32.toNatClampNeg (I 59 (Int32.toNatClampNeg v1))))), none], [], (I5, L5, D5, am_rf X))) 1 rfl ?_
                exact am_ret_v rfl rfl h
          · replace h := h.2 z
            refine am_wpb (c' := (135, [some (.ref 42), some (.int v1), some (.int (I 59 (Int32.toNatClampNeg v1))), some (.int (I 60 (Int32.toNatClampNeg v1))), some (.int (I 45 (Int32.toNatClampNeg (I 59 (Int32.toNatClampNeg v1))))), none], [.int (I 60 (Int32.toNatClampNeg v1))], (am_uI I 60 (Int32.toNatClampNeg v1) ((I 60 (Int32.toNatClampNeg v1)) + 1), L, D, am_rf X))) 1 rfl ?_
            refine am_b1_ne rfl (fun z => ?_) (fun z => ?_)
            · replace h := h.1 z
              refine am_wpb (c' := (156, [some (.ref 42), some (.int v1), some (.int (I 59 (Int32.toNatClampNeg v1))), some (.int (I 60 (Int32.toNatClampNeg v1))), some (.int (I 45 (Int32.toNatClampNeg (I 59 (Int32.toNatClampNeg v1))))), none], [.int (I 42 68)], (am_uI I 60 (Int32.toNatClampNeg v1) ((I 60 (Int32.toNatClampNeg v1)) + 1), L, D, am_rf X))) 2 rfl ?_
              refine am_b1_ne rfl (fun z => ?_) (fun z => ?_)
              · replace h := h.1 z
                refine am_wpb (c' := (177, [some (.ref 42), some (.int v1), some (.int (I 59 (Int32.toNatClampNeg v1))), some (.int (I 60 (Int32.toNatClampNeg v1))), some (.int (I 45 (Int32.toNatClampNeg (I 59 (Int32.toNatClampNeg v1))))), none], [.int 1, .double FP.dconst0, .ref 42], (am_uI I 60 (Int32.toNatClampNeg v1) ((I 60 (Int32.toNatClampNeg v1)) + 1), L, D, am_rf X))) 3 rfl ?_
                obtain ⟨I6, L6, D6, hr, h⟩ := h
                refine am_wp_inv (as := [.ref 42, .double FP.dconst0, .int 1]) rfl rfl rfl rfl ⟨_, hr, ?_⟩
                show am_wp ext d mz_192 (180, [some (.ref 42), some (.int v1), some (.int (I 59 (Int32.toNatClampNeg v1))), some (.int (I 60 (Int32.toNatClampNeg v1))), some (.int (I 45 (Int32.toNatClampNeg (I 59 (Int32.toNatClampNeg v1))))), none], [], (I6, L6, D6, am_rf X)) P
                refine am_wpb (c' := (563, [some (.ref 42), some (.int v1), some (.int (I 59 (Int32.toNatClampNeg v1))), some (.int (I 60 (Int32.toNatClampNeg v1))), some (.int (I 45 (Int32.toNatClampNeg (I 59 (Int32.toNatClampNeg v1))))), none], [], (I6, L6, D6, am_rf X))) 1 rfl ?_
                exact am_ret_v rfl rfl h
              · replace h := h.2 z
                refine am_wpb (c' := (162, [some (.ref 42), some (.int v1), some (.int (I 59 (Int32.toNatClampNeg v1))), some (.int (I 60 (Int32.toNatClampNeg v1))), some (.int (I 45 (Int32.toNatClampNeg (I 59 (Int32.toNatClampNeg v1))))), none], [.int 4, .int (I 45 (Int32.toNatClampNeg (I 59 (Int32.toNatClampNeg v1))))], (am_uI I 60 (Int32.toNatClampNeg v1) ((I 60 (Int32.toNatClampNeg v1)) + 1), L, D, am_rf X))) 2 rfl ?_
                refine am_b2_ne rfl (fun z => ?_) (fun z => ?_)
                · replace h := h.1 z
                  exact am_fgt (l := [some (.ref 42), none, none, none, some (.int (I 45 (Int32.toNatClampNeg (I 59 (Int32.toNatClampNeg v1))))), none]) (am_le_of (am_leS (am_leN (am_leN (am_leN (am_leS (am_leN (am_leZ)))))))) h
                · replace h := h.2 z
                  refine am_wpb (c' := (171, [some (.ref 42), some (.int v1), some (.int (I 59 (Int32.toNatClampNeg v1))), some (.int (I 60 (Int32.toNatClampNeg v1))), some (.int (I 45 (Int32.toNatClampNeg (I 59 (Int32.toNatClampNeg v1))))), none], [.int (Op.cmpValue (FP.dcmp (D 42 67) FP.dconst0) .g)], (am_uI I 60 (Int32.toNatClampNeg v1) ((I 60 (Int32.toNatClampNeg v1)) + 1), L, D, am_rf X))) 4 rfl ?_
                  refine am_b1_ge rfl (fun z => ?_) (fun z => ?_)
                  · replace h := h.1 z
                    exact am_fgt (l := [some (.ref 42), none, none, none, some (.int (I 45 (Int32.toNatClampNeg (I 59 (Int32.toNatClampNeg v1))))), none]) (am_le_of (am_leS (am_leN (am_leN (am_leN (am_leS (am_leN (am_leZ)))))))) h
                  · replace h := h.2 z
                    refine am_wpb (c' := (177, [some (.ref 42), some (.int v1), some (.int (I 59 (Int32.toNatClampNeg v1))), some (.int (I 60 (Int32.toNatClampNeg v1))), some (.int (I 45 (Int32.toNatClampNeg (I 59 (Int32.toNatClampNeg v1))))), none], [.int 1, .double FP.dconst0, .ref 42], (am_uI I 60 (Int32.toNatClampNeg v1) ((I 60 (Int32.toNatClampNeg v1)) + 1), L, D, am_rf X))) 3 rfl ?_
                    obtain ⟨I7, L7, D7, hr, h⟩ := h
                    refine am_wp_inv (as := [.ref 42, .double FP.dconst0, .int 1]) rfl rfl rfl rfl ⟨_, hr, ?_⟩
                    show am_wp ext d mz_192 (180, [some (.ref 42), some (.int v1), some (.int (I 59 (Int32.toNatClampNeg v1))), some (.int (I 60 (Int32.toNatClampNeg v1))), some (.int (I 45 (Int32.toNatClampNeg (I 59 (Int32.toNatClampNeg v1))))), none], [], (I7, L7, D7, am_rf X)) P
                    refine am_wpb (c' := (563, [some (.ref 42), some (.int v1), some (.int (I 59 (Int32.toNatClampNeg v1))), some (.int (I 60 (Int32.toNatClampNeg v1))), some (.int (I 45 (Int32.toNatClampNeg (I 59 (Int32.toNatClampNeg v1))))), none], [], (I7, L7, D7, am_rf X))) 1 rfl ?_
                    exact am_ret_v rfl rfl h
            · replace h := h.2 z
              refine am_wpb (c' := (144, [some (.ref 42), some (.int v1), some (.int (I 59 (Int32.toNatClampNeg v1))), some (.int (I 60 (Int32.toNatClampNeg v1))), some (.int (I 45 (Int32.toNatClampNeg (I 59 (Int32.toNatClampNeg v1))))), none], [.int (I 59 (Int32.toNatClampNeg v1)), .ref 47, .ref 42], (am_uI I 60 (Int32.toNatClampNeg v1) ((I 60 (Int32.toNatClampNeg v1)) + 1), L, D, am_rf X))) 4 rfl ?_
              obtain ⟨o, h⟩ := h
              refine am_wps (c' := (145, [some (.ref 42), some (.int v1), some (.int (I 59 (Int32.toNatClampNeg v1))), some (.int (I 60 (Int32.toNatClampNeg v1))), some (.int (I 45 (Int32.toNatClampNeg (I 59 (Int32.toNatClampNeg v1))))), none], [.int (I 47 (Int32.toNatClampNeg (I 59 (Int32.toNatClampNeg v1)))), .ref 42], (am_uI I 60 (Int32.toNatClampNeg v1) ((I 60 (Int32.toNatClampNeg v1)) + 1), L, D, am_rf X))) rfl rfl (am_s_iald rfl o) ?_
              refine am_wpb (c' := (146, [some (.ref 42), some (.int v1), some (.int (I 59 (Int32.toNatClampNeg v1))), some (.int (I 60 (Int32.toNatClampNeg v1))), some (.int (I 45 (Int32.toNatClampNeg (I 59 (Int32.toNatClampNeg v1))))), none], [.int v1, .int (I 47 (Int32.toNatClampNeg (I 59 (Int32.toNatClampNeg v1)))), .ref 42], (am_uI I 60 (Int32.toNatClampNeg v1) ((I 60 (Int32.toNatClampNeg v1)) + 1), L, D, am_rf X))) 1 rfl ?_
              obtain ⟨I8, L8, D8, hr, h⟩ := h
              refine am_wp_inv (as := [.ref 42, .int (I 47 (Int32.toNatClampNeg (I 59 (Int32.toNatClampNeg v1)))), .int v1]) rfl rfl rfl rfl ⟨_, hr, ?_⟩
              show am_wp ext d mz_192 (149, [some (.ref 42), some (.int v1), some (.int (I 59 (Int32.toNatClampNeg v1))), some (.int (I 60 (Int32.toNatClampNeg v1))), some (.int (I 45 (Int32.toNatClampNeg (I 59 (Int32.toNatClampNeg v1))))), none], [], (I8, L8, D8, am_rf X)) P
              refine am_wpb (c' := (563, [some (.ref 42), some (.int v1), some (.int (I 59 (Int32.toNatClampNeg v1))), some (.int (I 60 (Int32.toNatClampNeg v1))), some (.int (I 45 (Int32.toNatClampNeg (I 59 (Int32.toNatClampNeg v1))))), none], [], (I8, L8, D8, am_rf X))) 1 rfl ?_
              exact am_ret_v rfl rfl h
        · replace h := h.2 z
          refine am_wpb (c' := (122, [some (.ref 42), some (.int v1), some (.int (I 59 (Int32.toNatClampNeg v1))), some (.int (I 60 (Int32.toNatClampNeg v1))), some (.int (I 45 (Int32.toNatClampNeg (I 59 (Int32.toNatClampNeg v1))))), none], [.int 1, .double FP.dconst0, .ref 42], (am_uI I 60 (Int32.toNatClampNeg v1) ((I 60 (Int32.toNatClampNeg v1)) + 1), L, D, am_rf X))) 3 rfl ?_
          obtain ⟨I9, L9, D9, hr, h⟩ := h
          refine am_wp_inv (as := [.ref 42, .double FP.dconst0, .int 1]) rfl rfl rfl rfl ⟨_, hr, ?_⟩
          show am_wp ext d mz_192 (125, [some (.ref 42), some (.int v1), some (.int (I 59 (Int32.toNatClampNeg v1))), some (.int (I 60 (Int32.toNatClampNeg v1))), some (.int (I 45 (Int32.toNatClampNeg (I 59 (Int32.toNatClampNeg v1))))), none], [], (I9, L9, D9, am_rf X)) P
          refine am_wpb (c' := (563, [some (.ref 42), some (.int v1), some (.int (I 59 (Int32.toNatClampNeg v1))), some (.int (I 60 (Int32.toNatClampNeg v1))), some (.int (I 45 (Int32.toNatClampNeg (I 59 (Int32.toNatClampNeg v1))))), none], [], (I9, L9, D9, am_rf X))) 1 rfl ?_
          exact am_ret_v rfl rfl h
      · replace h := h.2 z
        refine am_wpb (c' := (93, [some (.ref 42), some (.int v1), some (.int (I 59 (Int32.toNatClampNeg v1))), some (.int (I 60 (Int32.toNatClampNeg v1))), some (.int (I 45 (Int32.toNatClampNeg (I 59 (Int32.toNatClampNeg v1))))), none], [.int (I 59 (Int32.toNatClampNeg v1)), .ref 46, .ref 75, .ref 42], (am_uI I 60 (Int32.toNatClampNeg v1) ((I 60 (Int32.toNatClampNeg v1)) + 1), L, D, am_rf X))) 6 rfl ?_
        obtain ⟨o, h⟩ := h
        refine am_wps (c' := (94, [some (.ref 42), some (.int v1), some (.int (I 59 (Int32.toNatClampNeg v1))), some (.int (I 60 (Int32.toNatClampNeg v1))), some (.int (I 45 (Int32.toNatClampNeg (I 59 (Int32.toNatClampNeg v1))))), none], [.int (I 46 (Int32.toNatClampNeg (I 59 (Int32.toNatClampNeg v1)))), .ref 75, .ref 42], (am_uI I 60 (Int32.toNatClampNeg v1) ((I 60 (Int32.toNatClampNeg v1)) + 1), L, D, am_rf X))) rfl rfl (am_s_iald rfl o) ?_
        obtain ⟨o, h⟩ := h
        refine am_wps (c' := (95, [some (.ref 42), some (.int v1), some (.int (I 59 (Int32.toNatClampNeg v1))), some (.int (I 60 (Int32.toNatClampNeg v1))), some (.int (I 45 (Int32.toNatClampNeg (I 59 (Int32.toNatClampNeg v1))))), none], [.double (D 75 (Int32.toNatClampNeg (I 46 (Int32.toNatClampNeg (I 59 (Int32.toNatClampNeg v1)))))), .ref 42], (am_uI I 60 (Int32.toNatClampNeg v1) ((I 60 (Int32.toNatClampNeg v1)) + 1), L, D, am_rf X))) rfl rfl (am_s_dald rfl o) ?_
        refine am_wpb (c' := (104, [some (.ref 42), some (.int v1), some (.int (I 59 (Int32.toNatClampNeg v1))), some (.int (I 60 (Int32.toNatClampNeg v1))), some (.int (I 45 (Int32.toNatClampNeg (I 59 (Int32.toNatClampNeg v1))))), none], [.int (I 59 (Int32.toNatClampNeg v1)), .ref 46, .ref 76, .double (D 75 (Int32.toNatClampNeg (I 46 (Int32.toNatClampNeg (I 59 (Int32.toNatClampNeg v1)))))), .ref 42], (am_uI I 60 (Int32.toNatClampNeg v1) ((I 60 (Int32.toNatClampNeg v1)) + 1), L, D, am_rf X))) 5 rfl ?_
        obtain ⟨o, h⟩ := h
        refine am_wps (c' := (105, [some (.ref 42), some (.int v1), some (.int (I 59 (Int32.toNatClampNeg v1))), some (.int (I 60 (Int32.toNatClampNeg v1))), some (.int (I 45 (Int32.toNatClampNeg (I 59 (Int32.toNatClampNeg v1))))), none], [.int (I 46 (Int32.toNatClampNeg (I 59 (Int32.toNatClampNeg v1)))), .ref 76, .double (D 75 (Int32.toNatClampNeg (I 46 (Int32.toNatClampNeg (I 59 (Int32.toNatClampNeg v1)))))), .ref 42], (am_uI I 60 (Int32.toNatClampNeg v1) ((I 60 (Int32.toNatClampNeg v1)) + 1), L, D, am_rf X))) rfl rfl (am_s_iald rfl o) ?_
        obtain ⟨o, h⟩ := h
        refine am_wps (c' := (106, [some (.ref 42), some (.int v1), some (.int (I 59 (Int32.toNatClampNeg v1))), some (.int (I 60 (Int32.toNatClampNeg v1))), some (.int (I 45 (Int32.toNatClampNeg (I 59 (Int32.toNatClampNeg v1))))), none], [.int (I 76 (Int32.toNatClampNeg (I 46 (Int32.toNatClampNeg (I 59 (Int32.toNatClampNeg v1)))))), .double (D 75 (Int32.toNatClampNeg (I 46 (Int32.toNatClampNeg (I 59 (Int32.toNatClampNeg v1)))))), .ref 42], (am_uI I 60 (Int32.toNatClampNeg v1) ((I 60 (Int32.toNatClampNeg v1)) + 1), L, D, am_rf X))) rfl rfl (am_s_zald rfl o) ?_
        obtain ⟨I10, L10, D10, hr, h⟩ := h
        refine am_wp_inv (as := [.ref 42, .double (D 75 (Int32.toNatClampNeg (I 46 (Int32.toNatClampNeg (I 59 (Int32.toNatClampNeg v1)))))), .int (I 76 (Int32.toNatClampNeg (I 46 (Int32.toNatClampNeg (I 59 (Int32.toNatClampNeg v1))))))]) rfl rfl rfl rfl ⟨_, hr, ?_⟩
        show am_wp ext d mz_192 (109, [some (.ref 42), some (.int v1), some (.int (I 59 (Int32.toNatClampNeg v1))), some (.int (I 60 (Int32.toNatClampNeg v1))), some (.int (I 45 (Int32.toNatClampNeg (I 59 (Int32.toNatClampNeg v1))))), none], [], (I10, L10, D10, am_rf X)) P
        refine am_wpb (c' := (563, [some (.ref 42), some (.int v1), some (.int (I 59 (Int32.toNatClampNeg v1))), some (.int (I 60 (Int32.toNatClampNeg v1))), some (.int (I 45 (Int32.toNatClampNeg (I 59 (Int32.toNatClampNeg v1))))), none], [], (I10, L10, D10, am_rf X))) 1 rfl ?_
        exact am_ret_v rfl rfl h
    · replace h := h.2 z
      refine am_wpb (c' := (64, [some (.ref 42), some (.int v1), some (.int (I 59 (Int32.toNatClampNeg v1))), some (.int (I 60 (Int32.toNatClampNeg v1))), some (.int (I 45 (Int32.toNatClampNeg (I 59 (Int32.toNatClampNeg v1))))), none], [.int v1, .ref 77, .ref 42], (am_uI I 60 (Int32.toNatClampNeg v1) ((I 60 (Int32.toNatClampNeg v1)) + 1), L, D, am_rf X))) 4 rfl ?_
      obtain ⟨o, h⟩ := h
      refine am_wps (c' := (65, [some (.ref 42), some (.int v1), some (.int (I 59 (Int32.toNatClampNeg v1))), some (.int (I 60 (Int32.toNatClampNeg v1))), some (.int (I 45 (Int32.toNatClampNeg (I 59 (Int32.toNatClampNeg v1))))), none], [.double (D 77 (Int32.toNatClampNeg v1)), .ref 42], (am_uI I 60 (Int32.toNatClampNeg v1) ((I 60 (Int32.toNatClampNeg v1)) + 1), L, D, am_rf X))) rfl rfl (am_s_dald rfl o) ?_
      refine am_wpb (c' := (70, [some (.ref 42), some (.int v1), some (.int (I 59 (Int32.toNatClampNeg v1))), some (.int (I 60 (Int32.toNatClampNeg v1))), some (.int (I 45 (Int32.toNatClampNeg (I 59 (Int32.toNatClampNeg v1))))), none], [.int v1, .ref 78, .double (D 77 (Int32.toNatClampNeg v1)), .ref 42], (am_uI I 60 (Int32.toNatClampNeg v1) ((I 60 (Int32.toNatClampNeg v1)) + 1), L, D, am_rf X))) 3 rfl ?_
      obtain ⟨o, h⟩ := h
      refine am_wps (c' := (71, [some (.ref 42), some (.int v1), some (.int (I 59 (Int32.toNatClampNeg v1))), some (.int (I 60 (Int32.toNatClampNeg v1))), some (.int (I 45 (Int32.toNatClampNeg (I 59 (Int32.toNatClampNeg v1))))), none], [.int (I 78 (Int32.toNatClampNeg v1)), .double (D 77 (Int32.toNatClampNeg v1)), .ref 42], (am_uI I 60 (Int32.toNatClampNeg v1) ((I 60 (Int32.toNatClampNeg v1)) + 1), L, D, am_rf X))) rfl rfl (am_s_zald rfl o) ?_
      obtain ⟨I11, L11, D11, hr, h⟩ := h
      refine am_wp_inv (as := [.ref 42, .double (D 77 (Int32.toNatClampNeg v1)), .int (I 78 (Int32.toNatClampNeg v1))]) rfl rfl rfl rfl ⟨_, hr, ?_⟩
      show am_wp ext d mz_192 (74, [some (.ref 42), some (.int v1), some (.int (I 59 (Int32.toNatClampNeg v1))), some (.int (I 60 (Int32.toNatClampNeg v1))), some (.int (I 45 (Int32.toNatClampNeg (I 59 (Int32.toNatClampNeg v1))))), none], [], (I11, L11, D11, am_rf X)) P
      refine am_wpb (c' := (563, [some (.ref 42), some (.int v1), some (.int (I 59 (Int32.toNatClampNeg v1))), some (.int (I 60 (Int32.toNatClampNeg v1))), some (.int (I 45 (Int32.toNatClampNeg (I 59 (Int32.toNatClampNeg v1))))), none], [], (I11, L11, D11, am_rf X))) 1 rfl ?_
      exact am_ret_v rfl rfl h
  · replace h := h.2 z
    refine am_wpb (c' := (43, [some (.ref 42), some (.int v1), some (.int (I 59 (Int32.toNatClampNeg v1))), some (.int (I 60 (Int32.toNatClampNeg v1))), some (.int (I 45 (Int32.toNatClampNeg (I 59 (Int32.toNatClampNeg v1))))), none], [.int (I 59 (Int32.toNatClampNeg v1)), .ref 46, .ref 42], (am_uI I 60 (Int32.toNatClampNeg v1) ((I 60 (Int32.toNatClampNeg v1)) + 1), L, D, am_rf X))) 4 rfl ?_
    obtain ⟨o, h⟩ := h
    refine am_wps (c' := (44, [some (.ref 42), some (.int v1), some (.int (I 59 (Int32.toNatClampNeg v1))), some (.int (I 60 (Int32.toNatClampNeg v1))), some (.int (I 45 (Int32.toNatClampNeg (I 59 (Int32.toNatClampNeg v1))))), none], [.int (I 46 (Int32.toNatClampNeg (I 59 (Int32.toNatClampNeg v1)))), .ref 42], (am_uI I 60 (Int32.toNatClampNeg v1) ((I 60 (Int32.toNatClampNeg v1)) + 1), L, D, am_rf X))) rfl rfl (am_s_iald rfl o) ?_
    refine am_wpb (c' := (46, [some (.ref 42), some (.int v1), some (.int (I 59 (Int32.toNatClampNeg v1))), some (.int (I 60 (Int32.toNatClampNeg v1))), some (.int (I 45 (Int32.toNatClampNeg (I 59 (Int32.toNatClampNeg v1))))), none], [.int 0, .double (FP.i2d (I 46 (Int32.toNatClampNeg (I 59 (Int32.toNatClampNeg v1))))), .ref 42], (am_uI I 60 (Int32.toNatClampNeg v1) ((I 60 (Int32.toNatClampNeg v1)) + 1), L, D, am_rf X))) 2 rfl ?_
    obtain ⟨I12, L12, D12, hr, h⟩ := h
    refine am_wp_inv (as := [.ref 42, .double (FP.i2d (I 46 (Int32.toNatClampNeg (I 59 (Int32.toNatClampNeg v1))))), .int 0]) rfl rfl rfl rfl ⟨_, hr, ?_⟩
    show am_wp ext d mz_192 (49, [some (.ref 42), some (.int v1), some (.int (I 59 (Int32.toNatClampNeg v1))), some (.int (I 60 (Int32.toNatClampNeg v1))), some (.int (I 45 (Int32.toNatClampNeg (I 59 (Int32.toNatClampNeg v1))))), none], [], (I12, L12, D12, am_rf X)) P
    refine am_wpb (c' := (563, [some (.ref 42), some (.int v1), some (.int (I 59 (Int32.toNatClampNeg v1))), some (.int (I 60 (Int32.toNatClampNeg v1))), some (.int (I 45 (Int32.toNatClampNeg (I 59 (Int32.toNatClampNeg v1))))), none], [], (I12, L12, D12, am_rf X))) 1 rfl ?_
    exact am_ret_v rfl rfl h
set_option maxRecDepth 100000 in
theorem w192_183 {ext : Nat → List Value → am_M → Option am_R} {d : Nat} {P : am_R → Prop} (I : Nat → Nat → Int32) (L : Nat → Nat → Int64) (D : Nat → Nat → UInt64) (X : am_Rf) (v4 : Int32)
    (h : ((¬ v4 = 3 → (((¬ v4 = 4 → (((0 < (Op.cmpValue (FP.dcmp (D 42 67) FP.dconst0) .g) → (∃ (I1 : Nat → Nat → Int32) (L1 : Nat → Nat → Int64) (D1 : Nat → Nat → UInt64), am_Rn ext d 190 [.ref 42, .double (D 42 67), .int 0] (I, L, D, am_rf X) (none, (I1, L1, D1, am_rf X)) ∧ (P (none, (I1, L1, D1, am_rf X))))) ∧ (¬ 0 < (Op.cmpValue (FP.dcmp (D 42 67) FP.dconst0) .g) → (am_nn (FP.dsub FP.dconst0 (D 42 67)) = true ∧ (∃ (I2 : Nat → Nat → Int32) (L2 : Nat → Nat → Int64) (D2 : Nat → Nat → UInt64), am_Rn ext d 190 [.ref 42, .double (FP.dsub FP.dconst0 (D 42 67)), .int 0] (I, L, D, am_rf X) (none, (I2, L2, D2, am_rf X)) ∧ (P (none, (I2, L2, D2, am_rf X))))))))) ∧ (v4 = 4 → (∃ (r3 : UInt64) (I3 : Nat → Nat → Int32) (L3 : Nat → Nat → Int64) (D3 : Nat → Nat → UInt64), am_Rn ext d 196 [.double (D 42 67)] (I, L, D, am_rf X) (some (.double r3), (I3, L3, D3, am_rf X)) ∧ (∃ (I4 : Nat → Nat → Int32) (L4 : Nat → Nat → Int64) (D4 : Nat → Nat → UInt64), am_Rn ext d 190 [.ref 42, .double r3, .int 0] (I3, L3, D3, am_rf X) (none, (I4, L4, D4, am_rf X)) ∧ (P (none, (I4, L4, D4, am_rf X))))))))) ∧ (v4 = 3 → (∃ (I5 : Nat → Nat → Int32) (L5 : Nat → Nat → Int64) (D5 : Nat → Nat → UInt64), am_Rn ext d 190 [.ref 42, .double (FP.dneg (D 42 67)), .int 0] (I, L, D, am_rf X) (none, (I5, L5, D5, am_rf X)) ∧ (P (none, (I5, L5, D5, am_rf X))))))) : am_wp ext d mz_192 (183, [some (.ref 42), none, none, none, some (.int v4), none], [], (I, L, D, am_rf X)) P := by
  refine am_wpb (c' := (187, [some (.ref 42), none, none, none, some (.int v4), none], [.int 3, .int v4, .ref 42], (I, L, D, am_rf X))) 3 rfl ?_
  refine am_b2_ne rfl (fun z => ?_) (fun z => ?_)
  · replace h := h.1 z
    refine am_wpb (c' := (201, [some (.ref 42), none, none, none, some (.int v4), none], [.int 4, .int v4, .ref 42], (I, L, D, am_rf X))) 2 rfl ?_
    refine am_b2_ne rfl (fun z => ?_) (fun z => ?_)
    · replace h := h.1 z
      refine am_wpb (c' := (220, [some (.ref 42), none, none, none, some (.int v4), none], [.int (Op.cmpValue (FP.dcmp (D 42 67) FP.dconst0) .g), .ref 42], (I, L, D, am_rf X))) 4 rfl ?_
      refine am_b1_gt rfl (fun z => ?_) (fun z => ?_)
      · replace h := h.1 z
        refine am_wpb (c' := (237, [some (.ref 42), none, none, none, some (.int v4), none], [.int 0, .double (D 42 67), .ref 42], (I, L, D, am_rf X))) 3 rfl ?_
        obtain ⟨I1, L1, D1, hr, h⟩ := h
        refine am_wp_inv (as := [.ref 42, .double (D 42 67), .int 0]) rfl rfl rfl rfl ⟨_, hr, ?_⟩
        show am_wp ext d mz_192 (240, [some (.ref 42), none, none, none, some (.int v4), none], [], (I1, L1, D1, am_rf X)) P
        refine am_wpb (c' := (563, [some (.ref 42), none, none, none, some (.int v4), none], [], (I1, L1, D1, am_rf X))) 1 rfl ?_
        exact am_ret_v rfl rfl h
      · replace h := h.2 z
        refine am_wpb (c' := (228, [some (.ref 42), none, none, none, some (.int v4), none], [.double (D 42 67), .double FP.dconst0, .ref 42], (I, L, D, am_rf X))) 3 rfl ?_
        obtain ⟨o, h⟩ := h
        refine am_wps (c' := (229, [some (.ref 42), none, none, none, some (.int v4), none], [.double (FP.dsub FP.dconst0 (D 42 67)), .ref 42], (I, L, D, am_rf X))) rfl rfl (am_s_dsub o) ?_
        refine am_wpb (c' := (237, [some (.ref 42), none, none, none, some (.int v4), none], [.int 0, .double (FP.dsub FP.dconst0 (D 42 67)), .ref 42], (I, L, D, am_rf X))) 2 rfl ?_
        obtain ⟨I2, L2, D2, hr, h⟩ := h
        refine am_wp_inv (as := [.ref 42, .double (FP.dsub FP.dconst0 (D 42 67)), .int 0]) rfl rfl rfl rfl ⟨_, hr, ?_⟩
        show am_wp ext d mz_192 (240, [some (.ref 42), none, none, none, some (.int v4), none], [], (I2, L2, D2, am_rf X)) P
        refine am_wpb (c' := (563, [some (.ref 42), none, none, none, some (.int v4), none], [], (I2, L2, D2, am_rf X))) 1 rfl ?_
        exact am_ret_v rfl rfl h
    · replace h := h.2 z
      refine am_wpb (c' := (208, [some (.ref 42), none, none, none, some (.int v4), none], [.double (D 42 67), .ref 42], (I, L, D, am_rf X))) 2 rfl ?_
      obtain ⟨r3, I3, L3, D3, hr, h⟩ := h
      refine am_wp_inv (as := [.double (D 42 67)]) rfl rfl rfl rfl ⟨_, hr, ?_⟩
      show am_wp ext d mz_192 (211, [some (.ref 42), none, none, none, some (.int v4), none], [.double r3, .ref 42], (I3, L3, D3, am_rf X)) P
      refine am_wpb (c' := (237, [some (.ref 42), none, none, none, some (.int v4), none], [.int 0, .double r3, .ref 42], (I3, L3, D3, am_rf X))) 2 rfl ?_
      obtain ⟨I4, L4, D4, hr, h⟩ := h
      refine am_wp_inv (as := [.ref 42, .double r3, .int 0]) rfl rfl rfl rfl ⟨_, hr, ?_⟩
      show am_wp ext d mz_192 (240, [some (.ref 42), none, none, none, some (.int v4), none], [], (I4, L4, D4, am_rf X)) P
      refine am_wpb (c' := (563, [some (.ref 42), none, none, none, some (.int v4), none], [], (I4, L4, D4, am_rf X))) 1 rfl ?_
      exact am_ret_v rfl rfl h
  · replace h := h.2 z
    refine am_wpb (c' := (237, [some (.ref 42), none, none, none, some (.int v4), none], [.int 0, .double (FP.dneg (D 42 67)), .ref 42], (I, L, D, am_rf X))) 5 rfl ?_
    obtain ⟨I5, L5, D5, hr, h⟩ := h
    refine am_wp_inv (as := [.ref 42, .double (FP.dneg (D 42 67)), .int 0]) rfl rfl rfl rfl ⟨_, hr, ?_⟩
    show am_wp ext d mz_192 (240, [some (.ref 42), none, none, none, some (.int v4), none], [], (I5, L5, D5, am_rf X)) P
    refine am_wpb (c' := (563, [some (.ref 42), none, none, none, some (.int v4), none], [], (I5, L5, D5, am_rf X))) 1 rfl ?_
    exact am_ret_v rfl rfl h
set_option maxRecDepth 100000 in
theorem w192_441 {ext : Nat → List Value → am_M → Option am_R} {d : Nat} {P : am_R → Prop} (I : Nat → Nat → Int32) (L : Nat → Nat → Int64) (D : Nat → Nat → UInt64) (X : am_Rf) (v1 : Int32) (v2 : Int32)
    (h : am_wp ext d mz_192 (442, [some (.ref 42), some (.int v1), some (.int v2), none, none, none], [.int 0], (I, L, D, am_rf X)) P) : am_wp ext d mz_192 (441, [some (.ref 42), some (.int v1), some (.int v2), none, none, none], [], (I, L, D, am_rf X)) P := by
  refine am_wpb (c' := (442, [some (.ref 42), some (.int v1), some (.int v2), none, none, none], [.int 0], (I, L, D, am_rf X))) 1 rfl ?_
  exact h
set_option maxRecDepth 100000 in
theorem w192_442 {ext : Nat → List Value → am_M → Option am_R} {d : Nat} {P : am_R → Prop} (I : Nat → Nat → Int32) (L : Nat → Nat → Int64) (D : Nat → Nat → UInt64) (X : am_Rf) (v1 : Int32) (v2 : Int32) (s0 : Int32)
    (h : ((s0 = 0 → (am_inb v2 192 = true ∧ (∃ (I1 : Nat → Nat → Int32) (L1 : Nat → Nat → Int64) (D1 : Nat → Nat → UInt64), am_Rn ext d 189 [.ref 42, .int (I 50 (Int32.toNatClampNeg v2)), .int v1] (I, L, D, am_rf X) (none, (I1, L1, D1, am_rf X)) ∧ (P (none, (I1, L1, D1, am_rf X)))))) ∧ (¬ s0 = 0 → (am_inb v2 192 = true ∧ (∃ (I2 : Nat → Nat → Int32) (L2 : Nat → Nat → Int64) (D2 : Nat → Nat → UInt64), am_Rn ext d 189 [.ref 42, .int (I 49 (Int32.toNatClampNeg v2)), .int v1] (I, L, D, am_rf X) (none, (I2, L2, D2, am_rf X)) ∧ (P (none, (I2, L2, D2, am_rf X)))))))) : am_wp ext d mz_192 (442, [some (.ref 42), some (.int v1), some (.int v2), none, none, none], [.int s0], (I, L, D, am_rf X)) P := by
  refine am_wpb (c' := (447, [some (.ref 42), some (.int v1), some (.int v2), none, none, some (.int s0)], [.int s0, .ref 42], (I, L, D, am_rf X))) 3 rfl ?_
  refine am_b1_eq rfl (fun z => ?_) (fun z => ?_)
  · replace h := h.1 z
    refine am_wpb (c' := (464, [some (.ref 42), some (.int v1), some (.int v2), none, none, some (.int s0)], [.int v2, .ref 50, .ref 42], (I, L, D, am_rf X))) 3 rfl ?_
    obtain ⟨o, h⟩ := h
    refine am_wps (c' := (465, [some (.ref 42), some (.int v1), some (.int v2), none, none, some (.int s0)], [.int (I 50 (Int32.toNatClampNeg v2)), .ref 42], (I, L, D, am_rf X))) rfl rfl (am_s_iald rfl o) ?_
    refine am_wpb (c' := (466, [some (.ref 42), some (.int v1), some (.int v2), none, none, some (.int s0)], [.int v1, .int (I 50 (Int32.toNatClampNeg v2)), .ref 42], (I, L, D, am_rf X))) 1 rfl ?_
    obtain ⟨I1, L1, D1, hr, h⟩ := h
    refine am_wp_inv (as := [.ref 42, .int (I 50 (Int32.toNatClampNeg v2)), .int v1]) rfl rfl rfl rfl ⟨_, hr, ?_⟩
    show am_wp ext d mz_192 (469, [some (.ref 42), some (.int v1), some (.int v2), none, none, some (.int s0)], [], (I1, L1, D1, am_rf X)) P
    refine am_wpb (c' := (563, [some (.ref 42), some (.int v1), some (.int v2), none, none, some (.int s0)], [], (I1, L1, D1, am_rf X))) 1 rfl ?_
    exact am_ret_v rfl rfl h
  · replace h := h.2 z
    refine am_wpb (c' := (455, [some (.ref 42), some (.int v1), some (.int v2), none, none, some (.int s0)], [.int v2, .ref 49, .ref 42], (I, L, D, am_rf X))) 3 rfl ?_
    obtain ⟨o, h⟩ := h
    refine am_wps (c' := (456, [some (.ref 42), some (.int v1), some (.int v2), none, none, some (.int s0)], [.int (I 49 (Int32.toNatClampNeg v2)), .ref 42], (I, L, D, am_rf X))) rfl rfl (am_s_iald rfl o) ?_
    refine am_wpb (c' := (466, [some (.ref 42), some (.int v1), some (.int v2), none, none, some (.int s0)], [.int v1, .int (I 49 (Int32.toNatClampNeg v2)), .ref 42], (I, L, D, am_rf X))) 2 rfl ?_
    obtain ⟨I2, L2, D2, hr, h⟩ := h
    refine am_wp_inv (as := [.ref 42, .int (I 49 (Int32.toNatClampNeg v2)), .int v1]) rfl rfl rfl rfl ⟨_, hr, ?_⟩
    show am_wp ext d mz_192 (469, [some (.ref 42), some (.int v1), some (.int v2), none, none, some (.int s0)], [], (I2, L2, D2, am_rf X)) P
    refine am_wpb (c' := (563, [some (.ref 42), some (.int v1), some (.int v2), none, none, some (.int s0)], [], (I2, L2, D2, am_rf X))) 1 rfl ?_
    exact am_ret_v rfl rfl h
set_option maxRecDepth 100000 in
theorem w192_472 {ext : Nat → List Value → am_M → Option am_R} {d : Nat} {P : am_R → Prop} (I : Nat → Nat → Int32) (L : Nat → Nat → Int64) (D : Nat → Nat → UInt64) (X : am_Rf) (v1 : Int32) (v3 : Int32) (v4 : Int32)
    (h : ((¬ v3 = 2 → (∃ (I1 : Nat → Nat → Int32) (L1 : Nat → Nat → Int64) (D1 : Nat → Nat → UInt64), am_Rn ext d 190 [.ref 42, .double (D 42 67), .int (I 42 68)] (I, L, D, am_rf X) (none, (I1, L1, D1, am_rf X)) ∧ (P (none, (I1, L1, D1, am_rf X))))) ∧ (v3 = 2 → (((¬ (I 42 68) = 0 → (am_wp ext d mz_192 (511, [some (.ref 42), some (.int v1), none, none, some (.int v4), none], [], (I, L, D, am_rf X)) P)) ∧ ((I 42 68) = 0 → (am_inb v1 128 = true ∧ (((¬ (I 80 (Int32.toNatClampNeg v1)) = 0 → (am_wp ext d mz_192 (511, [some (.ref 42), some (.int v1), none, none, some (.int v4), none], [], (I, L, D, am_rf X)) P)) ∧ ((I 80 (Int32.toNatClampNeg v1)) = 0 → (am_inb v1 128 = true ∧ (∃ (r2 : Int32) (I2 : Nat → Nat → Int32) (L2 : Nat → Nat → Int64) (D2 : Nat → Nat → UInt64), am_Rn ext d 194 [.int v4, .double (D 79 (Int32.toNatClampNeg v1)), .double (D 42 67)] (I, L, D, am_rf X) (some (.int r2), (I2, L2, D2, am_rf X)) ∧ (((r2 = 0 → (am_wp ext d mz_192 (516, [some (.ref 42), some (.int v1), none, none, some (.int v4), none], [.int 0], (I2, L2, D2, am_rf X)) P)) ∧ (¬ r2 = 0 → (am_wp ext d mz_192 (511, [some (.ref 42), some (.int v1), none, none, some (.int v4), none], [], (I2, L2, D2, am_rf X)) P)))))))))))))))) : am_wp ext d mz_192 (472, [some (.ref 42), some (.int v1), none, some (.int v3), some (.int v4), none], [], (I, L, D, am_rf X)) P := by
  refine am_wpb (c' := (474, [some (.ref 42), some (.int v1), none, some (.int v3), some (.int v4), none], [.int 2, .int v3], (I, L, D, am_rf X))) 2 rfl ?_
  refine am_b2_ne rfl (fun z => ?_) (fun z => ?_)
  · replace h := h.1 z
    refine am_wpb (c' := (560, [some (.ref 42), some (.int v1), none, some (.int v3), some (.int v4), none], [.int (I 42 68), .double (D 42 67), .ref 42], (I, L, D, am_rf X))) 5 rfl ?_
    obtain ⟨I1, L1, D1, hr, h⟩ := h
    refine am_wp_inv (as := [.ref 42, .double (D 42 67), .int (I 42 68)]) rfl rfl rfl rfl ⟨_, hr, ?_⟩
    show am_wp ext d mz_192 (563, [some (.ref 42), some (.int v1), none, some (.int v3), some (.int v4), none], [], (I1, L1, D1, am_rf X)) P
    exact am_ret_v rfl rfl h
  · replace h := h.2 z
    refine am_wpb (c' := (481, [some (.ref 42), some (.int v1), none, some (.int v3), some (.int v4), none], [.int (I 42 68)], (I, L, D, am_rf X))) 2 rfl ?_
    refine am_b1_ne rfl (fun z => ?_) (fun z => ?_)
    · replace h := h.1 z
      exact am_fgt (l := [some (.ref 42), some (.int v1), none, none, some (.int v4), none]) (am_le_of (am_leS (am_leS (am_leN (am_leN (am_leS (am_leN (am_leZ)))))))) h
    · replace h := h.2 z
      refine am_wpb (c' := (489, [some (.ref 42), some (.int v1), none, some (.int v3), some (.int v4), none], [.int v1, .ref 80], (I, L, D, am_rf X))) 3 rfl ?_
      obtain ⟨o, h⟩ := h
      refine am_wps (c' := (490, [some (.ref 42), some (.int v1), none, some (.int v3), some (.int v4), none], [.int (I 80 (Int32.toNatClampNeg v1))], (I, L, D, am_rf X))) rfl rfl (am_s_zald rfl o) ?_
      refine am_b1_ne rfl (fun z => ?_) (fun z => ?_)
      · replace h := h.1 z
        exact am_fgt (l := [some (.ref 42), some (.int v1), none, none, some (.int v4), none]) (am_le_of (am_leS (am_leS (am_leN (am_leN (am_leS (am_leN (am_leZ)))))))) h
      · replace h := h.2 z
        refine am_wpb (c' := (500, [some (.ref 42), some (.int v1), none, some (.int v3), some (.int v4), none], [.int v1, .ref 79, .int v4], (I, L, D, am_rf X))) 4 rfl ?_
        obtain ⟨o, h⟩ := h
        refine am_wps (c' := (501, [some (.ref 42), some (.int v1), none, some (.int v3), some (.int v4), none], [.double (D 79 (Int32.toNatClampNeg v1)), .int v4], (I, L, D, am_rf X))) rfl rfl (am_s_dald rfl o) ?_
        refine am_wpb (c' := (505, [some (.ref 42), some (.int v1), none, some (.int v3), some (.int v4), none], [.double (D 42 67), .double (D 79 (Int32.toNatClampNeg v1)), .int v4], (I, L, D, am_rf X))) 2 rfl ?_
        obtain ⟨r2, I2, L2, D2, hr, h⟩ := h
        refine am_wp_inv (as := [.int v4, .double (D 79 (Int32.toNatClampNeg v1)), .double (D 42 67)]) rfl rfl rfl rfl ⟨_, hr, ?_⟩
        show am_wp ext d mz_192 (508, [some (.ref 42), some (.int v1), none, some (.int v3), some (.int v4), none], [.int r2], (I2, L2, D2, am_rf X)) P
        refine am_b1_eq rfl (fun z => ?_) (fun z => ?_)
        · replace h := h.1 z
          refine am_wpb (c' := (516, [some (.ref 42), some (.int v1), none, some (.int v3), some (.int v4), none], [.int 0], (I2, L2, D2, am_rf X))) 1 rfl ?_
          exact am_fgt (l := [some (.ref 42), some (.int v1), none, none, some (.int v4), none]) (am_le_of (am_leS (am_leS (am_leN (am_leN (am_leS (am_leN (am_leZ)))))))) h
        · replace h := h.2 z
          exact am_fgt (l := [some (.ref 42), some (.int v1), none, none, some (.int v4), none]) (am_le_of (am_leS (am_leS (am_leN (am_leN (am_leS (am_leN (am_leZ)))))))) h
set_option maxRecDepth 100000 in
theorem w192_511 {ext : Nat → List Value → am_M → Option am_R} {d : Nat} {P : am_R → Prop} (I : Nat → Nat → Int32) (L : Nat → Nat → Int64) (D : Nat → Nat → UInt64) (X : am_Rf) (v1 : Int32) (v4 : Int32)
    (h : am_wp ext d mz_192 (516, [some (.ref 42), some (.int v1), none, none, some (.int v4), none], [.int 1], (I, L, D, am_rf X)) P) : am_wp ext d mz_192 (511, [some (.ref 42), some (.int v1), none, none, some (.int v4), none], [], (I, L, D, am_rf X)) P := by
  refine am_wpb (c' := (516, [some (.ref 42), some (.int v1), none, none, some (.int v4), none], [.int 1], (I, L, D, am_rf X))) 2 rfl ?_
  exact h
set_option maxRecDepth 100000 in
theorem w192_516 {ext : Nat → List Value → am_M → Option am_R} {d : Nat} {P : am_R → Prop} (I : Nat → Nat → Int32) (L : Nat → Nat → Int64) (D : Nat → Nat → UInt64) (X : am_Rf) (v1 : Int32) (v4 : Int32) (s0 : Int32)
    (h : ((s0 = 0 → (am_inb v1 128 = true ∧ (∃ (r1 : UInt64) (I1 : Nat → Nat → Int32) (L1 : Nat → Nat → Int64) (D1 : Nat → Nat → UInt64), am_Rn ext d 195 [.int v4, .double (D 79 (Int32.toNatClampNeg v1)), .double (D 42 67)] (I, L, D, am_rf X) (some (.double r1), (I1, L1, D1, am_rf X)) ∧ (∃ (I2 : Nat → Nat → Int32) (L2 : Nat → Nat → Int64) (D2 : Nat → Nat → UInt64), am_Rn ext d 190 [.ref 42, .double r1, .int s0] (I1, L1, D1, am_rf X) (none, (I2, L2, D2, am_rf X)) ∧ (P (none, (I2, L2, D2, am_rf X))))))) ∧ (¬ s0 = 0 → (∃ (I3 : Nat → Nat → Int32) (L3 : Nat → Nat → Int64) (D3 : Nat → Nat → UInt64), am_Rn ext d 190 [.ref 42, .double FP.dconst0, .int s0] (I, L, D, am_rf X) (none, (I3, L3, D3, am_rf X)) ∧ (P (none, (I3, L3, D3, am_rf X))))))) : am_wp ext d mz_192 (516, [some (.ref 42), some (.int v1), none, none, some (.int v4), none], [.int s0], (I, L, D, am_rf X)) P := by
  refine am_wpb (c' := (521, [some (.ref 42), some (.int v1), none, none, some (.int v4), some (.int s0)], [.int s0, .ref 42], (I, L, D, am_rf X))) 3 rfl ?_
  refine am_b1_eq rfl (fun z => ?_) (fun z => ?_)
  · replace h := h.1 z
    refine am_wpb (c' := (535, [some (.ref 42), some (.int v1), none, none, some (.int v4), some (.int s0)], [.int v1, .ref 79, .int v4, .ref 42], (I, L, D, am_rf X))) 4 rfl ?_
    obtain ⟨o, h⟩ := h
    refine am_wps (c' := (536, [some (.ref 42), some (.int v1), none, none, some (.int v4), some (.int s0)], [.double (D 79 (Int32.toNatClampNeg v1)), .int v4, .ref 42], (I, L, D, am_rf X))) rfl rfl (am_s_dald rfl o) ?_
    refine am_wpb (c' := (540, [some (.ref 42), some (.int v1), none, none, some (.int v4), some (.int s0)], [.double (D 42 67), .double (D 79 (Int32.toNatClampNeg v1)), .int v4, .ref 42], (I, L, D, am_rf X))) 2 rfl ?_
    obtain ⟨r1, I1, L1, D1, hr, h⟩ := h
    refine am_wp_inv (as := [.int v4, .double (D 79 (Int32.toNatClampNeg v1)), .double (D 42 67)]) rfl rfl rfl rfl ⟨_, hr, ?_⟩
    show am_wp ext d mz_192 (543, [some (.ref 42), some (.int v1), none, none, some (.int v4), some (.int s0)], [.double r1, .ref 42], (I1, L1, D1, am_rf X)) P
    refine am_wpb (c' := (545, [some (.ref 42), some (.int v1), none, none, some (.int v4), some (.int s0)], [.int s0, .double r1, .ref 42], (I1, L1, D1, am_rf X))) 1 rfl ?_
    obtain ⟨I2, L2, D2, hr, h⟩ := h
    refine am_wp_inv (as := [.ref 42, .double r1, .int s0]) rfl rfl rfl rfl ⟨_, hr, ?_⟩
    show am_wp ext d mz_192 (548, [some (.ref 42), some (.int v1), none, none, some (.int v4), some (.int s0)], [], (I2, L2, D2, am_rf X)) P
    refine am_wpb (c' := (563, [some (.ref 42), some (.int v1), none, none, some (.int v4), some (.int s0)], [], (I2, L2, D2, am_rf X))) 1 rfl ?_
    exact am_ret_v rfl rfl h
  · replace h := h.2 z
    refine am_wpb (c' := (545, [some (.ref 42), some (.int v1), none, none, some (.int v4), some (.int s0)], [.int s0, .double FP.dconst0, .ref 42], (I, L, D, am_rf X))) 3 rfl ?_
    obtain ⟨I3, L3, D3, hr, h⟩ := h
    refine am_wp_inv (as := [.ref 42, .double FP.dconst0, .int s0]) rfl rfl rfl rfl ⟨_, hr, ?_⟩
    show am_wp ext d mz_192 (548, [some (.ref 42), some (.int v1), none, none, some (.int v4), some (.int s0)], [], (I3, L3, D3, am_rf X)) P
    refine am_wpb (c' := (563, [some (.ref 42), some (.int v1), none, none, some (.int v4), some (.int s0)], [], (I3, L3, D3, am_rf X))) 1 rfl ?_
    exact am_ret_v rfl rfl h
