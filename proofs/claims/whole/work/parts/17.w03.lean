/-- SureSums$Fractions.push(JJ)Z -/
def mz_29 : am_Y := (fun pc => am_q29.lookup pc, 8, 2)
theorem mh_29 : am_Ys 29 = some mz_29 := rfl
theorem w29_0 {ext : Nat → List Value → am_M → Option am_R} {d : Nat} {P : am_R → Prop} (I : Nat → Nat → Int32) (L : Nat → Nat → Int64) (D : Nat → Nat → UInt64) (X : am_Rf) (v1 : Int64) (v3 : Int64)
    (h : ((v3 = 0 → (P (some (.int 0), (I, L, D, am_rf X)))) ∧ (¬ v3 = 0 → ((((I 29 4) < 100 → (((0 ≤ v3 → (∃ (r1 : Int64) (I1 : Nat → Nat → Int32) (L1 : Nat → Nat → Int64) (D1 : Nat → Nat → UInt64), am_Rn ext d 30 [.long v1, .long v3] (I, L, D, am_rf X) (some (.long r1), (I1, L1, D1, am_rf X)) ∧ (am_wp ext d mz_29 (37, [some (.ref 29), some (.long v1), none, some (.long v3), none, none, none, none], [.long r1], (I1, L1, D1, am_rf X)) P))) ∧ (¬ 0 ≤ v3 → (∃ (r2 : Int64) (I2 : Nat → Nat → Int32) (L2 : Nat → Nat → Int64) (D2 : Nat → Nat → UInt64), am_Rn ext d 30 [.long v1, .long v3] (I, L, D, am_rf X) (some (.long r2), (I2, L2, D2, am_rf X)) ∧ (am_wp ext d mz_29 (37, [some (.ref 29), some (.long v1), none, some (.long v3), none, none, none, none], [.long (-r2)], (I2, L2, D2, am_rf X)) P)))))) ∧ (¬ (I 29 4) < 100 → (P (some (.int 0), (I, L, D, am_rf X))))))))) : am_wp ext d mz_29 (0, [some (.ref 29), some (.long v1), none, some (.long v3), none, none, none, none], [], (I, L, D, am_rf X)) P := by
  refine am_wpb (c' := (2, [some (.ref 29), some (.long v1), none, some (.long v3), none, none, none, none], [.long 0, .long v3], (I, L, D, am_rf X))) 2 rfl ?_
  refine am_lc_eq rfl rfl (fun z => ?_) (fun z => ?_)
  · replace h := h.1 z
    refine am_wpb (c' := (16, [some (.ref 29), some (.long v1), none, some (.long v3), none, none, none, none], [.int 0], (I, L, D, am_rf X))) 1 rfl ?_
    exact am_ret_z rfl rfl (Or.inl rfl) h
  · replace h := h.2 z
    refine am_wpb (c' := (12, [some (.ref 29), some (.long v1), none, some (.long v3), none, none, none, none], [.int 100, .int (I 29 4)], (I, L, D, am_rf X))) 3 rfl ?_
    refine am_b2_lt rfl (fun z => ?_) (fun z => ?_)
    · replace h := h.1 z
      refine am_wpb (c' := (19, [some (.ref 29), some (.long v1), none, some (.long v3), none, none, none, none], [.long 0, .long v3], (I, L, D, am_rf X))) 2 rfl ?_
      refine am_lc_ge rfl rfl (fun z => ?_) (fun z => ?_)
      · replace h := h.1 z
        refine am_wpb (c' := (34, [some (.ref 29), some (.long v1), none, some (.long v3), none, none, none, none], [.long v3, .long v1], (I, L, D, am_rf X))) 2 rfl ?_
        obtain ⟨r1, I1, L1, D1, hr, h⟩ := h
        refine am_wp_inv (as := [.long v1, .long v3]) rfl rfl rfl rfl ⟨_, hr, ?_⟩
        show am_wp ext d mz_29 (37, [some (.ref 29), some (.long v1), none, some (.long v3), none, none, none, none], [.long r1], (I1, L1, D1, am_rf X)) P
        exact h
      · replace h := h.2 z
        refine am_wpb (c' := (25, [some (.ref 29), some (.long v1), none, some (.long v3), none, none, none, none], [.long v3, .long v1], (I, L, D, am_rf X))) 2 rfl ?_
        obtain ⟨r2, I2, L2, D2, hr, h⟩ := h
        refine am_wp_inv (as := [.long v1, .long v3]) rfl rfl rfl rfl ⟨_, hr, ?_⟩
        show am_wp ext d mz_29 (28, [some (.ref 29), some (.long v1), none, some (.long v3), none, none, none, none], [.long r2], (I2, L2, D2, am_rf X)) P
        refine am_wpb (c' := (37, [some (.ref 29), some (.long v1), none, some (.long v3), none, none, none, none], [.long (-r2)], (I2, L2, D2, am_rf X))) 2 rfl ?_
        exact h
    · replace h := h.2 z
      refine am_wpb (c' := (16, [some (.ref 29), some (.long v1), none, some (.long v3), none, none, none, none], [.int 0], (I, L, D, am_rf X))) 1 rfl ?_
      exact am_ret_z rfl rfl (Or.inl rfl) h
theorem w29_37 {ext : Nat → List Value → am_M → Option am_R} {d : Nat} {P : am_R → Prop} (I : Nat → Nat → Int32) (L : Nat → Nat → Int64) (D : Nat → Nat → UInt64) (X : am_Rf) (v1 : Int64) (v3 : Int64) (s0 : Int64)
    (h : ((¬ s0 = 0 → (¬ s0 = 0 ∧ (am_inb (I 29 4) 100 = true ∧ (¬ s0 = 0 ∧ (am_inb (I 29 4) 100 = true ∧ (am_inb (I 29 4) 100 = true ∧ (∃ (r1 : Int64) (I1 : Nat → Nat → Int32) (L1 : Nat → Nat → Int64) (D1 : Nat → Nat → UInt64), am_Rn ext d 205 [.long ((am_uL L 32 (Int32.toNatClampNeg (I 29 4)) (v1 / s0)) 32 (Int32.toNatClampNeg (I 29 4)))] (I, am_uL (am_uL L 32 (Int32.toNatClampNeg (I 29 4)) (v1 / s0)) 33 (Int32.toNatClampNeg (I 29 4)) (v3 / s0), D, am_rf X) (some (.long r1), (I1, L1, D1, am_rf X)) ∧ (((1000000000 < r1 → (P (some (.int 0), (am_uI I1 29 4 ((I1 29 4) + 1), L1, D1, am_rf X)))) ∧ (¬ 1000000000 < r1 → (am_inb (I1 29 4) 100 = true ∧ (((1000000000 < (L1 33 (Int32.toNatClampNeg (I1 29 4))) → (P (some (.int 0), (am_uI I1 29 4 ((I1 29 4) + 1), L1, D1, am_rf X)))) ∧ (¬ 1000000000 < (L1 33 (Int32.toNatClampNeg (I1 29 4))) → (P (some (.int 1), (am_uI I1 29 4 ((I1 29 4) + 1), L1, D1, am_rf X))))))))))))))))) ∧ (s0 = 0 → (P (some (.int 0), (I, L, D, am_rf X)))))) : am_wp ext d mz_29 (37, [some (.ref 29), some (.long v1), none, some (.long v3), none, none, none, none], [.long s0], (I, L, D, am_rf X)) P := by
  refine am_wpb (c' := (42, [some (.ref 29), some (.long v1), none, some (.long v3), none, some (.long s0), none, none], [.long 0, .long s0], (I, L, D, am_rf X))) 3 rfl ?_
  refine am_lc_ne rfl rfl (fun z => ?_) (fun z => ?_)
  · replace h := h.1 z
    refine am_wpb (c' := (59, [some (.ref 29), some (.long v1), none, some (.long v3), none, some (.long s0), none, none], [.long s0, .long v1, .int (I 29 4), .ref 32], (I, L, D, am_rf X))) 6 rfl ?_
    obtain ⟨o, h⟩ := h
    refine am_wps (c' := (60, [some (.ref 29), some (.long v1), none, some (.long v3), none, some (.long s0), none, none], [.long (v1 / s0), .int (I 29 4), .ref 32], (I, L, D, am_rf X))) rfl rfl (am_s_ldiv o) ?_
    obtain ⟨o, h⟩ := h
    refine am_wps (c' := (61, [some (.ref 29), some (.long v1), none, some (.long v3), none, some (.long s0), none, none], [], (I, am_uL L 32 (Int32.toNatClampNeg (I 29 4)) (v1 / s0), D, am_rf X))) rfl rfl (am_s_last rfl o) ?_
    refine am_wpb (c' := (72, [some (.ref 29), some (.long v1), none, some (.long v3), none, some (.long s0), none, none], [.long s0, .long v3, .int (I 29 4), .ref 33], (I, am_uL L 32 (Int32.toNatClampNeg (I 29 4)) (v1 / s0), D, am_rf X))) 6 rfl ?_
    obtain ⟨o, h⟩ := h
    refine am_wps (c' := (73, [some (.ref 29), some (.long v1), none, some (.long v3), none, some (.long s0), none, none], [.long (v3 / s0), .int (I 29 4), .ref 33], (I, am_uL L 32 (Int32.toNatClampNeg (I 29 4)) (v1 / s0), D, am_rf X))) rfl rfl (am_s_ldiv o) ?_
    obtain ⟨o, h⟩ := h
    refine am_wps (c' := (74, [some (.ref 29), some (.long v1), none, some (.long v3), none, some (.long s0), none, none], [], (I, am_uL (am_uL L 32 (Int32.toNatClampNeg (I 29 4)) (v1 / s0)) 33 (Int32.toNatClampNeg (I 29 4)) (v3 / s0), D, am_rf X))) rfl rfl (am_s_last rfl o) ?_
    refine am_wpb (c' := (82, [some (.ref 29), some (.long v1), none, some (.long v3), none, some (.long s0), none, none], [.int (I 29 4), .ref 32], (I, am_uL (am_uL L 32 (Int32.toNatClampNeg (I 29 4)) (v1 / s0)) 33 (Int32.toNatClampNeg (I 29 4)) (v3 / s0), D, am_rf X))) 4 rfl ?_
    obtain ⟨o, h⟩ := h
    refine am_wps (c' := (83, [some (.ref 29), some (.long v1), none, some (.long v3), none, some (.long s0), none, none], [.long ((am_uL L 32 (Int32.toNatClampNeg (I 29 4)) (v1 / s0)) 32 (Int32.toNatClampNeg (I 29 4)))], (I, am_uL (am_uL L 32 (Int32.toNatClampNeg (I 29 4)) (v1 / s0)) 33 (Int32.toNatClampNeg (I 29 4)) (v3 / s0), D, am_rf X))) rfl rfl (am_s_lald rfl o) ?_
    obtain ⟨r1, I1, L1, D1, hr, h⟩ := h
    refine am_wp_inv (as := [.long ((am_uL L 32 (Int32.toNatClampNeg (I 29 4)) (v1 / s0)) 32 (Int32.toNatClampNeg (I 29 4)))]) rfl rfl rfl rfl ⟨_, hr, ?_⟩
    show am_wp ext d mz_29 (86, [some (.ref 29), some (.long v1), none, some (.long v3), none, some (.long s0), none, none], [.long r1], (I1, L1, D1, am_rf X)) P
    refine am_wpb (c' := (89, [some (.ref 29), some (.long v1), none, some (.long v3), none, some (.long s0), none, none], [.long 1000000000, .long r1], (I1, L1, D1, am_rf X))) 1 rfl ?_
    refine am_lc_gt rfl rfl (fun z => ?_) (fun z => ?_)
    · replace h := h.1 z
      refine am_wpb (c' := (128, [some (.ref 29), some (.long v1), none, some (.long v3), none, some (.long s0), none, some (.int 0)], [.int 0], (am_uI I1 29 4 ((I1 29 4) + 1), L1, D1, am_rf X))) 9 rfl ?_
      exact am_ret_z rfl rfl (Or.inl rfl) h
    · replace h := h.2 z
      refine am_wpb (c' := (101, [some (.ref 29), some (.long v1), none, some (.long v3), none, some (.long s0), none, none], [.int (I1 29 4), .ref 33], (I1, L1, D1, am_rf X))) 4 rfl ?_
      obtain ⟨o, h⟩ := h
      refine am_wps (c' := (102, [some (.ref 29), some (.long v1), none, some (.long v3), none, some (.long s0), none, none], [.long (L1 33 (Int32.toNatClampNeg (I1 29 4)))], (I1, L1, D1, am_rf X))) rfl rfl (am_s_lald rfl o) ?_
      refine am_wpb (c' := (105, [some (.ref 29), some (.long v1), none, some (.long v3), none, some (.long s0), none, none], [.long 1000000000, .long (L1 33 (Int32.toNatClampNeg (I1 29 4)))], (I1, L1, D1, am_rf X))) 1 rfl ?_
      refine am_lc_gt rfl rfl (fun z => ?_) (fun z => ?_)
      · replace h := h.1 z
        refine am_wpb (c' := (128, [some (.ref 29), some (.long v1), none, some (.long v3), none, some (.long s0), none, some (.int 0)], [.int 0], (am_uI I1 29 4 ((I1 29 4) + 1), L1, D1, am_rf X))) 9 rfl ?_
        exact am_ret_z rfl rfl (Or.inl rfl) h
      · replace h := h.2 z
        refine am_wpb (c' := (128, [some (.ref 29), some (.long v1), none, some (.long v3), none, some (.long s0), none, some (.int 1)], [.int 1], (am_uI I1 29 4 ((I1 29 4) + 1), L1, D1, am_rf X))) 10 rfl ?_
        exact am_ret_z rfl rfl (Or.inr rfl) h
  · replace h := h.2 z
    refine am_wpb (c' := (47, [some (.ref 29), some (.long v1), none, some (.long v3), none, some (.long s0), none, none], [.int 0], (I, L, D, am_rf X))) 1 rfl ?_
    exact am_ret_z rfl rfl (Or.inl rfl) h
/-- SureSums$Fractions.commonPart(JJ)J -/
def mz_30 : am_Y := (fun pc => am_q30.lookup pc, 11, 3)
theorem mh_30 : am_Ys 30 = some mz_30 := rfl
theorem w30_0 {ext : Nat → List Value → am_M → Option am_R} {d : Nat} {P : am_R → Prop} (I : Nat → Nat → Int32) (L : Nat → Nat → Int64) (D : Nat → Nat → UInt64) (X : am_Rf) (v0 : Int64) (v2 : Int64)
    (h : ∃ (r1 : Int64) (I1 : Nat → Nat → Int32) (L1 : Nat → Nat → Int64) (D1 : Nat → Nat → UInt64), am_Rn ext d 205 [.long v0] (I, L, D, am_rf X) (some (.long r1), (I1, L1, D1, am_rf X)) ∧ (∃ (r2 : Int64) (I2 : Nat → Nat → Int32) (L2 : Nat → Nat → Int64) (D2 : Nat → Nat → UInt64), am_Rn ext d 205 [.long v2] (I1, L1, D1, am_rf X) (some (.long r2), (I2, L2, D2, am_rf X)) ∧ (am_wp ext d mz_30 (15, [none, none, none, none, some (.long r1), none, some (.long r2), none, some (.int 0), none, none], [], (I2, L2, D2, am_rf X)) P))) : am_wp ext d mz_30 (0, [some (.long v0), none, some (.long v2), none, none, none, none, none, none, none, none], [], (I, L, D, am_rf X)) P := by
  refine am_wpb (c' := (1, [some (.long v0), none, some (.long v2), none, none, none, none, none, none, none, none], [.long v0], (I, L, D, am_rf X))) 1 rfl ?_
  obtain ⟨r1, I1, L1, D1, hr, h⟩ := h
  refine am_wp_inv (as := [.long v0]) rfl rfl rfl rfl ⟨_, hr, ?_⟩
  show am_wp ext d mz_30 (4, [some (.long v0), none, some (.long v2), none, none, none, none, none, none, none, none], [.long r1], (I1, L1, D1, am_rf X)) P
  refine am_wpb (c' := (7, [some (.long v0), none, some (.long v2), none, some (.long r1), none, none, none, none, none, none], [.long v2], (I1, L1, D1, am_rf X))) 2 rfl ?_
  obtain ⟨r2, I2, L2, D2, hr, h⟩ := h
  refine am_wp_inv (as := [.long v2]) rfl rfl rfl rfl ⟨_, hr, ?_⟩
  show am_wp ext d mz_30 (10, [some (.long v0), none, some (.long v2), none, some (.long r1), none, none, none, none, none, none], [.long r2], (I2, L2, D2, am_rf X)) P
  refine am_wpb (c' := (15, [some (.long v0), none, some (.long v2), none, some (.long r1), none, some (.long r2), none, some (.int 0), none, none], [], (I2, L2, D2, am_rf X))) 3 rfl ?_
  exact am_fgt (l := [none, none, none, none, some (.long r1), none, some (.long r2), none, some (.int 0), none, none]) (am_le_of (am_leN (am_leN (am_leN (am_leN (am_leS (am_leN (am_leS (am_leN (am_leS (am_leN (am_leN (am_leZ))))))))))))) h
theorem w30_15 {ext : Nat → List Value → am_M → Option am_R} {d : Nat} {P : am_R → Prop} (I : Nat → Nat → Int32) (L : Nat → Nat → Int64) (D : Nat → Nat → UInt64) (X : am_Rf) (v4 : Int64) (v6 : Int64) (v8 : Int32)
    (h : ((128 ≤ v8 → (P (some (.long v4), (I, L, D, am_rf X)))) ∧ (¬ 128 ≤ v8 → (((v6 = 0 → (P (some (.long v4), (I, L, D, am_rf X)))) ∧ (¬ v6 = 0 → (¬ v6 = 0 ∧ (am_wp ext d mz_30 (15, [none, none, none, none, some (.long v6), none, some (.long (v4 - v4 / v6 * v6)), none, some (.int (v8 + 1)), none, none], [], (I, L, D, am_rf X)) P)))))))) : am_wp ext d mz_30 (15, [none, none, none, none, some (.long v4), none, some (.long v6), none, some (.int v8), none, none], [], (I, L, D, am_rf X)) P := by
  refine am_wpb (c' := (20, [none, none, none, none, some (.long v4), none, some (.long v6), none, some (.int v8), none, none], [.int 128, .int v8], (I, L, D, am_rf X))) 2 rfl ?_
  refine am_b2_ge rfl (fun z => ?_) (fun z => ?_)
  · replace h := h.1 z
    refine am_wpb (c' := (53, [none, none, none, none, some (.long v4), none, some (.long v6), none, some (.int v8), none, none], [.long v4], (I, L, D, am_rf X))) 1 rfl ?_
    exact am_ret_l rfl rfl h
  · replace h := h.2 z
    refine am_wpb (c' := (26, [none, none, none, none, some (.long v4), none, some (.long v6), none, some (.int v8), none, none], [.long 0, .long v6], (I, L, D, am_rf X))) 2 rfl ?_
    refine am_lc_eq rfl rfl (fun z => ?_) (fun z => ?_)
    · replace h := h.1 z
      refine am_wpb (c' := (53, [none, none, none, none, some (.long v4), none, some (.long v6), none, some (.int v8), none, none], [.long v4], (I, L, D, am_rf X))) 1 rfl ?_
      exact am_ret_l rfl rfl h
    · replace h := h.2 z
      refine am_wpb (c' := (34, [none, none, none, none, some (.long v4), none, some (.long v6), none, some (.int v8), none, none], [.long v6, .long v4], (I, L, D, am_rf X))) 2 rfl ?_
      obtain ⟨o, h⟩ := h
      refine am_wps (c' := (35, [none, none, none, none, some (.long v4), none, some (.long v6), none, some (.int v8), none, none], [.long (v4 - v4 / v6 * v6)], (I, L, D, am_rf X))) rfl rfl (am_s_lrem o) ?_
      refine am_wpb (c' := (15, [none, none, none, none, some (.long v6), none, some (.long (v4 - v4 / v6 * v6)), none, some (.int (v8 + 1)), some (.long (v4 - v4 / v6 * v6)), none], [], (I, L, D, am_rf X))) 7 rfl ?_
      exact am_fgt (l := [none, none, none, none, some (.long v6), none, some (.long (v4 - v4 / v6 * v6)), none, some (.int (v8 + 1)), none, none]) (am_le_of (am_leN (am_leN (am_leN (am_leN (am_leS (am_leN (am_leS (am_leN (am_leS (am_leN (am_leN (am_leZ))))))))))))) h
/-- SureSums$Program.clear()V -/
def mz_31 : am_Y := (fun pc => am_q31.lookup pc, 1, 0)
theorem mh_31 : am_Ys 31 = some mz_31 := rfl
theorem w31_0_2 {ext : Nat → List Value → am_M → Option am_R} {d : Nat} {P : am_R → Prop} (I : Nat → Nat → Int32) (L : Nat → Nat → Int64) (D : Nat → Nat → UInt64) (X : am_Rf)
    (h : ∃ (I1 : Nat → Nat → Int32) (L1 : Nat → Nat → Int64) (D1 : Nat → Nat → UInt64), am_Rn ext d 207 [.ref 3, .int (-1)] (I, L, D, am_rf X) (none, (I1, L1, D1, am_rf X)) ∧ (P (none, (am_uI (am_uI (am_uI (am_uI (am_uI I1 2 8 0) 2 9 0) 2 10 0) 2 11 0) 2 12 0, L1, D1, am_rf X)))) : am_wp ext d mz_31 (0, [some (.ref 2)], [], (I, L, D, am_rf X)) P := by
  refine am_wpb (c' := (5, [some (.ref 2)], [.int (-1), .ref 3], (I, L, D, am_rf X))) 3 rfl ?_
  obtain ⟨I1, L1, D1, hr, h⟩ := h
  refine am_wp_inv (as := [.ref 3, .int (-1)]) rfl rfl rfl rfl ⟨_, hr, ?_⟩
  show am_wp ext d mz_31 (8, [some (.ref 2)], [], (I1, L1, D1, am_rf X)) P
  refine am_wpb (c' := (33, [some (.ref 2)], [], (am_uI (am_uI (am_uI (am_uI (am_uI I1 2 8 0) 2 9 0) 2 10 0) 2 11 0) 2 12 0, L1, D1, am_rf X))) 15 rfl ?_
  exact am_ret_v rfl rfl h
theorem w31_0_11 {ext : Nat → List Value → am_M → Option am_R} {d : Nat} {P : am_R → Prop} (I : Nat → Nat → Int32) (L : Nat → Nat → Int64) (D : Nat → Nat → UInt64) (X : am_Rf)
    (h : ∃ (I1 : Nat → Nat → Int32) (L1 : Nat → Nat → Int64) (D1 : Nat → Nat → UInt64), am_Rn ext d 207 [.ref 12, .int (-1)] (I, L, D, am_rf X) (none, (I1, L1, D1, am_rf X)) ∧ (P (none, (am_uI (am_uI (am_uI (am_uI (am_uI I1 11 8 0) 11 9 0) 11 10 0) 11 11 0) 11 12 0, L1, D1, am_rf X)))) : am_wp ext d mz_31 (0, [some (.ref 11)], [], (I, L, D, am_rf X)) P := by
  refine am_wpb (c' := (5, [some (.ref 11)], [.int (-1), .ref 12], (I, L, D, am_rf X))) 3 rfl ?_
  obtain ⟨I1, L1, D1, hr, h⟩ := h
  refine am_wp_inv (as := [.ref 12, .int (-1)]) rfl rfl rfl rfl ⟨_, hr, ?_⟩
  show am_wp ext d mz_31 (8, [some (.ref 11)], [], (I1, L1, D1, am_rf X)) P
  refine am_wpb (c' := (33, [some (.ref 11)], [], (am_uI (am_uI (am_uI (am_uI (am_uI I1 11 8 0) 11 9 0) 11 10 0) 11 11 0) 11 12 0, L1, D1, am_rf X))) 15 rfl ?_
  exact am_ret_v rfl rfl h
/-- SureSums$Program.lineOfLetter(I)I -/
def mz_32 : am_Y := (fun pc => am_q32.lookup pc, 2, 1)
theorem mh_32 : am_Ys 32 = some mz_32 := rfl
theorem w32_0_2 {ext : Nat → List Value → am_M → Option am_R} {d : Nat} {P : am_R → Prop} (I : Nat → Nat → Int32) (L : Nat → Nat → Int64) (D : Nat → Nat → UInt64) (X : am_Rf) (v1 : Int32)
    (h : ((v1 < 0 → (P (some (.int (-1)), (I, L, D, am_rf X)))) ∧ (¬ v1 < 0 → (((26 ≤ v1 → (P (some (.int (-1)), (I, L, D, am_rf X)))) ∧ (¬ 26 ≤ v1 → (am_inb v1 26 = true ∧ (P (some (.int (I 3 (Int32.toNatClampNeg v1))), (I, L, D, am_rf X)))))))))) : am_wp ext d mz_32 (0, [some (.ref 2), some (.int v1)], [], (I, L, D, am_rf X)) P := by
  refine am_wpb (c' := (1, [some (.ref 2), some (.int v1)], [.int v1], (I, L, D, am_rf X))) 1 rfl ?_
  refine am_b1_lt rfl (fun z => ?_) (fun z => ?_)
  · replace h := h.1 z
    refine am_wpb (c' := (20, [some (.ref 2), some (.int v1)], [.int (-1)], (I, L, D, am_rf X))) 1 rfl ?_
    exact am_ret_i rfl rfl h
  · replace h := h.2 z
    refine am_wpb (c' := (7, [some (.ref 2), some (.int v1)], [.int 26, .int v1], (I, L, D, am_rf X))) 2 rfl ?_
    refine am_b2_ge rfl (fun z => ?_) (fun z => ?_)
    · replace h := h.1 z
      refine am_wpb (c' := (20, [some (.ref 2), some (.int v1)], [.int (-1)], (I, L, D, am_rf X))) 1 rfl ?_
      exact am_ret_i rfl rfl h
    · replace h := h.2 z
      refine am_wpb (c' := (15, [some (.ref 2), some (.int v1)], [.int v1, .ref 3], (I, L, D, am_rf X))) 3 rfl ?_
      obtain ⟨o, h⟩ := h
      refine am_wps (c' := (16, [some (.ref 2), some (.int v1)], [.int (I 3 (Int32.toNatClampNeg v1))], (I, L, D, am_rf X))) rfl rfl (am_s_iald rfl o) ?_
      refine am_wpb (c' := (20, [some (.ref 2), some (.int v1)], [.int (I 3 (Int32.toNatClampNeg v1))], (I, L, D, am_rf X))) 1 rfl ?_
      exact am_ret_i rfl rfl h
theorem w32_0_11 {ext : Nat → List Value → am_M → Option am_R} {d : Nat} {P : am_R → Prop} (I : Nat → Nat → Int32) (L : Nat → Nat → Int64) (D : Nat → Nat → UInt64) (X : am_Rf) (v1 : Int32)
    (h : ((v1 < 0 → (P (some (.int (-1)), (I, L, D, am_rf X)))) ∧ (¬ v1 < 0 → (((26 ≤ v1 → (P (some (.int (-1)), (I, L, D, am_rf X)))) ∧ (¬ 26 ≤ v1 → (am_inb v1 26 = true ∧ (P (some (.int (I 12 (Int32.toNatClampNeg v1))), (I, L, D, am_rf X)))))))))) : am_wp ext d mz_32 (0, [some (.ref 11), some (.int v1)], [], (I, L, D, am_rf X)) P := by
  refine am_wpb (c' := (1, [some (.ref 11), some (.int v1)], [.int v1], (I, L, D, am_rf X))) 1 rfl ?_
  refine am_b1_lt rfl (fun z => ?_) (fun z => ?_)
  · replace h := h.1 z
    refine am_wpb (c' := (20, [some (.ref 11), some (.int v1)], [.int (-1)], (I, L, D, am_rf X))) 1 rfl ?_
    exact am_ret_i rfl rfl h
  · replace h := h.2 z
    refine am_wpb (c' := (7, [some (.ref 11), some (.int v1)], [.int 26, .int v1], (I, L, D, am_rf X))) 2 rfl ?_
    refine am_b2_ge rfl (fun z => ?_) (fun z => ?_)
    · replace h := h.1 z
      refine am_wpb (c' := (20, [some (.ref 11), some (.int v1)], [.int (-1)], (I, L, D, am_rf X))) 1 rfl ?_
      exact am_ret_i rfl rfl h
    · replace h := h.2 z
      refine am_wpb (c' := (15, [some (.ref 11), some (.int v1)], [.int v1, .ref 12], (I, L, D, am_rf X))) 3 rfl ?_
      obtain ⟨o, h⟩ := h
      refine am_wps (c' := (16, [some (.ref 11), some (.int v1)], [.int (I 12 (Int32.toNatClampNeg v1))], (I, L, D, am_rf X))) rfl rfl (am_s_iald rfl o) ?_
      refine am_wpb (c' := (20, [some (.ref 11), some (.int v1)], [.int (I 12 (Int32.toNatClampNeg v1))], (I, L, D, am_rf X))) 1 rfl ?_
      exact am_ret_i rfl rfl h
/-- SureSums$Program.isFunction(I)Z -/
def mz_33 : am_Y := (fun pc => am_q33.lookup pc, 2, 2)
theorem mh_33 : am_Ys 33 = some mz_33 := rfl
theorem w33_0_2 {ext : Nat → List Value → am_M → Option am_R} {d : Nat} {P : am_R → Prop} (I : Nat → Nat → Int32) (L : Nat → Nat → Int64) (D : Nat → Nat → UInt64) (X : am_Rf) (v1 : Int32)
    (h : ((v1 < 0 → (P (some (.int 0), (I, L, D, am_rf X)))) ∧ (¬ v1 < 0 → ((((I 2 9) ≤ v1 → (P (some (.int 0), (I, L, D, am_rf X)))) ∧ (¬ (I 2 9) ≤ v1 → (am_inb v1 18 = true ∧ ((((I 4 (Int32.toNatClampNeg v1)) = 0 → (P (some (.int 0), (I, L, D, am_rf X)))) ∧ (¬ (I 4 (Int32.toNatClampNeg v1)) = 0 → (P (some (.int 1), (I, L, D, am_rf X))))))))))))) : am_wp ext d mz_33 (0, [some (.ref 2), some (.int v1)], [], (I, L, D, am_rf X)) P := by
  refine am_wpb (c' := (1, [some (.ref 2), some (.int v1)], [.int v1], (I, L, D, am_rf X))) 1 rfl ?_
  refine am_b1_lt rfl (fun z => ?_) (fun z => ?_)
  · replace h := h.1 z
    refine am_wpb (c' := (26, [some (.ref 2), some (.int v1)], [.int 0], (I, L, D, am_rf X))) 1 rfl ?_
    exact am_ret_z rfl rfl (Or.inl rfl) h
  · replace h := h.2 z
    refine am_wpb (c' := (9, [some (.ref 2), some (.int v1)], [.int (I 2 9), .int v1], (I, L, D, am_rf X))) 3 rfl ?_
    refine am_b2_ge rfl (fun z => ?_) (fun z => ?_)
    · replace h := h.1 z
      refine am_wpb (c' := (26, [some (.ref 2), some (.int v1)], [.int 0], (I, L, D, am_rf X))) 1 rfl ?_
      exact am_ret_z rfl rfl (Or.inl rfl) h
    · replace h := h.2 z
      refine am_wpb (c' := (17, [some (.ref 2), some (.int v1)], [.int v1, .ref 4], (I, L, D, am_rf X))) 3 rfl ?_
      obtain ⟨o, h⟩ := h
      refine am_wps (c' := (18, [some (.ref 2), some (.int v1)], [.int (I 4 (Int32.toNatClampNeg v1))], (I, L, D, am_rf X))) rfl rfl (am_s_zald rfl o) ?_
      refine am_b1_eq rfl (fun z => ?_) (fun z => ?_)
      · replace h := h.1 z
        refine am_wpb (c' := (26, [some (.ref 2), some (.int v1)], [.int 0], (I, L, D, am_rf X))) 1 rfl ?_
        exact am_ret_z rfl rfl (Or.inl rfl) h
      · replace h := h.2 z
        refine am_wpb (c' := (26, [some (.ref 2), some (.int v1)], [.int 1], (I, L, D, am_rf X))) 2 rfl ?_
        exact am_ret_z rfl rfl (Or.inr rfl) h
theorem w33_0_11 {ext : Nat → List Value → am_M → Option am_R} {d : Nat} {P : am_R → Prop} (I : Nat → Nat → Int32) (L : Nat → Nat → Int64) (D : Nat → Nat → UInt64) (X : am_Rf) (v1 : Int32)
    (h : ((v1 < 0 → (P (some (.int 0), (I, L, D, am_rf X)))) ∧ (¬ v1 < 0 → ((((I 11 9) ≤ v1 → (P (some (.int 0), (I, L, D, am_rf X)))) ∧ (¬ (I 11 9) ≤ v1 → (am_inb v1 18 = true ∧ ((((I 13 (Int32.toNatClampNeg v1)) = 0 → (P (some (.int 0), (I, L, D, am_rf X)))) ∧ (¬ (I 13 (Int32.toNatClampNeg v1)) = 0 → (P (some (.int 1), (I, L, D, am_rf X))))))))))))) : am_wp ext d mz_33 (0, [some (.ref 11), some (.int v1)], [], (I, L, D, am_rf X)) P := by
  refine am_wpb (c' := (1, [some (.ref 11), some (.int v1)], [.int v1], (I, L, D, am_rf X))) 1 rfl ?_
  refine am_b1_lt rfl (fun z => ?_) (fun z => ?_)
  · replace h := h.1 z
    refine am_wpb (c' := (26, [some (.ref 11), some (.int v1)], [.int 0], (I, L, D, am_rf X))) 1 rfl ?_
    exact am_ret_z rfl rfl (Or.inl rfl) h
  · replace h := h.2 z
    refine am_wpb (c' := (9, [some (.ref 11), some (.int v1)], [.int (I 11 9), .int v1], (I, L, D, am_rf X))) 3 rfl ?_
    refine am_b2_ge rfl (fun z => ?_) (fun z => ?_)
    · replace h := h.1 z
      refine am_wpb (c' := (26, [some (.ref 11), some (.int v1)], [.int 0], (I, L, D, am_rf X))) 1 rfl ?_
      exact am_ret_z rfl rfl (Or.inl rfl) h
    · replace h := h.2 z
      refine am_wpb (c' := (17, [some (.ref 11), some (.int v1)], [.int v1, .ref 13], (I, L, D, am_rf X))) 3 rfl ?_
      obtain ⟨o, h⟩ := h
      refine am_wps (c' := (18, [some (.ref 11), some (.int v1)], [.int (I 13 (Int32.toNatClampNeg v1))], (I, L, D, am_rf X))) rfl rfl (am_s_zald rfl o) ?_
      refine am_b1_eq rfl (fun z => ?_) (fun z => ?_)
      · replace h := h.1 z
        refine am_wpb (c' := (26, [some (.ref 11), some (.int v1)], [.int 0], (I, L, D, am_rf X))) 1 rfl ?_
        exact am_ret_z rfl rfl (Or.inl rfl) h
      · replace h := h.2 z
        refine am_wpb (c' := (26, [some (.ref 11), some (.int v1)], [.int 1], (I, L, D, am_rf X))) 2 rfl ?_
        exact am_ret_z rfl rfl (Or.inr rfl) h
/-- SureSums$Program.isLine(I)Z -/
def mz_34 : am_Y := (fun pc => am_q34.lookup pc, 2, 2)
theorem mh_34 : am_Ys 34 = some mz_34 := rfl
theorem w34_0_2 {ext : Nat → List Value → am_M → Option am_R} {d : Nat} {P : am_R → Prop} (I : Nat → Nat → Int32) (L : Nat → Nat → Int64) (D : Nat → Nat → UInt64) (X : am_Rf) (v1 : Int32)
    (h : ((v1 < 0 → (P (some (.int 0), (I, L, D, am_rf X)))) ∧ (¬ v1 < 0 → ((((I 2 9) ≤ v1 → (P (some (.int 0), (I, L, D, am_rf X)))) ∧ (¬ (I 2 9) ≤ v1 → (P (some (.int 1), (I, L, D, am_rf X))))))))) : am_wp ext d mz_34 (0, [some (.ref 2), some (.int v1)], [], (I, L, D, am_rf X)) P := by
  refine am_wpb (c' := (1, [some (.ref 2), some (.int v1)], [.int v1], (I, L, D, am_rf X))) 1 rfl ?_
  refine am_b1_lt rfl (fun z => ?_) (fun z => ?_)
  · replace h := h.1 z
    refine am_wpb (c' := (17, [some (.ref 2), some (.int v1)], [.int 0], (I, L, D, am_rf X))) 1 rfl ?_
    exact am_ret_z rfl rfl (Or.inl rfl) h
  · replace h := h.2 z
    refine am_wpb (c' := (9, [some (.ref 2), some (.int v1)], [.int (I 2 9), .int v1], (I, L, D, am_rf X))) 3 rfl ?_
    refine am_b2_ge rfl (fun z => ?_) (fun z => ?_)
    · replace h := h.1 z
      refine am_wpb (c' := (17, [some (.ref 2), some (.int v1)], [.int 0], (I, L, D, am_rf X))) 1 rfl ?_
      exact am_ret_z rfl rfl (Or.inl rfl) h
    · replace h := h.2 z
      refine am_wpb (c' := (17, [some (.ref 2), some (.int v1)], [.int 1], (I, L, D, am_rf X))) 2 rfl ?_
      exact am_ret_z rfl rfl (Or.inr rfl) h
theorem w34_0_11 {ext : Nat → List Value → am_M → Option am_R} {d : Nat} {P : am_R → Prop} (I : Nat → Nat → Int32) (L : Nat → Nat → Int64) (D : Nat → Nat → UInt64) (X : am_Rf) (v1 : Int32)
    (h : ((v1 < 0 → (P (some (.int 0), (I, L, D, am_rf X)))) ∧ (¬ v1 < 0 → ((((I 11 9) ≤ v1 → (P (some (.int 0), (I, L, D, am_rf X)))) ∧ (¬ (I 11 9) ≤ v1 → (P (some (.int 1), (I, L, D, am_rf X))))))))) : am_wp ext d mz_34 (0, [some (.ref 11), some (.int v1)], [], (I, L, D, am_rf X)) P := by
  refine am_wpb (c' := (1, [some (.ref 11), some (.int v1)], [.int v1], (I, L, D, am_rf X))) 1 rfl ?_
  refine am_b1_lt rfl (fun z => ?_) (fun z => ?_)
  · replace h := h.1 z
    refine am_wpb (c' := (17, [some (.ref 11), some (.int v1)], [.int 0], (I, L, D, am_rf X))) 1 rfl ?_
    exact am_ret_z rfl rfl (Or.inl rfl) h
  · replace h := h.2 z
    refine am_wpb (c' := (9, [some (.ref 11), some (.int v1)], [.int (I 11 9), .int v1], (I, L, D, am_rf X))) 3 rfl ?_
    refine am_b2_ge rfl (fun z => ?_) (fun z => ?_)
    · replace h := h.1 z
      refine am_wpb (c' := (17, [some (.ref 11), some (.int v1)], [.int 0], (I, L, D, am_rf X))) 1 rfl ?_
      exact am_ret_z rfl rfl (Or.inl rfl) h
    · replace h := h.2 z
      refine am_wpb (c' := (17, [some (.ref 11), some (.int v1)], [.int 1], (I, L, D, am_rf X))) 2 rfl ?_
      exact am_ret_z rfl rfl (Or.inr rfl) h
/-- SureSums$Program.tellLine(IZI)V -/
def mz_35 : am_Y := (fun pc => am_q35.lookup pc, 4, 0)
theorem mh_35 : am_Ys 35 = some mz_35 := rfl
theorem w35_0_2 {ext : Nat → List Value → am_M → Option am_R} {d : Nat} {P : am_R → Prop} (I : Nat → Nat → Int32) (L : Nat → Nat → Int64) (D : Nat → Nat → UInt64) (X : am_Rf) (v1 : Int32) (v2 : Int32) (v3 : Int32)
    (h : ((18 ≤ (I 2 9) → (P (none, (I, L, D, am_rf X)))) ∧ (¬ 18 ≤ (I 2 9) → (((v1 < 0 → (P (none, (I, L, D, am_rf X)))) ∧ (¬ v1 < 0 → (((v1 < 26 → (am_inb v1 26 = true ∧ (am_inb (I 2 9) 18 = true ∧ ((v2 = 0 ∨ v2 = 1) ∧ (am_inb (I 2 9) 18 = true ∧ (am_inb (I 2 9) 18 = true ∧ (((v2 = 0 → (((v2 = 0 → (P (none, (am_uI (am_uI (am_uI (am_uI (am_uI (am_uI (am_uI I 3 (Int32.toNatClampNeg v1) (I 2 9)) 4 (Int32.toNatClampNeg (I 2 9)) v2) 5 (Int32.toNatClampNeg (I 2 9)) v3) 6 (Int32.toNatClampNeg (I 2 9)) (I 2 8)) 2 9 ((I 2 9) + 1)) 2 11 ((I 2 11) + 0)) 2 10 ((I 2 10) + 1), L, D, am_rf X)))) ∧ (¬ v2 = 0 → (P (none, (am_uI (am_uI (am_uI (am_uI (am_uI (am_uI (am_uI I 3 (Int32.toNatClampNeg v1) (I 2 9)) 4 (Int32.toNatClampNeg (I 2 9)) v2) 5 (Int32.toNatClampNeg (I 2 9)) v3) 6 (Int32.toNatClampNeg (I 2 9)) (I 2 8)) 2 9 ((I 2 9) + 1)) 2 11 ((I 2 11) + 0)) 2 10 ((I 2 10) + 0), L, D, am_rf X))))))) ∧ (¬ v2 = 0 → (((v2 = 0 → (P (none, (am_uI (am_uI (am_uI (am_uI (am_uI (am_uI (am_uI I 3 (Int32.toNatClampNeg v1) (I 2 9)) 4 (Int32.toNatClampNeg (I 2 9)) v2) 5 (Int32.toNatClampNeg (I 2 9)) v3) 6 (Int32.toNatClampNeg (I 2 9)) (I 2 8)) 2 9 ((I 2 9) + 1)) 2 11 ((I 2 11) + 1)) 2 10 ((I 2 10) + 1), L, D, am_rf X)))) ∧ (¬ v2 = 0 → (P (none, (am_uI (am_uI (am_uI (am_uI (am_uI (am_uI (am_uI I 3 (Int32.toNatClampNeg v1) (I 2 9)) 4 (Int32.toNatClampNeg (I 2 9)) v2) 5 (Int32.toNatClampNeg (I 2 9)) v3) 6 (Int32.toNatClampNeg (I 2 9)) (I 2 8)) 2 9 ((I 2 9) + 1)) 2 11 ((I 2 11) + 1)) 2 10 ((I 2 10) + 0), L, D, am_rf X))))))))))))))) ∧ (¬ v1 < 26 → (P (none, (I, L, D, am_rf X)))))))))))) : am_wp ext d mz_35 (0, [some (.ref 2), some (.int v1), some (.int v2), some (.int v3)], [], (I, L, D, am_rf X)) P := by
  refine am_wpb (c' := (6, [some (.ref 2), some (.int v1), some (.int v2), some (.int v3)], [.int 18, .int (I 2 9)], (I, L, D, am_rf X))) 3 rfl ?_
  refine am_b2_ge rfl (fun z => ?_) (fun z => ?_)
  · replace h := h.1 z
    exact am_ret_v rfl rfl h
  · replace h := h.2 z
    refine am_wpb (c' := (10, [some (.ref 2), some (.int v1), some (.int v2), some (.int v3)], [.int v1], (I, L, D, am_rf X))) 1 rfl ?_
    refine am_b1_lt rfl (fun z => ?_) (fun z => ?_)
    · replace h := h.1 z
      exact am_ret_v rfl rfl h
    · replace h := h.2 z
      refine am_wpb (c' := (16, [some (.ref 2), some (.int v1), some (.int v2), some (.int v3)], [.int 26, .int v1], (I, L, D, am_rf X))) 2 rfl ?_
      refine am_b2_lt rfl (fun z => ?_) (fun z => ?_)
      · replace h := h.1 z
        refine am_wpb (c' := (29, [some (.ref 2), some (.int v1), some (.int v2), some (.int v3)], [.int (I 2 9), .int v1, .ref 3], (I, L, D, am_rf X))) 5 rfl ?_
        obtain ⟨o, h⟩ := h
        refine am_wps (c' := (30, [some (.ref 2), some (.int v1), some (.int v2), some (.int v3)], [], (am_uI I 3 (Int32.toNatClampNeg v1) (I 2 9), L, D, am_rf X))) rfl rfl (am_s_iast rfl o) ?_
        refine am_wpb (c' := (39, [some (.ref 2), some (.int v1), some (.int v2), some (.int v3)], [.int v2, .int (I 2 9), .ref 4], (am_uI I 3 (Int32.toNatClampNeg v1) (I 2 9), L, D, am_rf X))) 5 rfl ?_
        obtain ⟨o, h⟩ := h
        obtain ⟨o2, h⟩ := h
        refine am_wps (c' := (40, [some (.ref 2), some (.int v1), some (.int v2), some (.int v3)], [], (am_uI (am_uI I 3 (Int32.toNatClampNeg v1) (I 2 9)) 4 (Int32.toNatClampNeg (I 2 9)) v2, L, D, am_rf X))) rfl rfl (am_s_zast rfl o o2) ?_
        refine am_wpb (c' := (49, [some (.ref 2), some (.int v1), some (.int v2), some (.int v3)], [.int v3, .int (I 2 9), .ref 5], (am_uI (am_uI I 3 (Int32.toNatClampNeg v1) (I 2 9)) 4 (Int32.toNatClampNeg (I 2 9)) v2, L, D, am_rf X))) 5 rfl ?_
        obtain ⟨o, h⟩ := h
        refine am_wps (c' := (50, [some (.ref 2), some (.int v1), some (.int v2), some (.int v3)], [], (am_uI (am_uI (am_uI I 3 (Int32.toNatClampNeg v1) (I 2 9)) 4 (Int32.toNatClampNeg (I 2 9)) v2) 5 (Int32.toNatClampNeg (I 2 9)) v3, L, D, am_rf X))) rfl rfl (am_s_iast rfl o) ?_
        refine am_wpb (c' := (62, [some (.ref 2), some (.int v1), some (.int v2), some (.int v3)], [.int (I 2 8), .int (I 2 9), .ref 6], (am_uI (am_uI (am_uI I 3 (Int32.toNatClampNeg v1) (I 2 9)) 4 (Int32.toNatClampNeg (I 2 9)) v2) 5 (Int32.toNatClampNeg (I 2 9)) v3, L, D, am_rf X))) 6 rfl ?_
        obtain ⟨o, h⟩ := h
        refine am_wps (c' := (63, [some (.ref 2), some (.int v1), some (.int v2), some (.int v3)], [], (am_uI (am_uI (am_uI (am_uI I 3 (Int32.toNatClampNeg v1) (I 2 9)) 4 (Int32.toNatClampNeg (I 2 9)) v2) 5 (Int32.toNatClampNeg (I 2 9)) v3) 6 (Int32.toNatClampNeg (I 2 9)) (I 2 8), L, D, am_rf X))) rfl rfl (am_s_iast rfl o) ?_
        refine am_wpb (c' := (79, [some (.ref 2), some (.int v1), some (.int v2), some (.int v3)], [.int v2, .int (I 2 11), .ref 2], (am_uI (am_uI (am_uI (am_uI (am_uI I 3 (Int32.toNatClampNeg v1) (I 2 9)) 4 (Int32.toNatClampNeg (I 2 9)) v2) 5 (Int32.toNatClampNeg (I 2 9)) v3) 6 (Int32.toNatClampNeg (I 2 9)) (I 2 8)) 2 9 ((I 2 9) + 1), L, D, am_rf X))) 10 rfl ?_
        refine am_b1_eq rfl (fun z => ?_) (fun z => ?_)
        · replace h := h.1 z
          refine am_wpb (c' := (97, [some (.ref 2), some (.int v1), some (.int v2), some (.int v3)], [.int v2, .int (I 2 10), .ref 2], (am_uI (am_uI (am_uI (am_uI (am_uI (am_uI I 3 (Int32.toNatClampNeg v1) (I 2 9)) 4 (Int32.toNatClampNeg (I 2 9)) v2) 5 (Int32.toNatClampNeg (I 2 9)) v3) 6 (Int32.toNatClampNeg (I 2 9)) (I 2 8)) 2 9 ((I 2 9) + 1)) 2 11 ((I 2 11) + 0), L, D, am_rf X))) 7 rfl ?_
          refine am_b1_eq rfl (fun z => ?_) (fun z => ?_)
          · replace h := h.1 z
            refine am_wpb (c' := (109, [some (.ref 2), some (.int v1), some (.int v2), some (.int v3)], [], (am_uI (am_uI (am_uI (am_uI (am_uI (am_uI (am_uI I 3 (Int32.toNatClampNeg v1) (I 2 9)) 4 (Int32.toNatClampNeg (I 2 9)) v2) 5 (Int32.toNatClampNeg (I 2 9)) v3) 6 (Int32.toNatClampNeg (I 2 9)) (I 2 8)) 2 9 ((I 2 9) + 1)) 2 11 ((I 2 11) + 0)) 2 10 ((I 2 10) + 1), L, D, am_rf X))) 3 rfl ?_
            exact am_ret_v rfl rfl h
          · replace h := h.2 z
            refine am_wpb (c' := (109, [some (.ref 2), some (.int v1), some (.int v2), some (.int v3)], [], (am_uI (am_uI (am_uI (am_uI (am_uI (am_uI (am_uI I 3 (Int32.toNatClampNeg v1) (I 2 9)) 4 (Int32.toNatClampNeg (I 2 9)) v2) 5 (Int32.toNatClampNeg (I 2 9)) v3) 6 (Int32.toNatClampNeg (I 2 9)) (I 2 8)) 2 9 ((I 2 9) + 1)) 2 11 ((I 2 11) + 0)) 2 10 ((I 2 10) + 0), L, D, am_rf X))) 4 rfl ?_
            exact am_ret_v rfl rfl h
        · replace h := h.2 z
          refine am_wpb (c' := (97, [some (.ref 2), some (.int v1), some (.int v2), some (.int v3)], [.int v2, .int (I 2 10), .ref 2], (am_uI (am_uI (am_uI (am_uI (am_uI (am_uI I 3 (Int32.toNatClampNeg v1) (I 2 9)) 4 (Int32.toNatClampNeg (I 2 9)) v2) 5 (Int32.toNatClampNeg (I 2 9)) v3) 6 (Int32.toNatClampNeg (I 2 9)) (I 2 8)) 2 9 ((I 2 9) + 1)) 2 11 ((I 2 11) + 1), L, D, am_rf X))) 8 rfl ?_
          refine am_b1_eq rfl (fun z => ?_) (fun z => ?_)
          · replace h := h.1 z
            refine am_wpb (c' := (109, [some (.ref 2), some (.int v1), some (.int v2), some (.int v3)], [], (am_uI (am_uI (am_uI (am_uI (am_uI (am_uI (am_uI I 3 (Int32.toNatClampNeg v1) (I 2 9)) 4 (Int32.toNatClampNeg (I 2 9)) v2) 5 (Int32.toNatClampNeg (I 2 9)) v3) 6 (Int32.toNatClampNeg (I 2 9)) (I 2 8)) 2 9 ((I 2 9) + 1)) 2 11 ((I 2 11) + 1)) 2 10 ((I 2 10) + 1), L, D, am_rf X))) 3 rfl ?_
            exact am_ret_v rfl rfl h
          · replace h := h.2 z
            refine am_wpb (c' := (109, [some (.ref 2), some (.int v1), some (.int v2), some (.int v3)], [], (am_uI (am_uI (am_uI (am_uI (am_uI (am_uI (am_uI I 3 (Int32.toNatClampNeg v1) (I 2 9)) 4 (Int32.toNatClampNeg (I 2 9)) v2) 5 (Int32.toNatClampNeg (I 2 9)) v3) 6 (Int32.toNatClampNeg (I 2 9)) (I 2 8)) 2 9 ((I 2 9) + 1)) 2 11 ((I 2 11) + 1)) 2 10 ((I 2 10) + 0), L, D, am_rf X))) 4 rfl ?_
            exact am_ret_v rfl rfl h
      · replace h := h.2 z
        exact am_ret_v rfl rfl h
theorem w35_0_11 {ext : Nat → List Value → am_M → Option am_R} {d : Nat} {P : am_R → Prop} (I : Nat → Nat → Int32) (L : Nat → Nat → Int64) (D : Nat → Nat → UInt64) (X : am_Rf) (v1 : Int32) (v2 : Int32) (v3 : Int32)
    (h : ((18 ≤ (I 11 9) → (P (none, (I, L, D, am_rf X)))) ∧ (¬ 18 ≤ (I 11 9) → (((v1 < 0 → (P (none, (I, L, D, am_rf X)))) ∧ (¬ v1 < 0 → (((v1 < 26 → (am_inb v1 26 = true ∧ (am_inb (I 11 9) 18 = true ∧ ((v2 = 0 ∨ v2 = 1) ∧ (am_inb (I 11 9) 18 = true ∧ (am_inb (I 11 9) 18 = true ∧ (((v2 = 0 → (((v2 = 0 → (P (none, (am_uI (am_uI (am_uI (am_uI (am_uI (am_uI (am_uI I 12 (Int32.toNatClampNeg v1) (I 11 9)) 13 (Int32.toNatClampNeg (I 11 9)) v2) 14 (Int32.toNatClampNeg (I 11 9)) v3) 15 (Int32.toNatClampNeg (I 11 9)) (I 11 8)) 11 9 ((I 11 9) + 1)) 11 11 ((I 11 11) + 0)) 11 10 ((I 11 10) + 1), L, D, am_rf X)))) ∧ (¬ v2 = 0 → (P (none, (am_uI (am_uI (am_uI (am_uI (am_uI (am_uI (am_uI I 12 (Int32.toNatClampNeg v1) (I 11 9)) 13 (Int32.toNatClampNeg (I 11 9)) v2) 14 (Int32.toNatClampNeg (I 11 9)) v3) 15 (Int32.toNatClampNeg (I 11 9)) (I 11 8)) 11 9 ((I 11 9) + 1)) 11 11 ((I 11 11) + 0)) 11 10 ((I 11 10) + 0), L, D, am_rf X))))))) ∧ (¬ v2 = 0 → (((v2 = 0 → (P (none, (am_uI (am_uI (am_uI (am_uI (am_uI (am_uI (am_uI I 12 (Int32.toNatClampNeg v1) (I 11 9)) 13 (Int32.toNatClampNeg (I 11 9)) v2) 14 (Int32.toNatClampNeg (I 11 9)) v3) 15 (Int32.toNatClampNeg (I 11 9)) (I 11 8)) 11 9 ((I 11 9) + 1)) 11 11 ((I 11 11) + 1)) 11 10 ((I 11 10) + 1), L, D, am_rf X)))) ∧ (¬ v2 = 0 → (P (none, (am_uI (am_uI (am_uI (am_uI (am_uI (am_uI (am_uI I 12 (Int32.toNatClampNeg v1) (I 11 9)) 13 (Int32.toNatClampNeg (I 11 9)) v2) 14 (Int32.toNatClampNeg (I 11 9)) v3) 15 (Int32.toNatClampNeg (I 11 9)) (I 11 8)) 11 9 ((I 11 9) + 1)) 11 11 ((I 11 11) + 1)) 11 10 ((I 11 10) + 0), L, D, am_rf X))))))))))))))) ∧ (¬ v1 < 26 → (P (none, (I, L, D, am_rf X)))))))))))) : am_wp ext d mz_35 (0, [some (.ref 11), some (.int v1), some (.int v2), some (.int v3)], [], (I, L, D, am_rf X)) P := by
  refine am_wpb (c' := (6, [some (.ref 11), some (.int v1), some (.int v2), some (.int v3)], [.int 18, .int (I 11 9)], (I, L, D, am_rf X))) 3 rfl ?_
  refine am_b2_ge rfl (fun z => ?_) (fun z => ?_)
  · replace h := h.1 z
    exact am_ret_v rfl rfl h
  · replace h := h.2 z
    refine am_wpb (c' := (10, [some (.ref 11), some (.int v1), some (.int v2), some (.int v3)], [.int v1], (I, L, D, am_rf X))) 1 rfl ?_
    refine am_b1_lt rfl (fun z => ?_) (fun z => ?_)
    · replace h := h.1 z
      exact am_ret_v rfl rfl h
    · replace h := h.2 z
      refine am_wpb (c' := (16, [some (.ref 11), some (.int v1), some (.int v2), some (.int v3)], [.int 26, .int v1], (I, L, D, am_rf X))) 2 rfl ?_
      refine am_b2_lt rfl (fun z => ?_) (fun z => ?_)
      · replace h := h.1 z
        refine am_wpb (c' := (29, [some (.ref 11), some (.int v1), some (.int v2), some (.int v3)], [.int (I 11 9), .int v1, .ref 12], (I, L, D, am_rf X))) 5 rfl ?_
        obtain ⟨o, h⟩ := h
        refine am_wps (c' := (30, [some (.ref 11), some (.int v1), some (.int v2), some (.int v3)], [], (am_uI I 12 (Int32.toNatClampNeg v1) (I 11 9), L, D, am_rf X))) rfl rfl (am_s_iast rfl o) ?_
        refine am_wpb (c' := (39, [some (.ref 11), some (.int v1), some (.int v2), some (.int v3)], [.int v2, .int (I 11 9), .ref 13], (am_uI I 12 (Int32.toNatClampNeg v1) (I 11 9), L, D, am_rf X))) 5 rfl ?_
        obtain ⟨o, h⟩ := h
        obtain ⟨o2, h⟩ := h
        refine am_wps (c' := (40, [some (.ref 11), some (.int v1), some (.int v2), some (.int v3)], [], (am_uI (am_uI I 12 (Int32.toNatClampNeg v1) (I 11 9)) 13 (Int32.toNatClampNeg (I 11 9)) v2, L, D, am_rf X))) rfl rfl (am_s_zast rfl o o2) ?_
        refine am_wpb (c' := (49, [some (.ref 11), some (.int v1), some (.int v2), some (.int v3)], [.int v3, .int (I 11 9), .ref 14], (am_uI (am_uI I 12 (Int32.toNatClampNeg v1) (I 11 9)) 13 (Int32.toNatClampNeg (I 11 9)) v2, L, D, am_rf X))) 5 rfl ?_
        obtain ⟨o, h⟩ := h
        refine am_wps (c' := (50, [some (.ref 11), some (.int v1), some (.int v2), some (.int v3)], [], (am_uI (am_uI (am_uI I 12 (Int32.toNatClampNeg v1) (I 11 9)) 13 (Int32.toNatClampNeg (I 11 9)) v2) 14 (Int32.toNatClampNeg (I 11 9)) v3, L, D, am_rf X))) rfl rfl (am_s_iast rfl o) ?_
        refine am_wpb (c' := (62, [some (.ref 11), some (.int v1), some (.int v2), some (.int v3)], [.int (I 11 8), .int (I 11 9), .ref 15], (am_uI (am_uI (am_uI I 12 (Int32.toNatClampNeg v1) (I 11 9)) 13 (Int32.toNatClampNeg (I 11 9)) v2) 14 (Int32.toNatClampNeg (I 11 9)) v3, L, D, am_rf X))) 6 rfl ?_
        obtain ⟨o, h⟩ := h
        refine am_wps (c' := (63, [some (.ref 11), some (.int v1), some (.int v2), some (.int v3)], [], (am_uI (am_uI (am_uI (am_uI I 12 (Int32.toNatClampNeg v1) (I 11 9)) 13 (Int32.toNatClampNeg (I 11 9)) v2) 14 (Int32.toNatClampNeg (I 11 9)) v3) 15 (Int32.toNatClampNeg (I 11 9)) (I 11 8), L, D, am_rf X))) rfl rfl (am_s_iast rfl o) ?_
        refine am_wpb (c' := (79, [some (.ref 11), some (.int v1), some (.int v2), some (.int v3)], [.int v2, .int (I 11 11), .ref 11], (am_uI (am_uI (am_uI (am_uI (am_uI I 12 (Int32.toNatClampNeg v1) (I 11 9)) 13 (Int32.toNatClampNeg (I 11 9)) v2) 14 (Int32.toNatClampNeg (I 11 9)) v3) 15 (Int32.toNatClampNeg (I 11 9)) (I 11 8)) 11 9 ((I 11 9) + 1), L, D, am_rf X))) 10 rfl ?_
        refine am_b1_eq rfl (fun z => ?_) (fun z => ?_)
        · replace h := h.1 z
          refine am_wpb (c' := (97, [some (.ref 11), some (.int v1), some (.int v2), some (.int v3)], [.int v2, .int (I 11 10), .ref 11], (am_uI (am_uI (am_uI (am_uI (am_uI (am_uI I 12 (Int32.toNatClampNeg v1) (I 11 9)) 13 (Int32.toNatClampNeg (I 11 9)) v2) 14 (Int32.toNatClampNeg (I 11 9)) v3) 15 (Int32.toNatClampNeg (I 11 9)) (I 11 8)) 11 9 ((I 11 9) + 1)) 11 11 ((I 11 11) + 0), L, D, am_rf X))) 7 rfl ?_
          refine am_b1_eq rfl (fun z => ?_) (fun z => ?_)
          · replace h := h.1 z
            refine am_wpb (c' := (109, [some (.ref 11), some (.int v1), some (.int v2), some (.int v3)], [], (am_uI (am_uI (am_uI (am_uI (am_uI (am_uI (am_uI I 12 (Int32.toNatClampNeg v1) (I 11 9)) 13 (Int32.toNatClampNeg (I 11 9)) v2) 14 (Int32.toNatClampNeg (I 11 9)) v3) 15 (Int32.toNatClampNeg (I 11 9)) (I 11 8)) 11 9 ((I 11 9) + 1)) 11 11 ((I 11 11) + 0)) 11 10 ((I 11 10) + 1), L, D, am_rf X))) 3 rfl ?_
            exact am_ret_v rfl rfl h
          · replace h := h.2 z
            refine am_wpb (c' := (109, [some (.ref 11), some (.int v1), some (.int v2), some (.int v3)], [], (am_uI (am_uI (am_uI (am_uI (am_uI (am_uI (am_uI I 12 (Int32.toNatClampNeg v1) (I 11 9)) 13 (Int32.toNatClampNeg (I 11 9)) v2) 14 (Int32.toNatClampNeg (I 11 9)) v3) 15 (Int32.toNatClampNeg (I 11 9)) (I 11 8)) 11 9 ((I 11 9) + 1)) 11 11 ((I 11 11) + 0)) 11 10 ((I 11 10) + 0), L, D, am_rf X))) 4 rfl ?_
            exact am_ret_v rfl rfl h
        · replace h := h.2 z
          refine am_wpb (c' := (97, [some (.ref 11), some (.int v1), some (.int v2), some (.int v3)], [.int v2, .int (I 11 10), .ref 11], (am_uI (am_uI (am_uI (am_uI (am_uI (am_uI I 12 (Int32.toNatClampNeg v1) (I 11 9)) 13 (Int32.toNatClampNeg (I 11 9)) v2) 14 (Int32.toNatClampNeg (I 11 9)) v3) 15 (Int32.toNatClampNeg (I 11 9)) (I 11 8)) 11 9 ((I 11 9) + 1)) 11 11 ((I 11 11) + 1), L, D, am_rf X))) 8 rfl ?_
          refine am_b1_eq rfl (fun z => ?_) (fun z => ?_)
          · replace h := h.1 z
            refine am_wpb (c' := (109, [some (.ref 11), some (.int v1), some (.int v2), some (.int v3)], [], (am_uI (am_uI (am_uI (am_uI (am_uI (am_uI (am_uI I 12 (Int32.toNatClampNeg v1) (I 11 9)) 13 (Int32.toNatClampNeg (I 11 9)) v2) 14 (Int32.toNatClampNeg (I 11 9)) v3) 15 (Int32.toNatClampNeg (I 11 9)) (I 11 8)) 11 9 ((I 11 9) + 1)) 11 11 ((I 11 11) + 1)) 11 10 ((I 11 10) + 1), L, D, am_rf X))) 3 rfl ?_
            exact am_ret_v rfl rfl h
          · replace h := h.2 z
            refine am_wpb (c' := (109, [some (.ref 11), some (.int v1), some (.int v2), some (.int v3)], [], (am_uI (am_uI (am_uI (am_uI (am_uI (am_uI (am_uI I 12 (Int32.toNatClampNeg v1) (I 11 9)) 13 (Int32.toNatClampNeg (I 11 9)) v2) 14 (Int32.toNatClampNeg (I 11 9)) v3) 15 (Int32.toNatClampNeg (I 11 9)) (I 11 8)) 11 9 ((I 11 9) + 1)) 11 11 ((I 11 11) + 1)) 11 10 ((I 11 10) + 0), L, D, am_rf X))) 4 rfl ?_
            exact am_ret_v rfl rfl h
      · replace h := h.2 z
        exact am_ret_v rfl rfl h
/-- SureSums$Program.add(II)I -/
def mz_36 : am_Y := (fun pc => am_q36.lookup pc, 3, 1)
theorem mh_36 : am_Ys 36 = some mz_36 := rfl
theorem w36_0_2 {ext : Nat → List Value → am_M → Option am_R} {d : Nat} {P : am_R → Prop} (I : Nat → Nat → Int32) (L : Nat → Nat → Int64) (D : Nat → Nat → UInt64) (X : am_Rf) (v1 : Int32) (v2 : Int32)
    (h : ∃ (r1 : Int32) (I1 : Nat → Nat → Int32) (L1 : Nat → Nat → Int64) (D1 : Nat → Nat → UInt64), am_Rn ext d 37 [.ref 2, .int v1, .int v2, .int 0, .int 0] (I, L, D, am_rf X) (some (.int r1), (I1, L1, D1, am_rf X)) ∧ (P (some (.int r1), (I1, L1, D1, am_rf X)))) : am_wp ext d mz_36 (0, [some (.ref 2), some (.int v1), some (.int v2)], [], (I, L, D, am_rf X)) P := by
  refine am_wpb (c' := (5, [some (.ref 2), some (.int v1), some (.int v2)], [.int 0, .int 0, .int v2, .int v1, .ref 2], (I, L, D, am_rf X))) 5 rfl ?_
  obtain ⟨r1, I1, L1, D1, hr, h⟩ := h
  refine am_wp_inv (as := [.ref 2, .int v1, .int v2, .int 0, .int 0]) rfl rfl rfl rfl ⟨_, hr, ?_⟩
  show am_wp ext d mz_36 (8, [some (.ref 2), some (.int v1), some (.int v2)], [.int r1], (I1, L1, D1, am_rf X)) P
  exact am_ret_i rfl rfl h
theorem w36_0_11 {ext : Nat → List Value → am_M → Option am_R} {d : Nat} {P : am_R → Prop} (I : Nat → Nat → Int32) (L : Nat → Nat → Int64) (D : Nat → Nat → UInt64) (X : am_Rf) (v1 : Int32) (v2 : Int32)
    (h : ∃ (r1 : Int32) (I1 : Nat → Nat → Int32) (L1 : Nat → Nat → Int64) (D1 : Nat → Nat → UInt64), am_Rn ext d 37 [.ref 11, .int v1, .int v2, .int 0, .int 0] (I, L, D, am_rf X) (some (.int r1), (I1, L1, D1, am_rf X)) ∧ (P (some (.int r1), (I1, L1, D1, am_rf X)))) : am_wp ext d mz_36 (0, [some (.ref 11), some (.int v1), some (.int v2)], [], (I, L, D, am_rf X)) P := by
  refine am_wpb (c' := (5, [some (.ref 11), some (.int v1), some (.int v2)], [.int 0, .int 0, .int v2, .int v1, .ref 11], (I, L, D, am_rf X))) 5 rfl ?_
  obtain ⟨r1, I1, L1, D1, hr, h⟩ := h
  refine am_wp_inv (as := [.ref 11, .int v1, .int v2, .int 0, .int 0]) rfl rfl rfl rfl ⟨_, hr, ?_⟩
  show am_wp ext d mz_36 (8, [some (.ref 11), some (.int v1), some (.int v2)], [.int r1], (I1, L1, D1, am_rf X)) P
  exact am_ret_i rfl rfl h
/-- SureSums$Program.addOver(IIII)I -/
def mz_37 : am_Y := (fun pc => am_q37.lookup pc, 6, 1)
theorem mh_37 : am_Ys 37 = some mz_37 := rfl
theorem w37_0_2 {ext : Nat → List Value → am_M → Option am_R} {d : Nat} {P : am_R → Prop} (I : Nat → Nat → Int32) (L : Nat → Nat → Int64) (D : Nat → Nat → UInt64) (X : am_Rf) (v1 : Int32) (v2 : Int32) (v3 : Int32) (v4 : Int32)
    (h : ((288 ≤ (I 2 8) → (P (some (.int (I 2 8)), (I, L, D, am_rf X)))) ∧ (¬ 288 ≤ (I 2 8) → (am_inb (I 2 8) 288 = true ∧ (am_inb (I 2 8) 288 = true ∧ (am_inb (I 2 8) 288 = true ∧ (am_inb (I 2 8) 288 = true ∧ (P (some (.int (I 2 8)), (am_uI (am_uI (am_uI (am_uI (am_uI I 7 (Int32.toNatClampNeg (I 2 8)) v1) 8 (Int32.toNatClampNeg (I 2 8)) v2) 9 (Int32.toNatClampNeg (I 2 8)) v3) 10 (Int32.toNatClampNeg (I 2 8)) v4) 2 8 ((I 2 8) + 1), L, D, am_rf X)))))))))) : am_wp ext d mz_37 (0, [some (.ref 2), some (.int v1), some (.int v2), some (.int v3), some (.int v4), none], [], (I, L, D, am_rf X)) P := by
  refine am_wpb (c' := (11, [some (.ref 2), some (.int v1), some (.int v2), some (.int v3), some (.int v4), some (.int (I 2 8))], [.int 288, .int (I 2 8)], (I, L, D, am_rf X))) 5 rfl ?_
  refine am_b2_ge rfl (fun z => ?_) (fun z => ?_)
  · replace h := h.1 z
    refine am_wpb (c' := (59, [some (.ref 2), some (.int v1), some (.int v2), some (.int v3), some (.int v4), some (.int (I 2 8))], [.int (I 2 8)], (I, L, D, am_rf X))) 1 rfl ?_
    exact am_ret_i rfl rfl h
  · replace h := h.2 z
    refine am_wpb (c' := (21, [some (.ref 2), some (.int v1), some (.int v2), some (.int v3), some (.int v4), some (.int (I 2 8))], [.int v1, .int (I 2 8), .ref 7], (I, L, D, am_rf X))) 4 rfl ?_
    obtain ⟨o, h⟩ := h
    refine am_wps (c' := (22, [some (.ref 2), some (.int v1), some (.int v2), some (.int v3), some (.int v4), some (.int (I 2 8))], [], (am_uI I 7 (Int32.toNatClampNeg (I 2 8)) v1, L, D, am_rf X))) rfl rfl (am_s_iast rfl o) ?_
    refine am_wpb (c' := (29, [some (.ref 2), some (.int v1), some (.int v2), some (.int v3), some (.int v4), some (.int (I 2 8))], [.int v2, .int (I 2 8), .ref 8], (am_uI I 7 (Int32.toNatClampNeg (I 2 8)) v1, L, D, am_rf X))) 4 rfl ?_
    obtain ⟨o, h⟩ := h
    refine am_wps (c' := (30, [some (.ref 2), some (.int v1), some (.int v2), some (.int v3), some (.int v4), some (.int (I 2 8))], [], (am_uI (am_uI I 7 (Int32.toNatClampNeg (I 2 8)) v1) 8 (Int32.toNatClampNeg (I 2 8)) v2, L, D, am_rf X))) rfl rfl (am_s_iast rfl o) ?_
    refine am_wpb (c' := (37, [some (.ref 2), some (.int v1), some (.int v2), some (.int v3), some (.int v4), some (.int (I 2 8))], [.int v3, .int (I 2 8), .ref 9], (am_uI (am_uI I 7 (Int32.toNatClampNeg (I 2 8)) v1) 8 (Int32.toNatClampNeg (I 2 8)) v2, L, D, am_rf X))) 4 rfl ?_
    obtain ⟨o, h⟩ := h
    refine am_wps (c' := (38, [some (.ref 2), some (.int v1), some (.int v2), some (.int v3), some (.int v4), some (.int (I 2 8))], [], (am_uI (am_uI (am_uI I 7 (Int32.toNatClampNeg (I 2 8)) v1) 8 (Int32.toNatClampNeg (I 2 8)) v2) 9 (Int32.toNatClampNeg (I 2 8)) v3, L, D, am_rf X))) rfl rfl (am_s_iast rfl o) ?_
    refine am_wpb (c' := (46, [some (.ref 2), some (.int v1), some (.int v2), some (.int v3), some (.int v4), some (.int (I 2 8))], [.int v4, .int (I 2 8), .ref 10], (am_uI (am_uI (am_uI I 7 (Int32.toNatClampNeg (I 2 8)) v1) 8 (Int32.toNatClampNeg (I 2 8)) v2) 9 (Int32.toNatClampNeg (I 2 8)) v3, L, D, am_rf X))) 4 rfl ?_
    obtain ⟨o, h⟩ := h
    refine am_wps (c' := (47, [some (.ref 2), some (.int v1), some (.int v2), some (.int v3), some (.int v4), some (.int (I 2 8))], [], (am_uI (am_uI (am_uI (am_uI I 7 (Int32.toNatClampNeg (I 2 8)) v1) 8 (Int32.toNatClampNeg (I 2 8)) v2) 9 (Int32.toNatClampNeg (I 2 8)) v3) 10 (Int32.toNatClampNeg (I 2 8)) v4, L, D, am_rf X))) rfl rfl (am_s_iast rfl o) ?_
    refine am_wpb (c' := (59, [some (.ref 2), some (.int v1), some (.int v2), some (.int v3), some (.int v4), some (.int (I 2 8))], [.int (I 2 8)], (am_uI (am_uI (am_uI (am_uI (am_uI I 7 (Int32.toNatClampNeg (I 2 8)) v1) 8 (Int32.toNatClampNeg (I 2 8)) v2) 9 (Int32.toNatClampNeg (I 2 8)) v3) 10 (Int32.toNatClampNeg (I 2 8)) v4) 2 8 ((I 2 8) + 1), L, D, am_rf X))) 7 rfl ?_
    exact am_ret_i rfl rfl h
theorem w37_0_11 {ext : Nat → List Value → am_M → Option am_R} {d : Nat} {P : am_R → Prop} (I : Nat → Nat → Int32) (L : Nat → Nat → Int64) (D : Nat → Nat → UInt64) (X : am_Rf) (v1 : Int32) (v2 : Int32) (v3 : Int32) (v4 : Int32)
    (h : ((288 ≤ (I 11 8) → (P (some (.int (I 11 8)), (I, L, D, am_rf X)))) ∧ (¬ 288 ≤ (I 11 8) → (am_inb (I 11 8) 288 = true ∧ (am_inb (I 11 8) 288 = true ∧ (am_inb (I 11 8) 288 = true ∧ (am_inb (I 11 8) 288 = true ∧ (P (some (.int (I 11 8)), (am_uI (am_uI (am_uI (am_uI (am_uI I 16 (Int32.toNatClampNeg (I 11 8)) v1) 17 (Int32.toNatClampNeg (I 11 8)) v2) 18 (Int32.toNatClampNeg (I 11 8)) v3) 19 (Int32.toNatClampNeg (I 11 8)) v4) 11 8 ((I 11 8) + 1), L, D, am_rf X)))))))))) : am_wp ext d mz_37 (0, [some (.ref 11), some (.int v1), some (.int v2), some (.int v3), some (.int v4), none], [], (I, L, D, am_rf X)) P := by
  refine am_wpb (c' := (11, [some (.ref 11), some (.int v1), some (.int v2), some (.int v3), some (.int v4), some (.int (I 11 8))], [.int 288, .int (I 11 8)], (I, L, D, am_rf X))) 5 rfl ?_
  refine am_b2_ge rfl (fun z => ?_) (fun z => ?_)
  · replace h := h.1 z
    refine am_wpb (c' := (59, [some (.ref 11), some (.int v1), some (.int v2), some (.int v3), some (.int v4), some (.int (I 11 8))], [.int (I 11 8)], (I, L, D, am_rf X))) 1 rfl ?_
    exact am_ret_i rfl rfl h
  · replace h := h.2 z
    refine am_wpb (c' := (21, [some (.ref 11), some (.int v1), some (.int v2), some (.int v3), some (.int v4), some (.int (I 11 8))], [.int v1, .int (I 11 8), .ref 16], (I, L, D, am_rf X))) 4 rfl ?_
    obtain ⟨o, h⟩ := h
    refine am_wps (c' := (22, [some (.ref 11), some (.int v1), some (.int v2), some (.int v3), some (.int v4), some (.int (I 11 8))], [], (am_uI I 16 (Int32.toNatClampNeg (I 11 8)) v1, L, D, am_rf X))) rfl rfl (am_s_iast rfl o) ?_
    refine am_wpb (c' := (29, [some (.ref 11), some (.int v1), some (.int v2), some (.int v3), some (.int v4), some (.int (I 11 8))], [.int v2, .int (I 11 8), .ref 17], (am_uI I 16 (Int32.toNatClampNeg (I 11 8)) v1, L, D, am_rf X))) 4 rfl ?_
    obtain ⟨o, h⟩ := h
    refine am_wps (c' := (30, [some (.ref 11), some (.int v1), some (.int v2), some (.int v3), some (.int v4), some (.int (I 11 8))], [], (am_uI (am_uI I 16 (Int32.toNatClampNeg (I 11 8)) v1) 17 (Int32.toNatClampNeg (I 11 8)) v2, L, D, am_rf X))) rfl rfl (am_s_iast rfl o) ?_
    refine am_wpb (c' := (37, [some (.ref 11), some (.int v1), some (.int v2), some (.int v3), some (.int v4), some (.int (I 11 8))], [.int v3, .int (I 11 8), .ref 18], (am_uI (am_uI I 16 (Int32.toNatClampNeg (I 11 8)) v1) 17 (Int32.toNatClampNeg (I 11 8)) v2, L, D, am_rf X))) 4 rfl ?_
    obtain ⟨o, h⟩ := h
    refine am_wps (c' := (38, [some (.ref 11), some (.int v1), some (.int v2), some (.int v3), some (.int v4), some (.int (I 11 8))], [], (am_uI (am_uI (am_uI I 16 (Int32.toNatClampNeg (I 11 8)) v1) 17 (Int32.toNatClampNeg (I 11 8)) v2) 18 (Int32.toNatClampNeg (I 11 8)) v3, L, D, am_rf X))) rfl rfl (am_s_iast rfl o) ?_
    refine am_wpb (c' := (46, [some (.ref 11), some (.int v1), some (.int v2), some (.int v3), some (.int v4), some (.int (I 11 8))], [.int v4, .int (I 11 8), .ref 19], (am_uI (am_uI (am_uI I 16 (Int32.toNatClampNeg (I 11 8)) v1) 17 (Int32.toNatClampNeg (I 11 8)) v2) 18 (Int32.toNatClampNeg (I 11 8)) v3, L, D, am_rf X))) 4 rfl ?_
    obtain ⟨o, h⟩ := h
    refine am_wps (c' := (47, [some (.ref 11), some (.int v1), some (.int v2), some (.int v3), some (.int v4), some (.int (I 11 8))], [], (am_uI (am_uI (am_uI (am_uI I 16 (Int32.toNatClampNeg (I 11 8)) v1) 17 (Int32.toNatClampNeg (I 11 8)) v2) 18 (Int32.toNatClampNeg (I 11 8)) v3) 19 (Int32.toNatClampNeg (I 11 8)) v4, L, D, am_rf X))) rfl rfl (am_s_iast rfl o) ?_
    refine am_wpb (c' := (59, [some (.ref 11), some (.int v1), some (.int v2), some (.int v3), some (.int v4), some (.int (I 11 8))], [.int (I 11 8)], (am_uI (am_uI (am_uI (am_uI (am_uI I 16 (Int32.toNatClampNeg (I 11 8)) v1) 17 (Int32.toNatClampNeg (I 11 8)) v2) 18 (Int32.toNatClampNeg (I 11 8)) v3) 19 (Int32.toNatClampNeg (I 11 8)) v4) 11 8 ((I 11 8) + 1), L, D, am_rf X))) 7 rfl ?_
    exact am_ret_i rfl rfl h
/-- SureSums$Program.point(II)V -/
def mz_38 : am_Y := (fun pc => am_q38.lookup pc, 3, 0)
theorem mh_38 : am_Ys 38 = some mz_38 := rfl
theorem w38_0_2 {ext : Nat → List Value → am_M → Option am_R} {d : Nat} {P : am_R → Prop} (I : Nat → Nat → Int32) (L : Nat → Nat → Int64) (D : Nat → Nat → UInt64) (X : am_Rf) (v1 : Int32) (v2 : Int32)
    (h : ((v1 < 0 → (P (none, (I, L, D, am_rf X)))) ∧ (¬ v1 < 0 → ((((I 2 8) ≤ v1 → (P (none, (I, L, D, am_rf X)))) ∧ (¬ (I 2 8) ≤ v1 → (am_inb v1 288 = true ∧ (P (none, (am_uI I 8 (Int32.toNatClampNeg v1) v2, L, D, am_rf X)))))))))) : am_wp ext d mz_38 (0, [some (.ref 2), some (.int v1), some (.int v2)], [], (I, L, D, am_rf X)) P := by
  refine am_wpb (c' := (1, [some (.ref 2), some (.int v1), some (.int v2)], [.int v1], (I, L, D, am_rf X))) 1 rfl ?_
  refine am_b1_lt rfl (fun z => ?_) (fun z => ?_)
  · replace h := h.1 z
    exact am_ret_v rfl rfl h
  · replace h := h.2 z
    refine am_wpb (c' := (9, [some (.ref 2), some (.int v1), some (.int v2)], [.int (I 2 8), .int v1], (I, L, D, am_rf X))) 3 rfl ?_
    refine am_b2_ge rfl (fun z => ?_) (fun z => ?_)
    · replace h := h.1 z
      exact am_ret_v rfl rfl h
    · replace h := h.2 z
      refine am_wpb (c' := (18, [some (.ref 2), some (.int v1), some (.int v2)], [.int v2, .int v1, .ref 8], (I, L, D, am_rf X))) 4 rfl ?_
      obtain ⟨o, h⟩ := h
      refine am_wps (c' := (19, [some (.ref 2), some (.int v1), some (.int v2)], [], (am_uI I 8 (Int32.toNatClampNeg v1) v2, L, D, am_rf X))) rfl rfl (am_s_iast rfl o) ?_
      exact am_ret_v rfl rfl h
theorem w38_0_11 {ext : Nat → List Value → am_M → Option am_R} {d : Nat} {P : am_R → Prop} (I : Nat → Nat → Int32) (L : Nat → Nat → Int64) (D : Nat → Nat → UInt64) (X : am_Rf) (v1 : Int32) (v2 : Int32)
    (h : ((v1 < 0 → (P (none, (I, L, D, am_rf X)))) ∧ (¬ v1 < 0 → ((((I 11 8) ≤ v1 → (P (none, (I, L, D, am_rf X)))) ∧ (¬ (I 11 8) ≤ v1 → (am_inb v1 288 = true ∧ (P (none, (am_uI I 17 (Int32.toNatClampNeg v1) v2, L, D, am_rf X)))))))))) : am_wp ext d mz_38 (0, [some (.ref 11), some (.int v1), some (.int v2)], [], (I, L, D, am_rf X)) P := by
  refine am_wpb (c' := (1, [some (.ref 11), some (.int v1), some (.int v2)], [.int v1], (I, L, D, am_rf X))) 1 rfl ?_
  refine am_b1_lt rfl (fun z => ?_) (fun z => ?_)
  · replace h := h.1 z
    exact am_ret_v rfl rfl h
  · replace h := h.2 z
    refine am_wpb (c' := (9, [some (.ref 11), some (.int v1), some (.int v2)], [.int (I 11 8), .int v1], (I, L, D, am_rf X))) 3 rfl ?_
    refine am_b2_ge rfl (fun z => ?_) (fun z => ?_)
    · replace h := h.1 z
      exact am_ret_v rfl rfl h
    · replace h := h.2 z
      refine am_wpb (c' := (18, [some (.ref 11), some (.int v1), some (.int v2)], [.int v2, .int v1, .ref 17], (I, L, D, am_rf X))) 4 rfl ?_
      obtain ⟨o, h⟩ := h
      refine am_wps (c' := (19, [some (.ref 11), some (.int v1), some (.int v2)], [], (am_uI I 17 (Int32.toNatClampNeg v1) v2, L, D, am_rf X))) rfl rfl (am_s_iast rfl o) ?_
      exact am_ret_v rfl rfl h
/-- SureSums$Program.argumentAt(I)I -/
def mz_39 : am_Y := (fun pc => am_q39.lookup pc, 2, 1)
theorem mh_39 : am_Ys 39 = some mz_39 := rfl
theorem w39_0_2 {ext : Nat → List Value → am_M → Option am_R} {d : Nat} {P : am_R → Prop} (I : Nat → Nat → Int32) (L : Nat → Nat → Int64) (D : Nat → Nat → UInt64) (X : am_Rf) (v1 : Int32)
    (h : ((v1 < 0 → (P (some (.int 0), (I, L, D, am_rf X)))) ∧ (¬ v1 < 0 → ((((I 2 8) ≤ v1 → (P (some (.int 0), (I, L, D, am_rf X)))) ∧ (¬ (I 2 8) ≤ v1 → (am_inb v1 288 = true ∧ (P (some (.int (I 8 (Int32.toNatClampNeg v1))), (I, L, D, am_rf X)))))))))) : am_wp ext d mz_39 (0, [some (.ref 2), some (.int v1)], [], (I, L, D, am_rf X)) P := by
  refine am_wpb (c' := (1, [some (.ref 2), some (.int v1)], [.int v1], (I, L, D, am_rf X))) 1 rfl ?_
  refine am_b1_lt rfl (fun z => ?_) (fun z => ?_)
  · replace h := h.1 z
    refine am_wpb (c' := (22, [some (.ref 2), some (.int v1)], [.int 0], (I, L, D, am_rf X))) 1 rfl ?_
    exact am_ret_i rfl rfl h
  · replace h := h.2 z
    refine am_wpb (c' := (9, [some (.ref 2), some (.int v1)], [.int (I 2 8), .int v1], (I, L, D, am_rf X))) 3 rfl ?_
    refine am_b2_ge rfl (fun z => ?_) (fun z => ?_)
    · replace h := h.1 z
      refine am_wpb (c' := (22, [some (.ref 2), some (.int v1)], [.int 0], (I, L, D, am_rf X))) 1 rfl ?_
      exact am_ret_i rfl rfl h
    · replace h := h.2 z
      refine am_wpb (c' := (17, [some (.ref 2), some (.int v1)], [.int v1, .ref 8], (I, L, D, am_rf X))) 3 rfl ?_
      obtain ⟨o, h⟩ := h
      refine am_wps (c' := (18, [some (.ref 2), some (.int v1)], [.int (I 8 (Int32.toNatClampNeg v1))], (I, L, D, am_rf X))) rfl rfl (am_s_iald rfl o) ?_
      refine am_wpb (c' := (22, [some (.ref 2), some (.int v1)], [.int (I 8 (Int32.toNatClampNeg v1))], (I, L, D, am_rf X))) 1 rfl ?_
      exact am_ret_i rfl rfl h
theorem w39_0_11 {ext : Nat → List Value → am_M → Option am_R} {d : Nat} {P : am_R → Prop} (I : Nat → Nat → Int32) (L : Nat → Nat → Int64) (D : Nat → Nat → UInt64) (X : am_Rf) (v1 : Int32)
    (h : ((v1 < 0 → (P (some (.int 0), (I, L, D, am_rf X)))) ∧ (¬ v1 < 0 → ((((I 11 8) ≤ v1 → (P (some (.int 0), (I, L, D, am_rf X)))) ∧ (¬ (I 11 8) ≤ v1 → (am_inb v1 288 = true ∧ (P (some (.int (I 17 (Int32.toNatClampNeg v1))), (I, L, D, am_rf X)))))))))) : am_wp ext d mz_39 (0, [some (.ref 11), some (.int v1)], [], (I, L, D, am_rf X)) P := by
  refine am_wpb (c' := (1, [some (.ref 11), some (.int v1)], [.int v1], (I, L, D, am_rf X))) 1 rfl ?_
  refine am_b1_lt rfl (fun z => ?_) (fun z => ?_)
  · replace h := h.1 z
    refine am_wpb (c' := (22, [some (.ref 11), some (.int v1)], [.int 0], (I, L, D, am_rf X))) 1 rfl ?_
    exact am_ret_i rfl rfl h
  · replace h := h.2 z
    refine am_wpb (c' := (9, [some (.ref 11), some (.int v1)], [.int (I 11 8), .int v1], (I, L, D, am_rf X))) 3 rfl ?_
    refine am_b2_ge rfl (fun z => ?_) (fun z => ?_)
    · replace h := h.1 z
      refine am_wpb (c' := (22, [some (.ref 11), some (.int v1)], [.int 0], (I, L, D, am_rf X))) 1 rfl ?_
      exact am_ret_i rfl rfl h
    · replace h := h.2 z
      refine am_wpb (c' := (17, [some (.ref 11), some (.int v1)], [.int v1, .ref 17], (I, L, D, am_rf X))) 3 rfl ?_
      obtain ⟨o, h⟩ := h
      refine am_wps (c' := (18, [some (.ref 11), some (.int v1)], [.int (I 17 (Int32.toNatClampNeg v1))], (I, L, D, am_rf X))) rfl rfl (am_s_iald rfl o) ?_
      refine am_wpb (c' := (22, [some (.ref 11), some (.int v1)], [.int (I 17 (Int32.toNatClampNeg v1))], (I, L, D, am_rf X))) 1 rfl ?_
      exact am_ret_i rfl rfl h
/-- SureSums$Reader.read([IILSureSums$Program;)Z -/
def mz_40 : am_Y := (fun pc => am_q40.lookup pc, 5, 2)
theorem mh_40 : am_Ys 40 = some mz_40 := rfl
theorem w40_0 {ext : Nat → List Value → am_M → Option am_R} {d : Nat} {P : am_R → Prop} (I : Nat → Nat → Int32) (L : Nat → Nat → Int64) (D : Nat → Nat → UInt64) (xc : Nat) (xi : Nat) (xp : Nat) (xs : Nat) (xt : Nat) (xu : Nat) (v2 : Int32)
    (h : ∃ (I1 : Nat → Nat → Int32) (L1 : Nat → Nat → Int64) (D1 : Nat → Nat → UInt64), am_Rn ext d 83 [.ref 21, .ref 1, .int v2] (I, L, D, am_rf (xt, xs, xi, xp, xu, xc)) (none, (I1, L1, D1, am_rf (xt, xs, xi, xp, xu, xc))) ∧ (∃ (I2 : Nat → Nat → Int32) (L2 : Nat → Nat → Int64) (D2 : Nat → Nat → UInt64), am_Rn ext d 31 [.ref 11] (I1, L1, D1, am_rf (xt, xs, 11, xp, xu, xc)) (none, (I2, L2, D2, am_rf (xt, xs, 11, xp, xu, xc))) ∧ (∃ (I3 : Nat → Nat → Int32) (L3 : Nat → Nat → Int64) (D3 : Nat → Nat → UInt64), am_Rn ext d 41 [.ref 20] (am_uI (am_uI (am_uI (am_uI I2 20 2 0) 20 5 0) 20 8 0) 20 9 (-1), L2, D2, am_rf (xt, xs, 11, xp, xu, xc)) (none, (I3, L3, D3, am_rf (xt, xs, 11, xp, xu, xc))) ∧ (am_wp ext d mz_40 (48, [some (.ref 20), none, none, none, some (.int 0)], [], (I3, L3, D3, am_rf (xt, xs, 11, xp, xu, xc))) P)))) : am_wp ext d mz_40 (0, [some (.ref 20), some (.ref 1), some (.int v2), some (.ref 11), none], [], (I, L, D, am_rf (xt, xs, xi, xp, xu, xc))) P := by
  refine am_wpb (c' := (6, [some (.ref 20), some (.ref 1), some (.int v2), some (.ref 11), none], [.int v2, .ref 1, .ref 21], (I, L, D, am_rf (xt, xs, xi, xp, xu, xc)))) 4 rfl ?_
  obtain ⟨I1, L1, D1, hr, h⟩ := h
  refine am_wp_inv (as := [.ref 21, .ref 1, .int v2]) rfl rfl rfl rfl ⟨_, hr, ?_⟩
  show am_wp ext d mz_40 (9, [some (.ref 20), some (.ref 1), some (.int v2), some (.ref 11), none], [], (I1, L1, D1, am_rf (xt, xs, xi, xp, xu, xc))) P
  refine am_wpb (c' := (11, [some (.ref 20), some (.ref 1), some (.int v2), some (.ref 11), none], [.ref 11, .ref 20], (I1, L1, D1, am_rf (xt, xs, xi, xp, xu, xc)))) 2 rfl ?_
  refine am_wps (c' := (14, [some (.ref 20), some (.ref 1), some (.int v2), some (.ref 11), none], [], (I1, L1, D1, am_rf (xt, xs, 11, xp, xu, xc)))) rfl rfl (am_s_rput rfl rfl (am_rf_w2 _ _ _ _ _ _ _ _ _ _)) ?_
  refine am_wpb (c' := (18, [some (.ref 20), some (.ref 1), some (.int v2), some (.ref 11), none], [.ref 11], (I1, L1, D1, am_rf (xt, xs, 11, xp, xu, xc)))) 2 rfl ?_
  obtain ⟨I2, L2, D2, hr, h⟩ := h
  refine am_wp_inv (as := [.ref 11]) rfl rfl rfl rfl ⟨_, hr, ?_⟩
  show am_wp ext d mz_40 (21, [some (.ref 20), some (.ref 1), some (.int v2), some (.ref 11), none], [], (I2, L2, D2, am_rf (xt, xs, 11, xp, xu, xc))) P
  refine am_wpb (c' := (42, [some (.ref 20), some (.ref 1), some (.int v2), some (.ref 11), none], [.ref 20], (am_uI (am_uI (am_uI (am_uI I2 20 2 0) 20 5 0) 20 8 0) 20 9 (-1), L2, D2, am_rf (xt, xs, 11, xp, xu, xc)))) 13 rfl ?_
  obtain ⟨I3, L3, D3, hr, h⟩ := h
  refine am_wp_inv (as := [.ref 20]) rfl rfl rfl rfl ⟨_, hr, ?_⟩
  show am_wp ext d mz_40 (45, [some (.ref 20), some (.ref 1), some (.int v2), some (.ref 11), none], [], (I3, L3, D3, am_rf (xt, xs, 11, xp, xu, xc))) P
  refine am_wpb (c' := (48, [some (.ref 20), some (.ref 1), some (.int v2), some (.ref 11), some (.int 0)], [], (I3, L3, D3, am_rf (xt, xs, 11, xp, xu, xc)))) 2 rfl ?_
  exact am_fgt (l := [some (.ref 20), none, none, none, some (.int 0)]) (am_le_of (am_leS (am_leN (am_leN (am_leN (am_leS (am_leZ))))))) h
theorem w40_48 {ext : Nat → List Value → am_M → Option am_R} {d : Nat} {P : am_R → Prop} (I : Nat → Nat → Int32) (L : Nat → Nat → Int64) (D : Nat → Nat → UInt64) (xc : Nat) (xp : Nat) (xs : Nat) (xt : Nat) (xu : Nat) (v4 : Int32)
    (h : ((18 < v4 → (P (some (.int 1), (I, L, D, am_rf (xt, xs, 11, xp, xu, xc))))) ∧ (¬ 18 < v4 → ((((I 20 3) = 0 → (P (some (.int 1), (I, L, D, am_rf (xt, xs, 11, xp, xu, xc))))) ∧ (¬ (I 20 3) = 0 → (∃ (r1 : Int32) (I1 : Nat → Nat → Int32) (L1 : Nat → Nat → Int64) (D1 : Nat → Nat → UInt64), am_Rn ext d 43 [.ref 20] (I, L, D, am_rf (xt, xs, 11, xp, xu, xc)) (some (.int r1), (I1, L1, D1, am_rf (xt, xs, 11, xp, xu, xc))) ∧ (((¬ r1 = 0 → (am_wp ext d mz_40 (48, [some (.ref 20), none, none, none, some (.int (v4 + 1))], [], (I1, L1, D1, am_rf (xt, xs, 11, xp, xu, xc))) P)) ∧ (r1 = 0 → (P (some (.int 0), (I1, L1, D1, am_rf (xt, xs, 11, xp, xu, xc)))))))))))))) : am_wp ext d mz_40 (48, [some (.ref 20), none, none, none, some (.int v4)], [], (I, L, D, am_rf (xt, xs, 11, xp, xu, xc))) P := by
  refine am_wpb (c' := (52, [some (.ref 20), none, none, none, some (.int v4)], [.int 18, .int v4], (I, L, D, am_rf (xt, xs, 11, xp, xu, xc)))) 2 rfl ?_
  refine am_b2_gt rfl (fun z => ?_) (fun z => ?_)
  · replace h := h.1 z
    refine am_wpb (c' := (78, [some (.ref 20), none, none, none, some (.int v4)], [.int 1], (I, L, D, am_rf (xt, xs, 11, xp, xu, xc)))) 1 rfl ?_
    exact am_ret_z rfl rfl (Or.inr rfl) h
  · replace h := h.2 z
    refine am_wpb (c' := (59, [some (.ref 20), none, none, none, some (.int v4)], [.int (I 20 3)], (I, L, D, am_rf (xt, xs, 11, xp, xu, xc)))) 2 rfl ?_
    refine am_b1_eq rfl (fun z => ?_) (fun z => ?_)
    · replace h := h.1 z
      refine am_wpb (c' := (78, [some (.ref 20), none, none, none, some (.int v4)], [.int 1], (I, L, D, am_rf (xt, xs, 11, xp, xu, xc)))) 1 rfl ?_
      exact am_ret_z rfl rfl (Or.inr rfl) h
    · replace h := h.2 z
      refine am_wpb (c' := (63, [some (.ref 20), none, none, none, some (.int v4)], [.ref 20], (I, L, D, am_rf (xt, xs, 11, xp, xu, xc)))) 1 rfl ?_
      obtain ⟨r1, I1, L1, D1, hr, h⟩ := h
      refine am_wp_inv (as := [.ref 20]) rfl rfl rfl rfl ⟨_, hr, ?_⟩
      show am_wp ext d mz_40 (66, [some (.ref 20), none, none, none, some (.int v4)], [.int r1], (I1, L1, D1, am_rf (xt, xs, 11, xp, xu, xc))) P
      refine am_b1_ne rfl (fun z => ?_) (fun z => ?_)
      · replace h := h.1 z
        refine am_wpb (c' := (48, [some (.ref 20), none, none, none, some (.int (v4 + 1))], [], (I1, L1, D1, am_rf (xt, xs, 11, xp, xu, xc)))) 2 rfl ?_
        exact h
      · replace h := h.2 z
        refine am_wpb (c' := (70, [some (.ref 20), none, none, none, some (.int v4)], [.int 0], (I1, L1, D1, am_rf (xt, xs, 11, xp, xu, xc)))) 1 rfl ?_
        exact am_ret_z rfl rfl (Or.inl rfl) h
/-- SureSums$Reader.advance()V -/
def mz_41 : am_Y := (fun pc => am_q41.lookup pc, 1, 0)
theorem mh_41 : am_Ys 41 = some mz_41 := rfl
theorem w41_0 {ext : Nat → List Value → am_M → Option am_R} {d : Nat} {P : am_R → Prop} (I : Nat → Nat → Int32) (L : Nat → Nat → Int64) (D : Nat → Nat → UInt64) (X : am_Rf)
    (h : (((I 21 3) ≤ (I 20 2) → (P (none, (I, L, D, am_rf X)))) ∧ (¬ (I 21 3) ≤ (I 20 2) → (am_inb (I 20 2) 501 = true ∧ (am_inb (I 20 2) 501 = true ∧ (P (none, (am_uI (am_uI (am_uI I 20 3 (I 22 (Int32.toNatClampNeg (I 20 2)))) 20 4 (I 24 (Int32.toNatClampNeg (I 20 2)))) 20 2 ((I 20 2) + 1), L, D, am_rf X)))))))) : am_wp ext d mz_41 (0, [some (.ref 20)], [], (I, L, D, am_rf X)) P := by
  refine am_wpb (c' := (11, [some (.ref 20)], [.int (I 21 3), .int (I 20 2)], (I, L, D, am_rf X))) 5 rfl ?_
  refine am_b2_ge rfl (fun z => ?_) (fun z => ?_)
  · replace h := h.1 z
    exact am_ret_v rfl rfl h
  · replace h := h.2 z
    refine am_wpb (c' := (26, [some (.ref 20)], [.int (I 20 2), .ref 22, .ref 20], (I, L, D, am_rf X))) 6 rfl ?_
    obtain ⟨o, h⟩ := h
    refine am_wps (c' := (27, [some (.ref 20)], [.int (I 22 (Int32.toNatClampNeg (I 20 2))), .ref 20], (I, L, D, am_rf X))) rfl rfl (am_s_iald rfl o) ?_
    refine am_wpb (c' := (42, [some (.ref 20)], [.int (I 20 2), .ref 24, .ref 20], (am_uI I 20 3 (I 22 (Int32.toNatClampNeg (I 20 2))), L, D, am_rf X))) 7 rfl ?_
    obtain ⟨o, h⟩ := h
    refine am_wps (c' := (43, [some (.ref 20)], [.int (I 24 (Int32.toNatClampNeg (I 20 2))), .ref 20], (am_uI I 20 3 (I 22 (Int32.toNatClampNeg (I 20 2))), L, D, am_rf X))) rfl rfl (am_s_iald rfl o) ?_
    refine am_wpb (c' := (56, [some (.ref 20)], [], (am_uI (am_uI (am_uI I 20 3 (I 22 (Int32.toNatClampNeg (I 20 2)))) 20 4 (I 24 (Int32.toNatClampNeg (I 20 2)))) 20 2 ((I 20 2) + 1), L, D, am_rf X))) 7 rfl ?_
    exact am_ret_v rfl rfl h
/-- SureSums$Reader.fail(I)Z -/
def mz_42 : am_Y := (fun pc => am_q42.lookup pc, 2, 2)
theorem mh_42 : am_Ys 42 = some mz_42 := rfl
theorem w42_0 {ext : Nat → List Value → am_M → Option am_R} {d : Nat} {P : am_R → Prop} (I : Nat → Nat → Int32) (L : Nat → Nat → Int64) (D : Nat → Nat → UInt64) (X : am_Rf) (v1 : Int32)
    (h : (((I 20 2) < 1 → (P (some (.int 0), (am_uI (am_uI I 20 8 v1) 20 9 0, L, D, am_rf X)))) ∧ (¬ (I 20 2) < 1 → ((((I 21 3) < (I 20 2) → (P (some (.int 0), (am_uI (am_uI I 20 8 v1) 20 9 0, L, D, am_rf X)))) ∧ (¬ (I 21 3) < (I 20 2) → (am_inb ((I 20 2) - 1) 501 = true ∧ (P (some (.int 0), (am_uI (am_uI I 20 8 v1) 20 9 (I 23 (Int32.toNatClampNeg ((I 20 2) - 1))), L, D, am_rf X)))))))))) : am_wp ext d mz_42 (0, [some (.ref 20), some (.int v1)], [], (I, L, D, am_rf X)) P := by
  refine am_wpb (c' := (11, [some (.ref 20), some (.int v1)], [.int 1, .int (I 20 2), .ref 20], (am_uI I 20 8 v1, L, D, am_rf X))) 7 rfl ?_
  refine am_b2_lt rfl (fun z => ?_) (fun z => ?_)
  · replace h := h.1 z
    refine am_wpb (c' := (50, [some (.ref 20), some (.int v1)], [.int 0], (am_uI (am_uI I 20 8 v1) 20 9 0, L, D, am_rf X))) 3 rfl ?_
    exact am_ret_z rfl rfl (Or.inl rfl) h
  · replace h := h.2 z
    refine am_wpb (c' := (25, [some (.ref 20), some (.int v1)], [.int (I 21 3), .int (I 20 2), .ref 20], (am_uI I 20 8 v1, L, D, am_rf X))) 5 rfl ?_
    refine am_b2_gt rfl (fun z => ?_) (fun z => ?_)
    · replace h := h.1 z
      refine am_wpb (c' := (50, [some (.ref 20), some (.int v1)], [.int 0], (am_uI (am_uI I 20 8 v1) 20 9 0, L, D, am_rf X))) 3 rfl ?_
      exact am_ret_z rfl rfl (Or.inl rfl) h
    · replace h := h.2 z
      refine am_wpb (c' := (41, [some (.ref 20), some (.int v1)], [.int ((I 20 2) - 1), .ref 23, .ref 20], (am_uI I 20 8 v1, L, D, am_rf X))) 7 rfl ?_
      obtain ⟨o, h⟩ := h
      refine am_wps (c' := (42, [some (.ref 20), some (.int v1)], [.int (I 23 (Int32.toNatClampNeg ((I 20 2) - 1))), .ref 20], (am_uI I 20 8 v1, L, D, am_rf X))) rfl rfl (am_s_iald rfl o) ?_
      refine am_wpb (c' := (50, [some (.ref 20), some (.int v1)], [.int 0], (am_uI (am_uI I 20 8 v1) 20 9 (I 23 (Int32.toNatClampNeg ((I 20 2) - 1))), L, D, am_rf X))) 3 rfl ?_
      exact am_ret_z rfl rfl (Or.inl rfl) h
/-- SureSums$Reader.line()Z -/
def mz_43 : am_Y := (fun pc => am_q43.lookup pc, 3, 2)
theorem mh_43 : am_Ys 43 = some mz_43 := rfl
theorem w43_0 {ext : Nat → List Value → am_M → Option am_R} {d : Nat} {P : am_R → Prop} (I : Nat → Nat → Int32) (L : Nat → Nat → Int64) (D : Nat → Nat → UInt64) (xc : Nat) (xp : Nat) (xs : Nat) (xt : Nat) (xu : Nat)
    (h : (((I 20 3) = 4 → (am_wp ext d mz_43 (22, [some (.ref 20), none, none], [], (I, L, D, am_rf (xt, xs, 11, xp, xu, xc))) P)) ∧ (¬ (I 20 3) = 4 → ((((I 20 3) = 5 → (am_wp ext d mz_43 (22, [some (.ref 20), none, none], [], (I, L, D, am_rf (xt, xs, 11, xp, xu, xc))) P)) ∧ (¬ (I 20 3) = 5 → (∃ (r1 : Int32) (I1 : Nat → Nat → Int32) (L1 : Nat → Nat → Int64) (D1 : Nat → Nat → UInt64), am_Rn ext d 42 [.ref 20, .int 1] (I, L, D, am_rf (xt, xs, 11, xp, xu, xc)) (some (.int r1), (I1, L1, D1, am_rf (xt, xs, 11, xp, xu, xc))) ∧ ((r1 = 0 ∨ r1 = 1) ∧ P (some (.int r1), (I1, L1, D1, am_rf (xt, xs, 11, xp, xu, xc))))))))))) : am_wp ext d mz_43 (0, [some (.ref 20), none, none], [], (I, L, D, am_rf (xt, xs, 11, xp, xu, xc))) P := by
  refine am_wpb (c' := (5, [some (.ref 20), none, none], [.int 4, .int (I 20 3)], (I, L, D, am_rf (xt, xs, 11, xp, xu, xc)))) 3 rfl ?_
  refine am_b2_eq rfl (fun z => ?_) (fun z => ?_)
  · replace h := h.1 z
    exact h
  · replace h := h.2 z
    refine am_wpb (c' := (13, [some (.ref 20), none, none], [.int 5, .int (I 20 3)], (I, L, D, am_rf (xt, xs, 11, xp, xu, xc)))) 3 rfl ?_
    refine am_b2_eq rfl (fun z => ?_) (fun z => ?_)
    · replace h := h.1 z
      exact h
    · replace h := h.2 z
      refine am_wpb (c' := (18, [some (.ref 20), none, none], [.int 1, .ref 20], (I, L, D, am_rf (xt, xs, 11, xp, xu, xc)))) 2 rfl ?_
      obtain ⟨r1, I1, L1, D1, hr, h⟩ := h
      refine am_wp_inv (as := [.ref 20, .int 1]) rfl rfl rfl rfl ⟨_, hr, ?_⟩
      show am_wp ext d mz_43 (21, [some (.ref 20), none, none], [.int r1], (I1, L1, D1, am_rf (xt, xs, 11, xp, xu, xc))) P
      exact am_ret_z rfl rfl h.1 h.2
theorem w43_22 {ext : Nat → List Value → am_M → Option am_R} {d : Nat} {P : am_R → Prop} (I : Nat → Nat → Int32) (L : Nat → Nat → Int64) (D : Nat → Nat → UInt64) (xc : Nat) (xp : Nat) (xs : Nat) (xt : Nat) (xu : Nat)
    (h : ((¬ (I 20 3) = 5 → (am_wp ext d mz_43 (36, [some (.ref 20), none, none], [.int 0, .ref 20], (I, L, D, am_rf (xt, xs, 11, xp, xu, xc))) P)) ∧ ((I 20 3) = 5 → (am_wp ext d mz_43 (36, [some (.ref 20), none, none], [.int 1, .ref 20], (I, L, D, am_rf (xt, xs, 11, xp, xu, xc))) P)))) : am_wp ext d mz_43 (22, [some (.ref 20), none, none], [], (I, L, D, am_rf (xt, xs, 11, xp, xu, xc))) P := by
  refine am_wpb (c' := (28, [some (.ref 20), none, none], [.int 5, .int (I 20 3), .ref 20], (I, L, D, am_rf (xt, xs, 11, xp, xu, xc)))) 4 rfl ?_
  refine am_b2_ne rfl (fun z => ?_) (fun z => ?_)
  · replace h := h.1 z
    refine am_wpb (c' := (36, [some (.ref 20), none, none], [.int 0, .ref 20], (I, L, D, am_rf (xt, xs, 11, xp, xu, xc)))) 1 rfl ?_
    exact h
  · replace h := h.2 z
    refine am_wpb (c' := (36, [some (.ref 20), none, none], [.int 1, .ref 20], (I, L, D, am_rf (xt, xs, 11, xp, xu, xc)))) 2 rfl ?_
    exact h
theorem w43_36 {ext : Nat → List Value → am_M → Option am_R} {d : Nat} {P : am_R → Prop} (I : Nat → Nat → Int32) (L : Nat → Nat → Int64) (D : Nat → Nat → UInt64) (xc : Nat) (xp : Nat) (xs : Nat) (xt : Nat) (xu : Nat) (s0 : Int32)
    (h : (s0 = 0 ∨ s0 = 1) ∧ (((s0 = 0 → ((((I 11 10) < 12 → (am_wp ext d mz_43 (79, [some (.ref 20), none, none], [], (am_uI I 20 6 s0, L, D, am_rf (xt, xs, 11, xp, xu, xc))) P)) ∧ (¬ (I 11 10) < 12 → (∃ (r1 : Int32) (I1 : Nat → Nat → Int32) (L1 : Nat → Nat → Int64) (D1 : Nat → Nat → UInt64), am_Rn ext d 42 [.ref 20, .int 2] (am_uI I 20 6 s0, L, D, am_rf (xt, xs, 11, xp, xu, xc)) (some (.int r1), (I1, L1, D1, am_rf (xt, xs, 11, xp, xu, xc))) ∧ ((r1 = 0 ∨ r1 = 1) ∧ P (some (.int r1), (I1, L1, D1, am_rf (xt, xs, 11, xp, xu, xc))))))))) ∧ (¬ s0 = 0 → ((((I 11 11) < 6 → (am_wp ext d mz_43 (79, [some (.ref 20), none, none], [], (am_uI I 20 6 s0, L, D, am_rf (xt, xs, 11, xp, xu, xc))) P)) ∧ (¬ (I 11 11) < 6 → (∃ (r2 : Int32) (I2 : Nat → Nat → Int32) (L2 : Nat → Nat → Int64) (D2 : Nat → Nat → UInt64), am_Rn ext d 42 [.ref 20, .int 2] (am_uI I 20 6 s0, L, D, am_rf (xt, xs, 11, xp, xu, xc)) (some (.int r2), (I2, L2, D2, am_rf (xt, xs, 11, xp, xu, xc))) ∧ ((r2 = 0 ∨ r2 = 1) ∧ P (some (.int r2), (I2, L2, D2, am_rf (xt, xs, 11, xp, xu, xc)))))))))))) : am_wp ext d mz_43 (36, [some (.ref 20), none, none], [.int s0, .ref 20], (I, L, D, am_rf (xt, xs, 11, xp, xu, xc))) P := by
  obtain ⟨o, h⟩ := h
  refine am_wps (c' := (39, [some (.ref 20), none, none], [], (am_uI I 20 6 s0, L, D, am_rf (xt, xs, 11, xp, xu, xc)))) rfl rfl (am_s_zput rfl rfl o) ?_
  refine am_wpb (c' := (43, [some (.ref 20), none, none], [.int s0], (am_uI I 20 6 s0, L, D, am_rf (xt, xs, 11, xp, xu, xc)))) 2 rfl ?_
  refine am_b1_eq rfl (fun z => ?_) (fun z => ?_)
  · replace h := h.1 z
    refine am_wpb (c' := (70, [some (.ref 20), none, none], [.int 12, .int (I 11 10)], (am_uI I 20 6 s0, L, D, am_rf (xt, xs, 11, xp, xu, xc)))) 4 rfl ?_
    refine am_b2_lt rfl (fun z => ?_) (fun z => ?_)
    · replace h := h.1 z
      exact h
    · replace h := h.2 z
      refine am_wpb (c' := (75, [some (.ref 20), none, none], [.int 2, .ref 20], (am_uI I 20 6 s0, L, D, am_rf (xt, xs, 11, xp, xu, xc)))) 2 rfl ?_
      obtain ⟨r1, I1, L1, D1, hr, h⟩ := h
      refine am_wp_inv (as := [.ref 20, .int 2]) rfl rfl rfl rfl ⟨_, hr, ?_⟩
      show am_wp ext d mz_43 (78, [some (.ref 20), none, none], [.int r1], (I1, L1, D1, am_rf (xt, xs, 11, xp, xu, xc))) P
      exact am_ret_z rfl rfl h.1 h.2
  · replace h := h.2 z
    refine am_wpb (c' := (55, [some (.ref 20), none, none], [.int 6, .int (I 11 11)], (am_uI I 20 6 s0, L, D, am_rf (xt, xs, 11, xp, xu, xc)))) 4 rfl ?_
    refine am_b2_lt rfl (fun z => ?_) (fun z => ?_)
    · replace h := h.1 z
      exact h
    · replace h := h.2 z
      refine am_wpb (c' := (75, [some (.ref 20), none, none], [.int 2, .ref 20], (am_uI I 20 6 s0, L, D, am_rf (xt, xs, 11, xp, xu, xc)))) 3 rfl ?_
      obtain ⟨r2, I2, L2, D2, hr, h⟩ := h
      refine am_wp_inv (as := [.ref 20, .int 2]) rfl rfl rfl rfl ⟨_, hr, ?_⟩
      show am_wp ext d mz_43 (78, [some (.ref 20), none, none], [.int r2], (I2, L2, D2, am_rf (xt, xs, 11, xp, xu, xc))) P
      exact am_ret_z rfl rfl h.1 h.2
theorem w43_79 {ext : Nat → List Value → am_M → Option am_R} {d : Nat} {P : am_R → Prop} (I : Nat → Nat → Int32) (L : Nat → Nat → Int64) (D : Nat → Nat → UInt64) (xc : Nat) (xp : Nat) (xs : Nat) (xt : Nat) (xu : Nat)
    (h : ∃ (I1 : Nat → Nat → Int32) (L1 : Nat → Nat → Int64) (D1 : Nat → Nat → UInt64), am_Rn ext d 41 [.ref 20] (I, L, D, am_rf (xt, xs, 11, xp, xu, xc)) (none, (I1, L1, D1, am_rf (xt, xs, 11, xp, xu, xc))) ∧ (((¬ (I1 20 3) = 3 → (∃ (r2 : Int32) (I2 : Nat → Nat → Int32) (L2 : Nat → Nat → Int64) (D2 : Nat → Nat → UInt64), am_Rn ext d 42 [.ref 20, .int 1] (I1, L1, D1, am_rf (xt, xs, 11, xp, xu, xc)) (some (.int r2), (I2, L2, D2, am_rf (xt, xs, 11, xp, xu, xc))) ∧ ((r2 = 0 ∨ r2 = 1) ∧ P (some (.int r2), (I2, L2, D2, am_rf (xt, xs, 11, xp, xu, xc)))))) ∧ ((I1 20 3) = 3 → (((¬ (I1 20 4) = 19 → (∃ (r3 : Int32) (I3 : Nat → Nat → Int32) (L3 : Nat → Nat → Int64) (D3 : Nat → Nat → UInt64), am_Rn ext d 32 [.ref 11, .int (I1 20 4)] (I1, L1, D1, am_rf (xt, xs, 11, xp, xu, xc)) (some (.int r3), (I3, L3, D3, am_rf (xt, xs, 11, xp, xu, xc))) ∧ (((r3 < 0 → (∃ (I4 : Nat → Nat → Int32) (L4 : Nat → Nat → Int64) (D4 : Nat → Nat → UInt64), am_Rn ext d 41 [.ref 20] (I3, L3, D3, am_rf (xt, xs, 11, xp, xu, xc)) (none, (I4, L4, D4, am_rf (xt, xs, 11, xp, xu, xc))) ∧ (∃ (r5 : Int32) (I5 : Nat → Nat → Int32) (L5 : Nat → Nat → Int64) (D5 : Nat → Nat → UInt64), am_Rn ext d 59 [.ref 20, .int 61] (I4, L4, D4, am_rf (xt, xs, 11, xp, xu, xc)) (some (.int r5), (I5, L5, D5, am_rf (xt, xs, 11, xp, xu, xc))) ∧ (((r5 = 0 → (P (some (.int 0), (I5, L5, D5, am_rf (xt, xs, 11, xp, xu, xc))))) ∧ (¬ r5 = 0 → (∃ (r6 : Int32) (I6 : Nat → Nat → Int32) (L6 : Nat → Nat → Int64) (D6 : Nat → Nat → UInt64), am_Rn ext d 44 [.ref 20, .int 0] (I5, L5, D5, am_rf (xt, xs, 11, xp, xu, xc)) (some (.int r6), (I6, L6, D6, am_rf (xt, xs, 11, xp, xu, xc))) ∧ (((¬ r6 = 0 → (∃ (I7 : Nat → Nat → Int32) (L7 : Nat → Nat → Int64) (D7 : Nat → Nat → UInt64), am_Rn ext d 35 [.ref 11, .int (I1 20 4), .int (I6 20 6), .int (I4 11 8)] (I6, L6, D6, am_rf (xt, xs, 11, xp, xu, xc)) (none, (I7, L7, D7, am_rf (xt, xs, 11, xp, xu, xc))) ∧ (∃ (r8 : Int32) (I8 : Nat → Nat → Int32) (L8 : Nat → Nat → Int64) (D8 : Nat → Nat → UInt64), am_Rn ext d 59 [.ref 20, .int 59] (I7, L7, D7, am_rf (xt, xs, 11, xp, xu, xc)) (some (.int r8), (I8, L8, D8, am_rf (xt, xs, 11, xp, xu, xc))) ∧ ((r8 = 0 ∨ r8 = 1) ∧ P (some (.int r8), (I8, L8, D8, am_rf (xt, xs, 11, xp, xu, xc))))))) ∧ (r6 = 0 → (P (some (.int 0), (I6, L6, D6, am_rf (xt, xs, 11, xp, xu, xc)))))))))))))) ∧ (¬ r3 < 0 → (∃ (r9 : Int32) (I9 : Nat → Nat → Int32) (L9 : Nat → Nat → Int64) (D9 : Nat → Nat → UInt64), am_Rn ext d 42 [.ref 20, .int 3] (I3, L3, D3, am_rf (xt, xs, 11, xp, xu, xc)) (some (.int r9), (I9, L9, D9, am_rf (xt, xs, 11, xp, xu, xc))) ∧ ((r9 = 0 ∨ r9 = 1) ∧ P (some (.int r9), (I9, L9, D9, am_rf (xt, xs, 11, xp, xu, xc)))))))))) ∧ ((I1 20 4) = 19 → (∃ (r10 : Int32) (I10 : Nat → Nat → Int32) (L10 : Nat → Nat → Int64) (D10 : Nat → Nat → UInt64), am_Rn ext d 42 [.ref 20, .int 1] (I1, L1, D1, am_rf (xt, xs, 11, xp, xu, xc)) (some (.int r10), (I10, L10, D10, am_rf (xt, xs, 11, xp, xu, xc))) ∧ ((r10 = 0 ∨ r10 = 1) ∧ P (some (.int r10), (I10, L10, D10, am_rf (xt, xs, 11, xp, xu, xc)))))))))))) : am_wp ext d mz_43 (79, [some (.ref 20), none, none], [], (I, L, D, am_rf (xt, xs, 11, xp, xu, xc))) P := by
  refine am_wpb (c' := (80, [some (.ref 20), none, none], [.ref 20], (I, L, D, am_rf (xt, xs, 11, xp, xu, xc)))) 1 rfl ?_
  obtain ⟨I1, L1, D1, hr, h⟩ := h
  refine am_wp_inv (as := [.ref 20]) rfl rfl rfl rfl ⟨_, hr, ?_⟩
  show am_wp ext d mz_43 (83, [some (.ref 20), none, none], [], (I1, L1, D1, am_rf (xt, xs, 11, xp, xu, xc))) P
  refine am_wpb (c' := (88, [some (.ref 20), none, none], [.int 3, .int (I1 20 3)], (I1, L1, D1, am_rf (xt, xs, 11, xp, xu, xc)))) 3 rfl ?_
  refine am_b2_ne rfl (fun z => ?_) (fun z => ?_)
  · replace h := h.1 z
    refine am_wpb (c' := (102, [some (.ref 20), none, none], [.int 1, .ref 20], (I1, L1, D1, am_rf (xt, xs, 11, xp, xu, xc)))) 2 rfl ?_
    obtain ⟨r2, I2, L2, D2, hr, h⟩ := h
    refine am_wp_inv (as := [.ref 20, .int 1]) rfl rfl rfl rfl ⟨_, hr, ?_⟩
    show am_wp ext d mz_43 (105, [some (.ref 20), none, none], [.int r2], (I2, L2, D2, am_rf (xt, xs, 11, xp, xu, xc))) P
    exact am_ret_z rfl rfl h.1 h.2
  · replace h := h.2 z
    refine am_wpb (c' := (97, [some (.ref 20), none, none], [.int 19, .int (I1 20 4)], (I1, L1, D1, am_rf (xt, xs, 11, xp, xu, xc)))) 3 rfl ?_
    refine am_b2_ne rfl (fun z => ?_) (fun z => ?_)
    · replace h := h.1 z
      refine am_wpb (c' := (116, [some (.ref 20), some (.int (I1 20 4)), none], [.int (I1 20 4), .ref 11], (I1, L1, D1, am_rf (xt, xs, 11, xp, xu, xc)))) 6 rfl ?_
      obtain ⟨r3, I3, L3, D3, hr, h⟩ := h
      refine am_wp_inv (as := [.ref 11, .int (I1 20 4)]) rfl rfl rfl rfl ⟨_, hr, ?_⟩
      show am_wp ext d mz_43 (119, [some (.ref 20), some (.int (I1 20 4)), none], [.int r3], (I3, L3, D3, am_rf (xt, xs, 11, xp, xu, xc))) P
      refine am_b1_lt rfl (fun z => ?_) (fun z => ?_)
      · replace h := h.1 z
        refine am_wpb (c' := (129, [some (.ref 20), some (.int (I1 20 4)), none], [.ref 20], (I3, L3, D3, am_rf (xt, xs, 11, xp, xu, xc)))) 1 rfl ?_
        obtain ⟨I4, L4, D4, hr, h⟩ := h
        refine am_wp_inv (as := [.ref 20]) rfl rfl rfl rfl ⟨_, hr, ?_⟩
        show am_wp ext d mz_43 (132, [some (.ref 20), some (.int (I1 20 4)), none], [], (I4, L4, D4, am_rf (xt, xs, 11, xp, xu, xc))) P
        refine am_wpb (c' := (143, [some (.ref 20), some (.int (I1 20 4)), some (.int (I4 11 8))], [.int 61, .ref 20], (I4, L4, D4, am_rf (xt, xs, 11, xp, xu, xc)))) 6 rfl ?_
        obtain ⟨r5, I5, L5, D5, hr, h⟩ := h
        refine am_wp_inv (as := [.ref 20, .int 61]) rfl rfl rfl rfl ⟨_, hr, ?_⟩
        show am_wp ext d mz_43 (146, [some (.ref 20), some (.int (I1 20 4)), some (.int (I4 11 8))], [.int r5], (I5, L5, D5, am_rf (xt, xs, 11, xp, xu, xc))) P
        refine am_b1_eq rfl (fun z => ?_) (fun z => ?_)
        · replace h := h.1 z
          refine am_wpb (c' := (158, [some (.ref 20), some (.int (I1 20 4)), some (.int (I4 11 8))], [.int 0], (I5, L5, D5, am_rf (xt, xs, 11, xp, xu, xc)))) 1 rfl ?_
          exact am_ret_z rfl rfl (Or.inl rfl) h
        · replace h := h.2 z
          refine am_wpb (c' := (151, [some (.ref 20), some (.int (I1 20 4)), some (.int (I4 11 8))], [.int 0, .ref 20], (I5, L5, D5, am_rf (xt, xs, 11, xp, xu, xc)))) 2 rfl ?_
          obtain ⟨r6, I6, L6, D6, hr, h⟩ := h
          refine am_wp_inv (as := [.ref 20, .int 0]) rfl rfl rfl rfl ⟨_, hr, ?_⟩
          show am_wp ext d mz_43 (154, [some (.ref 20), some (.int (I1 20 4)), some (.int (I4 11 8))], [.int r6], (I6, L6, D6, am_rf (xt, xs, 11, xp, xu, xc))) P
          refine am_b1_ne rfl (fun z => ?_) (fun z => ?_)
          · replace h := h.1 z
            refine am_wpb (c' := (169, [some (.ref 20), some (.int (I1 20 4)), some (.int (I4 11 8))], [.int (I4 11 8), .int (I6 20 6), .int (I1 20 4), .ref 11], (I6, L6, D6, am_rf (xt, xs, 11, xp, xu, xc)))) 6 rfl ?_
            obtain ⟨I7, L7, D7, hr, h⟩ := h
            refine am_wp_inv (as := [.ref 11, .int (I1 20 4), .int (I6 20 6), .int (I4 11 8)]) rfl rfl rfl rfl ⟨_, hr, ?_⟩
            show am_wp ext d mz_43 (172, [some (.ref 20), some (.int (I1 20 4)), some (.int (I4 11 8))], [], (I7, L7, D7, am_rf (xt, xs, 11, xp, xu, xc))) P
            refine am_wpb (c' := (175, [some (.ref 20), some (.int (I1 20 4)), some (.int (I4 11 8))], [.int 59, .ref 20], (I7, L7, D7, am_rf (xt, xs, 11, xp, xu, xc)))) 2 rfl ?_
            obtain ⟨r8, I8, L8, D8, hr, h⟩ := h
            refine am_wp_inv (as := [.ref 20, .int 59]) rfl rfl rfl rfl ⟨_, hr, ?_⟩
            show am_wp ext d mz_43 (178, [some (.ref 20), some (.int (I1 20 4)), some (.int (I4 11 8))], [.int r8], (I8, L8, D8, am_rf (xt, xs, 11, xp, xu, xc))) P
            exact am_ret_z rfl rfl h.1 h.2
          · replace h := h.2 z
            refine am_wpb (c' := (158, [some (.ref 20), some (.int (I1 20 4)), some (.int (I4 11 8))], [.int 0], (I6, L6, D6, am_rf (xt, xs, 11, xp, xu, xc)))) 1 rfl ?_
            exact am_ret_z rfl rfl (Or.inl rfl) h
      · replace h := h.2 z
        refine am_wpb (c' := (124, [some (.ref 20), some (.int (I1 20 4)), none], [.int 3, .ref 20], (I3, L3, D3, am_rf (xt, xs, 11, xp, xu, xc)))) 2 rfl ?_
        obtain ⟨r9, I9, L9, D9, hr, h⟩ := h
        refine am_wp_inv (as := [.ref 20, .int 3]) rfl rfl rfl rfl ⟨_, hr, ?_⟩
        show am_wp ext d mz_43 (127, [some (.ref 20), some (.int (I1 20 4)), none], [.int r9], (I9, L9, D9, am_rf (xt, xs, 11, xp, xu, xc))) P
        exact am_ret_z rfl rfl h.1 h.2
    · replace h := h.2 z
      refine am_wpb (c' := (102, [some (.ref 20), none, none], [.int 1, .ref 20], (I1, L1, D1, am_rf (xt, xs, 11, xp, xu, xc)))) 2 rfl ?_
      obtain ⟨r10, I10, L10, D10, hr, h⟩ := h
      refine am_wp_inv (as := [.ref 20, .int 1]) rfl rfl rfl rfl ⟨_, hr, ?_⟩
      show am_wp ext d mz_43 (105, [some (.ref 20), none, none], [.int r10], (I10, L10, D10, am_rf (xt, xs, 11, xp, xu, xc))) P
      exact am_ret_z rfl rfl h.1 h.2
/-- SureSums$Reader.chain(I)Z -/
def mz_44 : am_Y := (fun pc => am_q44.lookup pc, 7, 2)
theorem mh_44 : am_Ys 44 = some mz_44 := rfl
theorem w44_0 {ext : Nat → List Value → am_M → Option am_R} {d : Nat} {P : am_R → Prop} (I : Nat → Nat → Int32) (L : Nat → Nat → Int64) (D : Nat → Nat → UInt64) (xc : Nat) (xp : Nat) (xs : Nat) (xt : Nat) (xu : Nat) (v1 : Int32)
    (h : ((¬ v1 = 0 → (am_wp ext d mz_44 (11, [some (.ref 20), some (.int v1), none, none, none, none, none], [.int 42], (I, L, D, am_rf (xt, xs, 11, xp, xu, xc))) P)) ∧ (v1 = 0 → (am_wp ext d mz_44 (11, [some (.ref 20), some (.int v1), none, none, none, none, none], [.int 43], (I, L, D, am_rf (xt, xs, 11, xp, xu, xc))) P)))) : am_wp ext d mz_44 (0, [some (.ref 20), some (.int v1), none, none, none, none, none], [], (I, L, D, am_rf (xt, xs, 11, xp, xu, xc))) P := by
  refine am_wpb (c' := (1, [some (.ref 20), some (.int v1), none, none, none, none, none], [.int v1], (I, L, D, am_rf (xt, xs, 11, xp, xu, xc)))) 1 rfl ?_
  refine am_b1_ne rfl (fun z => ?_) (fun z => ?_)
  · replace h := h.1 z
    refine am_wpb (c' := (11, [some (.ref 20), some (.int v1), none, none, none, none, none], [.int 42], (I, L, D, am_rf (xt, xs, 11, xp, xu, xc)))) 1 rfl ?_
    exact h
  · replace h := h.2 z
    refine am_wpb (c' := (11, [some (.ref 20), some (.int v1), none, none, none, none, none], [.int 43], (I, L, D, am_rf (xt, xs, 11, xp, xu, xc)))) 2 rfl ?_
    exact h
theorem w44_11 {ext : Nat → List Value → am_M → Option am_R} {d : Nat} {P : am_R → Prop} (I : Nat → Nat → Int32) (L : Nat → Nat → Int64) (D : Nat → Nat → UInt64) (xc : Nat) (xp : Nat) (xs : Nat) (xt : Nat) (xu : Nat) (v1 : Int32) (s0 : Int32)
    (h : ((¬ v1 = 0 → (((¬ v1 = 0 → (∃ (r1 : Int32) (I1 : Nat → Nat → Int32) (L1 : Nat → Nat → Int64) (D1 : Nat → Nat → UInt64), am_Rn ext d 46 [.ref 20] (I, L, D, am_rf (xt, xs, 11, xp, xu, xc)) (some (.int r1), (I1, L1, D1, am_rf (xt, xs, 11, xp, xu, xc))) ∧ (am_wp ext d mz_44 (45, [some (.ref 20), some (.int v1), some (.int s0), some (.int 47), some (.int r1), some (.int 0), none], [], (I1, L1, D1, am_rf (xt, xs, 11, xp, xu, xc))) P))) ∧ (v1 = 0 → (∃ (r2 : Int32) (I2 : Nat → Nat → Int32) (L2 : Nat → Nat → Int64) (D2 : Nat → Nat → UInt64), am_Rn ext d 44 [.ref 20, .int 1] (I, L, D, am_rf (xt, xs, 11, xp, xu, xc)) (some (.int r2), (I2, L2, D2, am_rf (xt, xs, 11, xp, xu, xc))) ∧ (am_wp ext d mz_44 (45, [some (.ref 20), some (.int v1), some (.int s0), some (.int 47), some (.int r2), some (.int 0), none], [], (I2, L2, D2, am_rf (xt, xs, 11, xp, xu, xc))) P)))))) ∧ (v1 = 0 → (((¬ v1 = 0 → (∃ (r3 : Int32) (I3 : Nat → Nat → Int32) (L3 : Nat → Nat → Int64) (D3 : Nat → Nat → UInt64), am_Rn ext d 46 [.ref 20] (I, L, D, am_rf (xt, xs, 11, xp, xu, xc)) (some (.int r3), (I3, L3, D3, am_rf (xt, xs, 11, xp, xu, xc))) ∧ (am_wp ext d mz_44 (45, [some (.ref 20), some (.int v1), some (.int s0), some (.int 45), some (.int r3), some (.int 0), none], [], (I3, L3, D3, am_rf (xt, xs, 11, xp, xu, xc))) P))) ∧ (v1 = 0 → (∃ (r4 : Int32) (I4 : Nat → Nat → Int32) (L4 : Nat → Nat → Int64) (D4 : Nat → Nat → UInt64), am_Rn ext d 44 [.ref 20, .int 1] (I, L, D, am_rf (xt, xs, 11, xp, xu, xc)) (some (.int r4), (I4, L4, D4, am_rf (xt, xs, 11, xp, xu, xc))) ∧ (am_wp ext d mz_44 (45, [some (.ref 20), some (.int v1), some (.int s0), some (.int 45), some (.int r4), some (.int 0), none], [], (I4, L4, D4, am_rf (xt, xs, 11, xp, xu, xc))) P)))))))) : am_wp ext d mz_44 (11, [some (.ref 20), some (.int v1), none, none, none, none, none], [.int s0], (I, L, D, am_rf (xt, xs, 11, xp, xu, xc))) P := by
  refine am_wpb (c' := (13, [some (.ref 20), some (.int v1), some (.int s0), none, none, none, none], [.int v1], (I, L, D, am_rf (xt, xs, 11, xp, xu, xc)))) 2 rfl ?_
  refine am_b1_ne rfl (fun z => ?_) (fun z => ?_)
  · replace h := h.1 z
    refine am_wpb (c' := (25, [some (.ref 20), some (.int v1), some (.int s0), some (.int 47), none, none, none], [.int v1], (I, L, D, am_rf (xt, xs, 11, xp, xu, xc)))) 3 rfl ?_
    refine am_b1_ne rfl (fun z => ?_) (fun z => ?_)
    · replace h := h.1 z
      refine am_wpb (c' := (37, [some (.ref 20), some (.int v1), some (.int s0), some (.int 47), none, none, none], [.ref 20], (I, L, D, am_rf (xt, xs, 11, xp, xu, xc)))) 1 rfl ?_
      obtain ⟨r1, I1, L1, D1, hr, h⟩ := h
      refine am_wp_inv (as := [.ref 20]) rfl rfl rfl rfl ⟨_, hr, ?_⟩
      show am_wp ext d mz_44 (40, [some (.ref 20), some (.int v1), some (.int s0), some (.int 47), none, none, none], [.int r1], (I1, L1, D1, am_rf (xt, xs, 11, xp, xu, xc))) P
      refine am_wpb (c' := (45, [some (.ref 20), some (.int v1), some (.int s0), some (.int 47), some (.int r1), some (.int 0), none], [], (I1, L1, D1, am_rf (xt, xs, 11, xp, xu, xc)))) 3 rfl ?_
      exact h
    · replace h := h.2 z
      refine am_wpb (c' := (30, [some (.ref 20), some (.int v1), some (.int s0), some (.int 47), none, none, none], [.int 1, .ref 20], (I, L, D, am_rf (xt, xs, 11, xp, xu, xc)))) 2 rfl ?_
      obtain ⟨r2, I2, L2, D2, hr, h⟩ := h
      refine am_wp_inv (as := [.ref 20, .int 1]) rfl rfl rfl rfl ⟨_, hr, ?_⟩
      show am_wp ext d mz_44 (33, [some (.ref 20), some (.int v1), some (.int s0), some (.int 47), none, none, none], [.int r2], (I2, L2, D2, am_rf (xt, xs, 11, xp, xu, xc))) P
      refine am_wpb (c' := (45, [some (.ref 20), some (.int v1), some (.int s0), some (.int 47), some (.int r2), some (.int 0), none], [], (I2, L2, D2, am_rf (xt, xs, 11, xp, xu, xc)))) 4 rfl ?_
      exact h
  · replace h := h.2 z
    refine am_wpb (c' := (25, [some (.ref 20), some (.int v1), some (.int s0), some (.int 45), none, none, none], [.int v1], (I, L, D, am_rf (xt, xs, 11, xp, xu, xc)))) 4 rfl ?_
    refine am_b1_ne rfl (fun z => ?_) (fun z => ?_)
    · replace h := h.1 z
      refine am_wpb (c' := (37, [some (.ref 20), some (.int v1), some (.int s0), some (.int 45), none, none, none], [.ref 20], (I, L, D, am_rf (xt, xs, 11, xp, xu, xc)))) 1 rfl ?_
      obtain ⟨r3, I3, L3, D3, hr, h⟩ := h
      refine am_wp_inv (as := [.ref 20]) rfl rfl rfl rfl ⟨_, hr, ?_⟩
      show am_wp ext d mz_44 (40, [some (.ref 20), some (.int v1), some (.int s0), some (.int 45), none, none, none], [.int r3], (I3, L3, D3, am_rf (xt, xs, 11, xp, xu, xc))) P
      refine am_wpb (c' := (45, [some (.ref 20), some (.int v1), some (.int s0), some (.int 45), some (.int r3), some (.int 0), none], [], (I3, L3, D3, am_rf (xt, xs, 11, xp, xu, xc)))) 3 rfl ?_
      exact h
    · replace h := h.2 z
      refine am_wpb (c' := (30, [some (.ref 20), some (.int v1), some (.int s0), some (.int 45), none, none, none], [.int 1, .ref 20], (I, L, D, am_rf (xt, xs, 11, xp, xu, xc)))) 2 rfl ?_
      obtain ⟨r4, I4, L4, D4, hr, h⟩ := h
      refine am_wp_inv (as := [.ref 20, .int 1]) rfl rfl rfl rfl ⟨_, hr, ?_⟩
      show am_wp ext d mz_44 (33, [some (.ref 20), some (.int v1), some (.int s0), some (.int 45), none, none, none], [.int r4], (I4, L4, D4, am_rf (xt, xs, 11, xp, xu, xc))) P
      refine am_wpb (c' := (45, [some (.ref 20), some (.int v1), some (.int s0), some (.int 45), some (.int r4), some (.int 0), none], [], (I4, L4, D4, am_rf (xt, xs, 11, xp, xu, xc)))) 4 rfl ?_
      exact h
theorem w44_45 {ext : Nat → List Value → am_M → Option am_R} {d : Nat} {P : am_R → Prop} (I : Nat → Nat → Int32) (L : Nat → Nat → Int64) (D : Nat → Nat → UInt64) (xc : Nat) (xp : Nat) (xs : Nat) (xt : Nat) (xu : Nat) (v1 : Int32) (v2 : Int32) (v3 : Int32) (v4 : Int32) (v5 : Int32)
    (h : ((96 < v5 → ((v4 = 0 ∨ v4 = 1) ∧ P (some (.int v4), (I, L, D, am_rf (xt, xs, 11, xp, xu, xc))))) ∧ (¬ 96 < v5 → (((v4 = 0 → ((v4 = 0 ∨ v4 = 1) ∧ P (some (.int v4), (I, L, D, am_rf (xt, xs, 11, xp, xu, xc))))) ∧ (¬ v4 = 0 → ((((I 20 3) = v2 → (am_wp ext d mz_44 (73, [some (.ref 20), some (.int v1), some (.int v2), some (.int v3), none, some (.int v5), none], [], (I, L, D, am_rf (xt, xs, 11, xp, xu, xc))) P)) ∧ (¬ (I 20 3) = v2 → (((¬ (I 20 3) = v3 → ((v4 = 0 ∨ v4 = 1) ∧ P (some (.int v4), (I, L, D, am_rf (xt, xs, 11, xp, xu, xc))))) ∧ ((I 20 3) = v3 → (am_wp ext d mz_44 (73, [some (.ref 20), some (.int v1), some (.int v2), some (.int v3), none, some (.int v5), none], [], (I, L, D, am_rf (xt, xs, 11, xp, xu, xc))) P))))))))))))) : am_wp ext d mz_44 (45, [some (.ref 20), some (.int v1), some (.int v2), some (.int v3), some (.int v4), some (.int v5), none], [], (I, L, D, am_rf (xt, xs, 11, xp, xu, xc))) P := by
  refine am_wpb (c' := (49, [some (.ref 20), some (.int v1), some (.int v2), some (.int v3), some (.int v4), some (.int v5), none], [.int 96, .int v5], (I, L, D, am_rf (xt, xs, 11, xp, xu, xc)))) 2 rfl ?_
  refine am_b2_gt rfl (fun z => ?_) (fun z => ?_)
  · replace h := h.1 z
    refine am_wpb (c' := (137, [some (.ref 20), some (.int v1), some (.int v2), some (.int v3), some (.int v4), some (.int v5), none], [.int v4], (I, L, D, am_rf (xt, xs, 11, xp, xu, xc)))) 1 rfl ?_
    exact am_ret_z rfl rfl h.1 h.2
  · replace h := h.2 z
    refine am_wpb (c' := (54, [some (.ref 20), some (.int v1), some (.int v2), some (.int v3), some (.int v4), some (.int v5), none], [.int v4], (I, L, D, am_rf (xt, xs, 11, xp, xu, xc)))) 1 rfl ?_
    refine am_b1_eq rfl (fun z => ?_) (fun z => ?_)
    · replace h := h.1 z
      refine am_wpb (c' := (137, [some (.ref 20), some (.int v1), some (.int v2), some (.int v3), some (.int v4), some (.int v5), none], [.int v4], (I, L, D, am_rf (xt, xs, 11, xp, xu, xc)))) 1 rfl ?_
      exact am_ret_z rfl rfl h.1 h.2
    · replace h := h.2 z
      refine am_wpb (c' := (62, [some (.ref 20), some (.int v1), some (.int v2), some (.int v3), some (.int v4), some (.int v5), none], [.int v2, .int (I 20 3)], (I, L, D, am_rf (xt, xs, 11, xp, xu, xc)))) 3 rfl ?_
      refine am_b2_eq rfl (fun z => ?_) (fun z => ?_)
      · replace h := h.1 z
        exact am_fgt (l := [some (.ref 20), some (.int v1), some (.int v2), some (.int v3), none, some (.int v5), none]) (am_le_of (am_leS (am_leS (am_leS (am_leS (am_leN (am_leS (am_leN (am_leZ))))))))) h
      · replace h := h.2 z
        refine am_wpb (c' := (70, [some (.ref 20), some (.int v1), some (.int v2), some (.int v3), some (.int v4), some (.int v5), none], [.int v3, .int (I 20 3)], (I, L, D, am_rf (xt, xs, 11, xp, xu, xc)))) 3 rfl ?_
        refine am_b2_ne rfl (fun z => ?_) (fun z => ?_)
        · replace h := h.1 z
          refine am_wpb (c' := (137, [some (.ref 20), some (.int v1), some (.int v2), some (.int v3), some (.int v4), some (.int v5), none], [.int v4], (I, L, D, am_rf (xt, xs, 11, xp, xu, xc)))) 1 rfl ?_
          exact am_ret_z rfl rfl h.1 h.2
        · replace h := h.2 z
          exact am_fgt (l := [some (.ref 20), some (.int v1), some (.int v2), some (.int v3), none, some (.int v5), none]) (am_le_of (am_leS (am_leS (am_leS (am_leS (am_leN (am_leS (am_leN (am_leZ))))))))) h
theorem w44_73 {ext : Nat → List Value → am_M → Option am_R} {d : Nat} {P : am_R → Prop} (I : Nat → Nat → Int32) (L : Nat → Nat → Int64) (D : Nat → Nat → UInt64) (xc : Nat) (xp : Nat) (xs : Nat) (xt : Nat) (xu : Nat) (v1 : Int32) (v2 : Int32) (v3 : Int32) (v5 : Int32)
    (h : ∃ (r1 : Int32) (I1 : Nat → Nat → Int32) (L1 : Nat → Nat → Int64) (D1 : Nat → Nat → UInt64), am_Rn ext d 45 [.int (I 20 3)] (I, L, D, am_rf (xt, xs, 11, xp, xu, xc)) (some (.int r1), (I1, L1, D1, am_rf (xt, xs, 11, xp, xu, xc))) ∧ (∃ (r2 : Int32) (I2 : Nat → Nat → Int32) (L2 : Nat → Nat → Int64) (D2 : Nat → Nat → UInt64), am_Rn ext d 48 [.ref 20] (I1, L1, D1, am_rf (xt, xs, 11, xp, xu, xc)) (some (.int r2), (I2, L2, D2, am_rf (xt, xs, 11, xp, xu, xc))) ∧ (((r2 = 0 → (∃ (r3 : Int32) (I3 : Nat → Nat → Int32) (L3 : Nat → Nat → Int64) (D3 : Nat → Nat → UInt64), am_Rn ext d 36 [.ref 11, .int r1, .int 0] (I2, L2, D2, am_rf (xt, xs, 11, xp, xu, xc)) (some (.int r3), (I3, L3, D3, am_rf (xt, xs, 11, xp, xu, xc))) ∧ (am_wp ext d mz_44 (45, [some (.ref 20), some (.int v1), some (.int v2), some (.int v3), some (.int 0), some (.int (v5 + 1)), none], [], (I3, L3, D3, am_rf (xt, xs, 11, xp, xu, xc))) P))) ∧ (¬ r2 = 0 → (((¬ v1 = 0 → (∃ (r4 : Int32) (I4 : Nat → Nat → Int32) (L4 : Nat → Nat → Int64) (D4 : Nat → Nat → UInt64), am_Rn ext d 46 [.ref 20] (I2, L2, D2, am_rf (xt, xs, 11, xp, xu, xc)) (some (.int r4), (I4, L4, D4, am_rf (xt, xs, 11, xp, xu, xc))) ∧ (((r4 = 0 → (∃ (r5 : Int32) (I5 : Nat → Nat → Int32) (L5 : Nat → Nat → Int64) (D5 : Nat → Nat → UInt64), am_Rn ext d 36 [.ref 11, .int r1, .int 0] (I4, L4, D4, am_rf (xt, xs, 11, xp, xu, xc)) (some (.int r5), (I5, L5, D5, am_rf (xt, xs, 11, xp, xu, xc))) ∧ (am_wp ext d mz_44 (45, [some (.ref 20), some (.int v1), some (.int v2), some (.int v3), some (.int 0), some (.int (v5 + 1)), none], [], (I5, L5, D5, am_rf (xt, xs, 11, xp, xu, xc))) P))) ∧ (¬ r4 = 0 → (∃ (r6 : Int32) (I6 : Nat → Nat → Int32) (L6 : Nat → Nat → Int64) (D6 : Nat → Nat → UInt64), am_Rn ext d 36 [.ref 11, .int r1, .int 0] (I4, L4, D4, am_rf (xt, xs, 11, xp, xu, xc)) (some (.int r6), (I6, L6, D6, am_rf (xt, xs, 11, xp, xu, xc))) ∧ (am_wp ext d mz_44 (45, [some (.ref 20), some (.int v1), some (.int v2), some (.int v3), some (.int 1), some (.int (v5 + 1)), none], [], (I6, L6, D6, am_rf (xt, xs, 11, xp, xu, xc))) P))))))) ∧ (v1 = 0 → (∃ (r7 : Int32) (I7 : Nat → Nat → Int32) (L7 : Nat → Nat → Int64) (D7 : Nat → Nat → UInt64), am_Rn ext d 44 [.ref 20, .int 1] (I2, L2, D2, am_rf (xt, xs, 11, xp, xu, xc)) (some (.int r7), (I7, L7, D7, am_rf (xt, xs, 11, xp, xu, xc))) ∧ (((r7 = 0 → (∃ (r8 : Int32) (I8 : Nat → Nat → Int32) (L8 : Nat → Nat → Int64) (D8 : Nat → Nat → UInt64), am_Rn ext d 36 [.ref 11, .int r1, .int 0] (I7, L7, D7, am_rf (xt, xs, 11, xp, xu, xc)) (some (.int r8), (I8, L8, D8, am_rf (xt, xs, 11, xp, xu, xc))) ∧ (am_wp ext d mz_44 (45, [some (.ref 20), some (.int v1), some (.int v2), some (.int v3), some (.int 0), some (.int (v5 + 1)), none], [], (I8, L8, D8, am_rf (xt, xs, 11, xp, xu, xc))) P))) ∧ (¬ r7 = 0 → (∃ (r9 : Int32) (I9 : Nat → Nat → Int32) (L9 : Nat → Nat → Int64) (D9 : Nat → Nat → UInt64), am_Rn ext d 36 [.ref 11, .int r1, .int 0] (I7, L7, D7, am_rf (xt, xs, 11, xp, xu, xc)) (some (.int r9), (I9, L9, D9, am_rf (xt, xs, 11, xp, xu, xc))) ∧ (am_wp ext d mz_44 (45, [some (.ref 20), some (.int v1), some (.int v2), some (.int v3), some (.int 1), some (.int (v5 + 1)), none], [], (I9, L9, D9, am_rf (xt, xs, 11, xp, xu, xc))) P)))))))))))))) : am_wp ext d mz_44 (73, [some (.ref 20), some (.int v1), some (.int v2), some (.int v3), none, some (.int v5), none], [], (I, L, D, am_rf (xt, xs, 11, xp, xu, xc))) P := by
  refine am_wpb (c' := (77, [some (.ref 20), some (.int v1), some (.int v2), some (.int v3), none, some (.int v5), none], [.int (I 20 3)], (I, L, D, am_rf (xt, xs, 11, xp, xu, xc)))) 2 rfl ?_
  obtain ⟨r1, I1, L1, D1, hr, h⟩ := h
  refine am_wp_inv (as := [.int (I 20 3)]) rfl rfl rfl rfl ⟨_, hr, ?_⟩
  show am_wp ext d mz_44 (80, [some (.ref 20), some (.int v1), some (.int v2), some (.int v3), none, some (.int v5), none], [.int r1], (I1, L1, D1, am_rf (xt, xs, 11, xp, xu, xc))) P
  refine am_wpb (c' := (83, [some (.ref 20), some (.int v1), some (.int v2), some (.int v3), none, some (.int v5), some (.int r1)], [.ref 20], (I1, L1, D1, am_rf (xt, xs, 11, xp, xu, xc)))) 2 rfl ?_
  obtain ⟨r2, I2, L2, D2, hr, h⟩ := h
  refine am_wp_inv (as := [.ref 20]) rfl rfl rfl rfl ⟨_, hr, ?_⟩
  show am_wp ext d mz_44 (86, [some (.ref 20), some (.int v1), some (.int v2), some (.int v3), none, some (.int v5), some (.int r1)], [.int r2], (I2, L2, D2, am_rf (xt, xs, 11, xp, xu, xc))) P
  refine am_b1_eq rfl (fun z => ?_) (fun z => ?_)
  · replace h := h.1 z
    refine am_wpb (c' := (125, [some (.ref 20), some (.int v1), some (.int v2), some (.int v3), some (.int 0), some (.int v5), some (.int r1)], [.int 0, .int r1, .ref 11], (I2, L2, D2, am_rf (xt, xs, 11, xp, xu, xc)))) 6 rfl ?_
    obtain ⟨r3, I3, L3, D3, hr, h⟩ := h
    refine am_wp_inv (as := [.ref 11, .int r1, .int 0]) rfl rfl rfl rfl ⟨_, hr, ?_⟩
    show am_wp ext d mz_44 (128, [some (.ref 20), some (.int v1), some (.int v2), some (.int v3), some (.int 0), some (.int v5), some (.int r1)], [.int r3], (I3, L3, D3, am_rf (xt, xs, 11, xp, xu, xc))) P
    refine am_wpb (c' := (45, [some (.ref 20), some (.int v1), some (.int v2), some (.int v3), some (.int 0), some (.int (v5 + 1)), some (.int r1)], [], (I3, L3, D3, am_rf (xt, xs, 11, xp, xu, xc)))) 3 rfl ?_
    exact am_fgt (l := [some (.ref 20), some (.int v1), some (.int v2), some (.int v3), some (.int 0), some (.int (v5 + 1)), none]) (am_le_of (am_leS (am_leS (am_leS (am_leS (am_leS (am_leS (am_leN (am_leZ))))))))) h
  · replace h := h.2 z
    refine am_wpb (c' := (90, [some (.ref 20), some (.int v1), some (.int v2), some (.int v3), none, some (.int v5), some (.int r1)], [.int v1], (I2, L2, D2, am_rf (xt, xs, 11, xp, xu, xc)))) 1 rfl ?_
    refine am_b1_ne rfl (fun z => ?_) (fun z => ?_)
    · replace h := h.1 z
      refine am_wpb (c' := (105, [some (.ref 20), some (.int v1), some (.int v2), some (.int v3), none, some (.int v5), some (.int r1)], [.ref 20], (I2, L2, D2, am_rf (xt, xs, 11, xp, xu, xc)))) 1 rfl ?_
      obtain ⟨r4, I4, L4, D4, hr, h⟩ := h
      refine am_wp_inv (as := [.ref 20]) rfl rfl rfl rfl ⟨_, hr, ?_⟩
      show am_wp ext d mz_44 (108, [some (.ref 20), some (.int v1), some (.int v2), some (.int v3), none, some (.int v5), some (.int r1)], [.int r4], (I4, L4, D4, am_rf (xt, xs, 11, xp, xu, xc))) P
      refine am_b1_eq rfl (fun z => ?_) (fun z => ?_)
      · replace h := h.1 z
        refine am_wpb (c' := (125, [some (.ref 20), some (.int v1), some (.int v2), some (.int v3), some (.int 0), some (.int v5), some (.int r1)], [.int 0, .int r1, .ref 11], (I4, L4, D4, am_rf (xt, xs, 11, xp, xu, xc)))) 6 rfl ?_
        obtain ⟨r5, I5, L5, D5, hr, h⟩ := h
        refine am_wp_inv (as := [.ref 11, .int r1, .int 0]) rfl rfl rfl rfl ⟨_, hr, ?_⟩
        show am_wp ext d mz_44 (128, [some (.ref 20), some (.int v1), some (.int v2), some (.int v3), some (.int 0), some (.int v5), some (.int r1)], [.int r5], (I5, L5, D5, am_rf (xt, xs, 11, xp, xu, xc))) P
        refine am_wpb (c' := (45, [some (.ref 20), some (.int v1), some (.int v2), some (.int v3), some (.int 0), some (.int (v5 + 1)), some (.int r1)], [], (I5, L5, D5, am_rf (xt, xs, 11, xp, xu, xc)))) 3 rfl ?_
        exact am_fgt (l := [some (.ref 20), some (.int v1), some (.int v2), some (.int v3), some (.int 0), some (.int (v5 + 1)), none]) (am_le_of (am_leS (am_leS (am_leS (am_leS (am_leS (am_leS (am_leN (am_leZ))))))))) h
      · replace h := h.2 z
        refine am_wpb (c' := (125, [some (.ref 20), some (.int v1), some (.int v2), some (.int v3), some (.int 1), some (.int v5), some (.int r1)], [.int 0, .int r1, .ref 11], (I4, L4, D4, am_rf (xt, xs, 11, xp, xu, xc)))) 7 rfl ?_
        obtain ⟨r6, I6, L6, D6, hr, h⟩ := h
        refine am_wp_inv (as := [.ref 11, .int r1, .int 0]) rfl rfl rfl rfl ⟨_, hr, ?_⟩
        show am_wp ext d mz_44 (128, [some (.ref 20), some (.int v1), some (.int v2), some (.int v3), some (.int 1), some (.int v5), some (.int r1)], [.int r6], (I6, L6, D6, am_rf (xt, xs, 11, xp, xu, xc))) P
        refine am_wpb (c' := (45, [some (.ref 20), some (.int v1), some (.int v2), some (.int v3), some (.int 1), some (.int (v5 + 1)), some (.int r1)], [], (I6, L6, D6, am_rf (xt, xs, 11, xp, xu, xc)))) 3 rfl ?_
        exact am_fgt (l := [some (.ref 20), some (.int v1), some (.int v2), some (.int v3), some (.int 1), some (.int (v5 + 1)), none]) (am_le_of (am_leS (am_leS (am_leS (am_leS (am_leS (am_leS (am_leN (am_leZ))))))))) h
    · replace h := h.2 z
      refine am_wpb (c' := (95, [some (.ref 20), some (.int v1), some (.int v2), some (.int v3), none, some (.int v5), some (.int r1)], [.int 1, .ref 20], (I2, L2, D2, am_rf (xt, xs, 11, xp, xu, xc)))) 2 rfl ?_
      obtain ⟨r7, I7, L7, D7, hr, h⟩ := h
      refine am_wp_inv (as := [.ref 20, .int 1]) rfl rfl rfl rfl ⟨_, hr, ?_⟩
      show am_wp ext d mz_44 (98, [some (.ref 20), some (.int v1), some (.int v2), some (.int v3), none, some (.int v5), some (.int r1)], [.int r7], (I7, L7, D7, am_rf (xt, xs, 11, xp, xu, xc))) P
      refine am_b1_eq rfl (fun z => ?_) (fun z => ?_)
      · replace h := h.1 z
        refine am_wpb (c' := (125, [some (.ref 20), some (.int v1), some (.int v2), some (.int v3), some (.int 0), some (.int v5), some (.int r1)], [.int 0, .int r1, .ref 11], (I7, L7, D7, am_rf (xt, xs, 11, xp, xu, xc)))) 6 rfl ?_
        obtain ⟨r8, I8, L8, D8, hr, h⟩ := h
        refine am_wp_inv (as := [.ref 11, .int r1, .int 0]) rfl rfl rfl rfl ⟨_, hr, ?_⟩
        show am_wp ext d mz_44 (128, [some (.ref 20), some (.int v1), some (.int v2), some (.int v3), some (.int 0), some (.int v5), some (.int r1)], [.int r8], (I8, L8, D8, am_rf (xt, xs, 11, xp, xu, xc))) P
        refine am_wpb (c' := (45, [some (.ref 20), some (.int v1), some (.int v2), some (.int v3), some (.int 0), some (.int (v5 + 1)), some (.int r1)], [], (I8, L8, D8, am_rf (xt, xs, 11, xp, xu, xc)))) 3 rfl ?_
        exact am_fgt (l := [some (.ref 20), some (.int v1), some (.int v2), some (.int v3), some (.int 0), some (.int (v5 + 1)), none]) (am_le_of (am_leS (am_leS (am_leS (am_leS (am_leS (am_leS (am_leN (am_leZ))))))))) h
      · replace h := h.2 z
        refine am_wpb (c' := (125, [some (.ref 20), some (.int v1), some (.int v2), some (.int v3), some (.int 1), some (.int v5), some (.int r1)], [.int 0, .int r1, .ref 11], (I7, L7, D7, am_rf (xt, xs, 11, xp, xu, xc)))) 8 rfl ?_
        obtain ⟨r9, I9, L9, D9, hr, h⟩ := h
        refine am_wp_inv (as := [.ref 11, .int r1, .int 0]) rfl rfl rfl rfl ⟨_, hr, ?_⟩
        show am_wp ext d mz_44 (128, [some (.ref 20), some (.int v1), some (.int v2), some (.int v3), some (.int 1), some (.int v5), some (.int r1)], [.int r9], (I9, L9, D9, am_rf (xt, xs, 11, xp, xu, xc))) P
        refine am_wpb (c' := (45, [some (.ref 20), some (.int v1), some (.int v2), some (.int v3), some (.int 1), some (.int (v5 + 1)), some (.int r1)], [], (I9, L9, D9, am_rf (xt, xs, 11, xp, xu, xc)))) 3 rfl ?_
        exact am_fgt (l := [some (.ref 20), some (.int v1), some (.int v2), some (.int v3), some (.int 1), some (.int (v5 + 1)), none]) (am_le_of (am_leS (am_leS (am_leS (am_leS (am_leS (am_leS (am_leN (am_leZ))))))))) h
/-- SureSums$Reader.opBetween(I)I -/
def mz_45 : am_Y := (fun pc => am_q45.lookup pc, 1, 1)
theorem mh_45 : am_Ys 45 = some mz_45 := rfl
theorem w45_0 {ext : Nat → List Value → am_M → Option am_R} {d : Nat} {P : am_R → Prop} (I : Nat → Nat → Int32) (L : Nat → Nat → Int64) (D : Nat → Nat → UInt64) (X : am_Rf) (v0 : Int32)
    (h : ((v0 = 42 → (P (some (.int 13), (I, L, D, am_rf X)))) ∧ (v0 = 43 → (P (some (.int 11), (I, L, D, am_rf X)))) ∧ (v0 = 45 → (P (some (.int 12), (I, L, D, am_rf X)))) ∧ (¬ v0 = 42 ∧ ¬ v0 = 43 ∧ ¬ v0 = 45 → (P (some (.int 14), (I, L, D, am_rf X)))))) : am_wp ext d mz_45 (0, [some (.int v0)], [], (I, L, D, am_rf X)) P := by
  refine am_wpb (c' := (1, [some (.int v0)], [.int v0], (I, L, D, am_rf X))) 1 rfl ?_
  have hsw := am_swc v0 42 3
  by_cases c0 : v0 = 42
  · replace h := h.1 c0
    have e := c0
    refine am_ts_in 0 rfl (by rw [e]; rfl) (by decide) rfl ?_
    refine am_wpb (c' := (40, [some (.int v0)], [.int 13], (I, L, D, am_rf X))) 1 rfl ?_
    exact am_ret_i rfl rfl h
  by_cases c1 : v0 = 43
  · replace h := h.2.1 c1
    have e := c1
    refine am_ts_in 1 rfl (by rw [e]; rfl) (by decide) rfl ?_
    refine am_wpb (c' := (34, [some (.int v0)], [.int 11], (I, L, D, am_rf X))) 1 rfl ?_
    exact am_ret_i rfl rfl h
  by_cases c2 : v0 = 45
  · replace h := h.2.2.1 c2
    have e := c2
    refine am_ts_in 3 rfl (by rw [e]; rfl) (by decide) rfl ?_
    refine am_wpb (c' := (37, [some (.int v0)], [.int 12], (I, L, D, am_rf X))) 1 rfl ?_
    exact am_ret_i rfl rfl h
  replace h := h.2.2.2 ⟨fun e => c0 (e), fun e => c1 (e), fun e => c2 (e)⟩
  rcases hsw with hsw | ⟨k, hk, hsw⟩
  · refine am_ts_out rfl hsw ?_
    refine am_wpb (c' := (43, [some (.int v0)], [.int 14], (I, L, D, am_rf X))) 1 rfl ?_
    exact am_ret_i rfl rfl h
  · refine am_ts_in (t := 41) k rfl hsw (by omega) ?_ ?_
    · refine am_sw_d (bad := [0, 1, 3]) hk (by decide) (fun hm => ?_)
      simp only [List.mem_cons, List.not_mem_nil, or_false] at hm
      rcases hm with e | e | e
      · exact c0 (am_i32 (v := 42) (by rw [hsw, e]; rfl))
      · exact c1 (am_i32 (v := 43) (by rw [hsw, e]; rfl))
      · exact c2 (am_i32 (v := 45) (by rw [hsw, e]; rfl))
    · skip
      refine am_wpb (c' := (43, [some (.int v0)], [.int 14], (I, L, D, am_rf X))) 1 rfl ?_
      exact am_ret_i rfl rfl h
/-- SureSums$Reader.part()Z -/
def mz_46 : am_Y := (fun pc => am_q46.lookup pc, 4, 2)
theorem mh_46 : am_Ys 46 = some mz_46 := rfl
theorem w46_0 {ext : Nat → List Value → am_M → Option am_R} {d : Nat} {P : am_R → Prop} (I : Nat → Nat → Int32) (L : Nat → Nat → Int64) (D : Nat → Nat → UInt64) (xc : Nat) (xp : Nat) (xs : Nat) (xt : Nat) (xu : Nat)
    (h : am_wp ext d mz_46 (2, [some (.ref 20), some (.int 0), none, none], [], (I, L, D, am_rf (xt, xs, 11, xp, xu, xc))) P) : am_wp ext d mz_46 (0, [some (.ref 20), none, none, none], [], (I, L, D, am_rf (xt, xs, 11, xp, xu, xc))) P := by
  refine am_wpb (c' := (2, [some (.ref 20), some (.int 0), none, none], [], (I, L, D, am_rf (xt, xs, 11, xp, xu, xc)))) 2 rfl ?_
  exact h
theorem w46_2 {ext : Nat → List Value → am_M → Option am_R} {d : Nat} {P : am_R → Prop} (I : Nat → Nat → Int32) (L : Nat → Nat → Int64) (D : Nat → Nat → UInt64) (xc : Nat) (xp : Nat) (xs : Nat) (xt : Nat) (xu : Nat) (v1 : Int32)
    (h : ((96 < v1 → (am_wp ext d mz_46 (32, [some (.ref 20), some (.int v1), none, none], [], (I, L, D, am_rf (xt, xs, 11, xp, xu, xc))) P)) ∧ (¬ 96 < v1 → (((¬ (I 20 3) = 45 → (am_wp ext d mz_46 (32, [some (.ref 20), some (.int v1), none, none], [], (I, L, D, am_rf (xt, xs, 11, xp, xu, xc))) P)) ∧ ((I 20 3) = 45 → (∃ (r1 : Int32) (I1 : Nat → Nat → Int32) (L1 : Nat → Nat → Int64) (D1 : Nat → Nat → UInt64), am_Rn ext d 48 [.ref 20] (I, L, D, am_rf (xt, xs, 11, xp, xu, xc)) (some (.int r1), (I1, L1, D1, am_rf (xt, xs, 11, xp, xu, xc))) ∧ (((¬ r1 = 0 → (am_wp ext d mz_46 (2, [some (.ref 20), some (.int (v1 + 1)), none, none], [], (I1, L1, D1, am_rf (xt, xs, 11, xp, xu, xc))) P)) ∧ (r1 = 0 → (P (some (.int 0), (I1, L1, D1, am_rf (xt, xs, 11, xp, xu, xc)))))))))))))) : am_wp ext d mz_46 (2, [some (.ref 20), some (.int v1), none, none], [], (I, L, D, am_rf (xt, xs, 11, xp, xu, xc))) P := by
  refine am_wpb (c' := (5, [some (.ref 20), some (.int v1), none, none], [.int 96, .int v1], (I, L, D, am_rf (xt, xs, 11, xp, xu, xc)))) 2 rfl ?_
  refine am_b2_gt rfl (fun z => ?_) (fun z => ?_)
  · replace h := h.1 z
    exact h
  · replace h := h.2 z
    refine am_wpb (c' := (14, [some (.ref 20), some (.int v1), none, none], [.int 45, .int (I 20 3)], (I, L, D, am_rf (xt, xs, 11, xp, xu, xc)))) 3 rfl ?_
    refine am_b2_ne rfl (fun z => ?_) (fun z => ?_)
    · replace h := h.1 z
      exact h
    · replace h := h.2 z
      refine am_wpb (c' := (18, [some (.ref 20), some (.int v1), none, none], [.ref 20], (I, L, D, am_rf (xt, xs, 11, xp, xu, xc)))) 1 rfl ?_
      obtain ⟨r1, I1, L1, D1, hr, h⟩ := h
      refine am_wp_inv (as := [.ref 20]) rfl rfl rfl rfl ⟨_, hr, ?_⟩
      show am_wp ext d mz_46 (21, [some (.ref 20), some (.int v1), none, none], [.int r1], (I1, L1, D1, am_rf (xt, xs, 11, xp, xu, xc))) P
      refine am_b1_ne rfl (fun z => ?_) (fun z => ?_)
      · replace h := h.1 z
        refine am_wpb (c' := (2, [some (.ref 20), some (.int (v1 + 1)), none, none], [], (I1, L1, D1, am_rf (xt, xs, 11, xp, xu, xc)))) 2 rfl ?_
        exact h
      · replace h := h.2 z
        refine am_wpb (c' := (25, [some (.ref 20), some (.int v1), none, none], [.int 0], (I1, L1, D1, am_rf (xt, xs, 11, xp, xu, xc)))) 1 rfl ?_
        exact am_ret_z rfl rfl (Or.inl rfl) h
theorem w46_32 {ext : Nat → List Value → am_M → Option am_R} {d : Nat} {P : am_R → Prop} (I : Nat → Nat → Int32) (L : Nat → Nat → Int64) (D : Nat → Nat → UInt64) (xc : Nat) (xp : Nat) (xs : Nat) (xt : Nat) (xu : Nat) (v1 : Int32)
    (h : (((I 20 3) = 2 → (∃ (r1 : Int32) (I1 : Nat → Nat → Int32) (L1 : Nat → Nat → Int64) (D1 : Nat → Nat → UInt64), am_Rn ext d 49 [.ref 20] (I, L, D, am_rf (xt, xs, 11, xp, xu, xc)) (some (.int r1), (I1, L1, D1, am_rf (xt, xs, 11, xp, xu, xc))) ∧ (am_wp ext d mz_46 (245, [some (.ref 20), some (.int v1), some (.int r1), some (.int 0)], [], (I1, L1, D1, am_rf (xt, xs, 11, xp, xu, xc))) P))) ∧ ((I 20 3) = 3 → (((¬ (I 20 4) = 19 → (∃ (r2 : Int32) (I2 : Nat → Nat → Int32) (L2 : Nat → Nat → Int64) (D2 : Nat → Nat → UInt64), am_Rn ext d 51 [.ref 20] (I, L, D, am_rf (xt, xs, 11, xp, xu, xc)) (some (.int r2), (I2, L2, D2, am_rf (xt, xs, 11, xp, xu, xc))) ∧ (am_wp ext d mz_46 (245, [some (.ref 20), some (.int v1), some (.int r2), some (.int 0)], [], (I2, L2, D2, am_rf (xt, xs, 11, xp, xu, xc))) P))) ∧ ((I 20 4) = 19 → (∃ (r3 : Int32) (I3 : Nat → Nat → Int32) (L3 : Nat → Nat → Int64) (D3 : Nat → Nat → UInt64), am_Rn ext d 50 [.ref 20] (I, L, D, am_rf (xt, xs, 11, xp, xu, xc)) (some (.int r3), (I3, L3, D3, am_rf (xt, xs, 11, xp, xu, xc))) ∧ (am_wp ext d mz_46 (245, [some (.ref 20), some (.int v1), some (.int r3), some (.int 0)], [], (I3, L3, D3, am_rf (xt, xs, 11, xp, xu, xc))) P)))))) ∧ ((I 20 3) = 6 ∨ (I 20 3) = 7 → (((¬ (I 20 3) = 6 → (∃ (r4 : Int32) (I4 : Nat → Nat → Int32) (L4 : Nat → Nat → Int64) (D4 : Nat → Nat → UInt64), am_Rn ext d 52 [.ref 20, .int 10] (I, L, D, am_rf (xt, xs, 11, xp, xu, xc)) (some (.int r4), (I4, L4, D4, am_rf (xt, xs, 11, xp, xu, xc))) ∧ (am_wp ext d mz_46 (245, [some (.ref 20), some (.int v1), some (.int r4), some (.int 0)], [], (I4, L4, D4, am_rf (xt, xs, 11, xp, xu, xc))) P))) ∧ ((I 20 3) = 6 → (∃ (r5 : Int32) (I5 : Nat → Nat → Int32) (L5 : Nat → Nat → Int64) (D5 : Nat → Nat → UInt64), am_Rn ext d 52 [.ref 20, .int 9] (I, L, D, am_rf (xt, xs, 11, xp, xu, xc)) (some (.int r5), (I5, L5, D5, am_rf (xt, xs, 11, xp, xu, xc))) ∧ (am_wp ext d mz_46 (245, [some (.ref 20), some (.int v1), some (.int r5), some (.int 0)], [], (I5, L5, D5, am_rf (xt, xs, 11, xp, xu, xc))) P)))))) ∧ ((I 20 3) = 8 ∨ (I 20 3) = 9 → (((¬ (I 20 3) = 8 → (∃ (r6 : Int32) (I6 : Nat → Nat → Int32) (L6 : Nat → Nat → Int64) (D6 : Nat → Nat → UInt64), am_Rn ext d 53 [.ref 20, .int 16] (I, L, D, am_rf (xt, xs, 11, xp, xu, xc)) (some (.int r6), (I6, L6, D6, am_rf (xt, xs, 11, xp, xu, xc))) ∧ (am_wp ext d mz_46 (245, [some (.ref 20), some (.int v1), some (.int r6), some (.int 0)], [], (I6, L6, D6, am_rf (xt, xs, 11, xp, xu, xc))) P))) ∧ ((I 20 3) = 8 → (∃ (r7 : Int32) (I7 : Nat → Nat → Int32) (L7 : Nat → Nat → Int64) (D7 : Nat → Nat → UInt64), am_Rn ext d 53 [.ref 20, .int 15] (I, L, D, am_rf (xt, xs, 11, xp, xu, xc)) (some (.int r7), (I7, L7, D7, am_rf (xt, xs, 11, xp, xu, xc))) ∧ (am_wp ext d mz_46 (245, [some (.ref 20), some (.int v1), some (.int r7), some (.int 0)], [], (I7, L7, D7, am_rf (xt, xs, 11, xp, xu, xc))) P)))))) ∧ ((I 20 3) = 10 → (∃ (r8 : Int32) (I8 : Nat → Nat → Int32) (L8 : Nat → Nat → Int64) (D8 : Nat → Nat → UInt64), am_Rn ext d 54 [.ref 20] (I, L, D, am_rf (xt, xs, 11, xp, xu, xc)) (some (.int r8), (I8, L8, D8, am_rf (xt, xs, 11, xp, xu, xc))) ∧ (am_wp ext d mz_46 (245, [some (.ref 20), some (.int v1), some (.int r8), some (.int 0)], [], (I8, L8, D8, am_rf (xt, xs, 11, xp, xu, xc))) P))) ∧ ((I 20 3) = 40 → (∃ (r9 : Int32) (I9 : Nat → Nat → Int32) (L9 : Nat → Nat → Int64) (D9 : Nat → Nat → UInt64), am_Rn ext d 57 [.ref 20] (I, L, D, am_rf (xt, xs, 11, xp, xu, xc)) (some (.int r9), (I9, L9, D9, am_rf (xt, xs, 11, xp, xu, xc))) ∧ (((r9 = 0 → (am_wp ext d mz_46 (245, [some (.ref 20), some (.int v1), some (.int 0), some (.int 0)], [], (I9, L9, D9, am_rf (xt, xs, 11, xp, xu, xc))) P)) ∧ (¬ r9 = 0 → (∃ (r10 : Int32) (I10 : Nat → Nat → Int32) (L10 : Nat → Nat → Int64) (D10 : Nat → Nat → UInt64), am_Rn ext d 44 [.ref 20, .int 0] (I9, L9, D9, am_rf (xt, xs, 11, xp, xu, xc)) (some (.int r10), (I10, L10, D10, am_rf (xt, xs, 11, xp, xu, xc))) ∧ (((r10 = 0 → (am_wp ext d mz_46 (245, [some (.ref 20), some (.int v1), some (.int 0), some (.int 0)], [], (I10, L10, D10, am_rf (xt, xs, 11, xp, xu, xc))) P)) ∧ (¬ r10 = 0 → (∃ (r11 : Int32) (I11 : Nat → Nat → Int32) (L11 : Nat → Nat → Int64) (D11 : Nat → Nat → UInt64), am_Rn ext d 58 [.ref 20] (I10, L10, D10, am_rf (xt, xs, 11, xp, xu, xc)) (some (.int r11), (I11, L11, D11, am_rf (xt, xs, 11, xp, xu, xc))) ∧ (((r11 = 0 → (am_wp ext d mz_46 (245, [some (.ref 20), some (.int v1), some (.int 0), some (.int 0)], [], (I11, L11, D11, am_rf (xt, xs, 11, xp, xu, xc))) P)) ∧ (¬ r11 = 0 → (am_wp ext d mz_46 (245, [some (.ref 20), some (.int v1), some (.int 1), some (.int 0)], [], (I11, L11, D11, am_rf (xt, xs, 11, xp, xu, xc))) P)))))))))))))) ∧ (¬ (I 20 3) = 2 ∧ ¬ (I 20 3) = 3 ∧ ¬ (I 20 3) = 6 ∧ ¬ (I 20 3) = 7 ∧ ¬ (I 20 3) = 8 ∧ ¬ (I 20 3) = 9 ∧ ¬ (I 20 3) = 10 ∧ ¬ (I 20 3) = 40 → (∃ (r12 : Int32) (I12 : Nat → Nat → Int32) (L12 : Nat → Nat → Int64) (D12 : Nat → Nat → UInt64), am_Rn ext d 47 [.int (I 20 3)] (I, L, D, am_rf (xt, xs, 11, xp, xu, xc)) (some (.int r12), (I12, L12, D12, am_rf (xt, xs, 11, xp, xu, xc))) ∧ (∃ (r13 : Int32) (I13 : Nat → Nat → Int32) (L13 : Nat → Nat → Int64) (D13 : Nat → Nat → UInt64), am_Rn ext d 55 [.ref 20, .int r12] (I12, L12, D12, am_rf (xt, xs, 11, xp, xu, xc)) (some (.int r13), (I13, L13, D13, am_rf (xt, xs, 11, xp, xu, xc))) ∧ (am_wp ext d mz_46 (245, [some (.ref 20), some (.int v1), some (.int r13), some (.int 0)], [], (I13, L13, D13, am_rf (xt, xs, 11, xp, xu, xc))) P)))))) : am_wp ext d mz_46 (32, [some (.ref 20), some (.int v1), none, none], [], (I, L, D, am_rf (xt, xs, 11, xp, xu, xc))) P := by
  refine am_wpb (c' := (36, [some (.ref 20), some (.int v1), none, none], [.int (I 20 3)], (I, L, D, am_rf (xt, xs, 11, xp, xu, xc)))) 2 rfl ?_
  by_cases c0 : (I 20 3) = 2
  · replace h := h.1 c0
    refine am_lk_go (t := 143) rfl (by rw [c0]; rfl) ?_
    refine am_wpb (c' := (144, [some (.ref 20), some (.int v1), none, none], [.ref 20], (I, L, D, am_rf (xt, xs, 11, xp, xu, xc)))) 1 rfl ?_
    obtain ⟨r1, I1, L1, D1, hr, h⟩ := h
    refine am_wp_inv (as := [.ref 20]) rfl rfl rfl rfl ⟨_, hr, ?_⟩
    show am_wp ext d mz_46 (147, [some (.ref 20), some (.int v1), none, none], [.int r1], (I1, L1, D1, am_rf (xt, xs, 11, xp, xu, xc))) P
    refine am_wpb (c' := (245, [some (.ref 20), some (.int v1), some (.int r1), some (.int 0)], [], (I1, L1, D1, am_rf (xt, xs, 11, xp, xu, xc)))) 4 rfl ?_
    exact h
  by_cases c1 : (I 20 3) = 3
  · replace h := h.2.1 c1
    refine am_lk_go (t := 151) rfl (by rw [c1]; rfl) ?_
    refine am_wpb (c' := (157, [some (.ref 20), some (.int v1), none, none], [.int 19, .int (I 20 4)], (I, L, D, am_rf (xt, xs, 11, xp, xu, xc)))) 3 rfl ?_
    refine am_b2_ne rfl (fun z => ?_) (fun z => ?_)
    · replace h := h.1 z
      refine am_wpb (c' := (168, [some (.ref 20), some (.int v1), none, none], [.ref 20], (I, L, D, am_rf (xt, xs, 11, xp, xu, xc)))) 1 rfl ?_
      obtain ⟨r2, I2, L2, D2, hr, h⟩ := h
      refine am_wp_inv (as := [.ref 20]) rfl rfl rfl rfl ⟨_, hr, ?_⟩
      show am_wp ext d mz_46 (171, [some (.ref 20), some (.int v1), none, none], [.int r2], (I2, L2, D2, am_rf (xt, xs, 11, xp, xu, xc))) P
      refine am_wpb (c' := (245, [some (.ref 20), some (.int v1), some (.int r2), some (.int 0)], [], (I2, L2, D2, am_rf (xt, xs, 11, xp, xu, xc)))) 4 rfl ?_
      exact h
    · replace h := h.2 z
      refine am_wpb (c' := (161, [some (.ref 20), some (.int v1), none, none], [.ref 20], (I, L, D, am_rf (xt, xs, 11, xp, xu, xc)))) 1 rfl ?_
      obtain ⟨r3, I3, L3, D3, hr, h⟩ := h
      refine am_wp_inv (as := [.ref 20]) rfl rfl rfl rfl ⟨_, hr, ?_⟩
      show am_wp ext d mz_46 (164, [some (.ref 20), some (.int v1), none, none], [.int r3], (I3, L3, D3, am_rf (xt, xs, 11, xp, xu, xc))) P
      refine am_wpb (c' := (245, [some (.ref 20), some (.int v1), some (.int r3), some (.int 0)], [], (I3, L3, D3, am_rf (xt, xs, 11, xp, xu, xc)))) 5 rfl ?_
      exact h
  by_cases c2 : (I 20 3) = 6 ∨ (I 20 3) = 7
  · replace h := h.2.2.1 c2
    refine am_lk_go (t := 175) rfl (by rcases c2 with e | e <;> (rw [e]; rfl)) ?_
    refine am_wpb (c' := (182, [some (.ref 20), some (.int v1), none, none], [.int 6, .int (I 20 3), .ref 20], (I, L, D, am_rf (xt, xs, 11, xp, xu, xc)))) 4 rfl ?_
    refine am_b2_ne rfl (fun z => ?_) (fun z => ?_)
    · replace h := h.1 z
      refine am_wpb (c' := (192, [some (.ref 20), some (.int v1), none, none], [.int 10, .ref 20], (I, L, D, am_rf (xt, xs, 11, xp, xu, xc)))) 1 rfl ?_
      obtain ⟨r4, I4, L4, D4, hr, h⟩ := h
      refine am_wp_inv (as := [.ref 20, .int 10]) rfl rfl rfl rfl ⟨_, hr, ?_⟩
      show am_wp ext d mz_46 (195, [some (.ref 20), some (.int v1), none, none], [.int r4], (I4, L4, D4, am_rf (xt, xs, 11, xp, xu, xc))) P
      refine am_wpb (c' := (245, [some (.ref 20), some (.int v1), some (.int r4), some (.int 0)], [], (I4, L4, D4, am_rf (xt, xs, 11, xp, xu, xc)))) 4 rfl ?_
      exact h
    · replace h := h.2 z
      refine am_wpb (c' := (192, [some (.ref 20), some (.int v1), none, none], [.int 9, .ref 20], (I, L, D, am_rf (xt, xs, 11, xp, xu, xc)))) 2 rfl ?_
      obtain ⟨r5, I5, L5, D5, hr, h⟩ := h
      refine am_wp_inv (as := [.ref 20, .int 9]) rfl rfl rfl rfl ⟨_, hr, ?_⟩
      show am_wp ext d mz_46 (195, [some (.ref 20), some (.int v1), none, none], [.int r5], (I5, L5, D5, am_rf (xt, xs, 11, xp, xu, xc))) P
      refine am_wpb (c' := (245, [some (.ref 20), some (.int v1), some (.int r5), some (.int 0)], [], (I5, L5, D5, am_rf (xt, xs, 11, xp, xu, xc)))) 4 rfl ?_
      exact h
  by_cases c3 : (I 20 3) = 8 ∨ (I 20 3) = 9
  · replace h := h.2.2.2.1 c3
    refine am_lk_go (t := 199) rfl (by rcases c3 with e | e <;> (rw [e]; rfl)) ?_
    refine am_wpb (c' := (206, [some (.ref 20), some (.int v1), none, none], [.int 8, .int (I 20 3), .ref 20], (I, L, D, am_rf (xt, xs, 11, xp, xu, xc)))) 4 rfl ?_
    refine am_b2_ne rfl (fun z => ?_) (fun z => ?_)
    · replace h := h.1 z
      refine am_wpb (c' := (216, [some (.ref 20), some (.int v1), none, none], [.int 16, .ref 20], (I, L, D, am_rf (xt, xs, 11, xp, xu, xc)))) 1 rfl ?_
      obtain ⟨r6, I6, L6, D6, hr, h⟩ := h
      refine am_wp_inv (as := [.ref 20, .int 16]) rfl rfl rfl rfl ⟨_, hr, ?_⟩
      show am_wp ext d mz_46 (219, [some (.ref 20), some (.int v1), none, none], [.int r6], (I6, L6, D6, am_rf (xt, xs, 11, xp, xu, xc))) P
      refine am_wpb (c' := (245, [some (.ref 20), some (.int v1), some (.int r6), some (.int 0)], [], (I6, L6, D6, am_rf (xt, xs, 11, xp, xu, xc)))) 4 rfl ?_
      exact h
    · replace h := h.2 z
      refine am_wpb (c' := (216, [some (.ref 20), some (.int v1), none, none], [.int 15, .ref 20], (I, L, D, am_rf (xt, xs, 11, xp, xu, xc)))) 2 rfl ?_
      obtain ⟨r7, I7, L7, D7, hr, h⟩ := h
      refine am_wp_inv (as := [.ref 20, .int 15]) rfl rfl rfl rfl ⟨_, hr, ?_⟩
      show am_wp ext d mz_46 (219, [some (.ref 20), some (.int v1), none, none], [.int r7], (I7, L7, D7, am_rf (xt, xs, 11, xp, xu, xc))) P
      refine am_wpb (c' := (245, [some (.ref 20), some (.int v1), some (.int r7), some (.int 0)], [], (I7, L7, D7, am_rf (xt, xs, 11, xp, xu, xc)))) 4 rfl ?_
      exact h
  by_cases c4 : (I 20 3) = 10
  · replace h := h.2.2.2.2.1 c4
    refine am_lk_go (t := 223) rfl (by rw [c4]; rfl) ?_
    refine am_wpb (c' := (224, [some (.ref 20), some (.int v1), none, none], [.ref 20], (I, L, D, am_rf (xt, xs, 11, xp, xu, xc)))) 1 rfl ?_
    obtain ⟨r8, I8, L8, D8, hr, h⟩ := h
    refine am_wp_inv (as := [.ref 20]) rfl rfl rfl rfl ⟨_, hr, ?_⟩
    show am_wp ext d mz_46 (227, [some (.ref 20), some (.int v1), none, none], [.int r8], (I8, L8, D8, am_rf (xt, xs, 11, xp, xu, xc))) P
    refine am_wpb (c' := (245, [some (.ref 20), some (.int v1), some (.int r8), some (.int 0)], [], (I8, L8, D8, am_rf (xt, xs, 11, xp, xu, xc)))) 4 rfl ?_
    exact h
  by_cases c5 : (I 20 3) = 40
  · replace h := h.2.2.2.2.2.1 c5
    refine am_lk_go (t := 112) rfl (by rw [c5]; rfl) ?_
    refine am_wpb (c' := (113, [some (.ref 20), some (.int v1), none, none], [.ref 20], (I, L, D, am_rf (xt, xs, 11, xp, xu, xc)))) 1 rfl ?_
    obtain ⟨r9, I9, L9, D9, hr, h⟩ := h
    refine am_wp_inv (as := [.ref 20]) rfl rfl rfl rfl ⟨_, hr, ?_⟩
    show am_wp ext d mz_46 (116, [some (.ref 20), some (.int v1), none, none], [.int r9], (I9, L9, D9, am_rf (xt, xs, 11, xp, xu, xc))) P
    refine am_b1_eq rfl (fun z => ?_) (fun z => ?_)
    · replace h := h.1 z
      refine am_wpb (c' := (245, [some (.ref 20), some (.int v1), some (.int 0), some (.int 0)], [], (I9, L9, D9, am_rf (xt, xs, 11, xp, xu, xc)))) 5 rfl ?_
      exact h
    · replace h := h.2 z
      refine am_wpb (c' := (121, [some (.ref 20), some (.int v1), none, none], [.int 0, .ref 20], (I9, L9, D9, am_rf (xt, xs, 11, xp, xu, xc)))) 2 rfl ?_
      obtain ⟨r10, I10, L10, D10, hr, h⟩ := h
      refine am_wp_inv (as := [.ref 20, .int 0]) rfl rfl rfl rfl ⟨_, hr, ?_⟩
      show am_wp ext d mz_46 (124, [some (.ref 20), some (.int v1), none, none], [.int r10], (I10, L10, D10, am_rf (xt, xs, 11, xp, xu, xc))) P
      refine am_b1_eq rfl (fun z => ?_) (fun z => ?_)
      · replace h := h.1 z
        refine am_wpb (c' := (245, [some (.ref 20), some (.int v1), some (.int 0), some (.int 0)], [], (I10, L10, D10, am_rf (xt, xs, 11, xp, xu, xc)))) 5 rfl ?_
        exact h
      · replace h := h.2 z
        refine am_wpb (c' := (128, [some (.ref 20), some (.int v1), none, none], [.ref 20], (I10, L10, D10, am_rf (xt, xs, 11, xp, xu, xc)))) 1 rfl ?_
        obtain ⟨r11, I11, L11, D11, hr, h⟩ := h
        refine am_wp_inv (as := [.ref 20]) rfl rfl rfl rfl ⟨_, hr, ?_⟩
        show am_wp ext d mz_46 (131, [some (.ref 20), some (.int v1), none, none], [.int r11], (I11, L11, D11, am_rf (xt, xs, 11, xp, xu, xc))) P
        refine am_b1_eq rfl (fun z => ?_) (fun z => ?_)
        · replace h := h.1 z
          refine am_wpb (c' := (245, [some (.ref 20), some (.int v1), some (.int 0), some (.int 0)], [], (I11, L11, D11, am_rf (xt, xs, 11, xp, xu, xc)))) 5 rfl ?_
          exact h
        · replace h := h.2 z
          refine am_wpb (c' := (245, [some (.ref 20), some (.int v1), some (.int 1), some (.int 0)], [], (I11, L11, D11, am_rf (xt, xs, 11, xp, xu, xc)))) 6 rfl ?_
          exact h
  replace h := h.2.2.2.2.2.2 ⟨fun e => c0 (e), fun e => c1 (e), fun e => c2 (Or.inl e), fun e => c2 (Or.inr (e)), fun e => c3 (Or.inl e), fun e => c3 (Or.inr (e)), fun e => c4 (e), fun e => c5 (e)⟩
  refine am_lk_go (t := 231) rfl (am_lk_no (fun k hk e => ?_)) ?_
  · simp only [List.mem_cons, List.not_mem_nil, or_false] at hk
    rcases hk with rfl | rfl | rfl | rfl | rfl | rfl | rfl | rfl
    · exact c0 (am_i32 (v := 2) (by rw [e]; rfl))
    · exact c1 (am_i32 (v := 3) (by rw [e]; rfl))
    · exact c2 (Or.inl (am_i32 (v := 6) (by rw [e]; rfl)))
    · exact c2 (Or.inr (am_i32 (v := 7) (by rw [e]; rfl)))
    · exact c3 (Or.inl (am_i32 (v := 8) (by rw [e]; rfl)))
    · exact c3 (Or.inr (am_i32 (v := 9) (by rw [e]; rfl)))
    · exact c4 (am_i32 (v := 10) (by rw [e]; rfl))
    · exact c5 (am_i32 (v := 40) (by rw [e]; rfl))
  · skip
    refine am_wpb (c' := (236, [some (.ref 20), some (.int v1), none, none], [.int (I 20 3), .ref 20], (I, L, D, am_rf (xt, xs, 11, xp, xu, xc)))) 3 rfl ?_
    obtain ⟨r12, I12, L12, D12, hr, h⟩ := h
    refine am_wp_inv (as := [.int (I 20 3)]) rfl rfl rfl rfl ⟨_, hr, ?_⟩
    show am_wp ext d mz_46 (239, [some (.ref 20), some (.int v1), none, none], [.int r12, .ref 20], (I12, L12, D12, am_rf (xt, xs, 11, xp, xu, xc))) P
    obtain ⟨r13, I13, L13, D13, hr, h⟩ := h
    refine am_wp_inv (as := [.ref 20, .int r12]) rfl rfl rfl rfl ⟨_, hr, ?_⟩
    show am_wp ext d mz_46 (242, [some (.ref 20), some (.int v1), none, none], [.int r13], (I13, L13, D13, am_rf (xt, xs, 11, xp, xu, xc))) P
    refine am_wpb (c' := (245, [some (.ref 20), some (.int v1), some (.int r13), some (.int 0)], [], (I13, L13, D13, am_rf (xt, xs, 11, xp, xu, xc)))) 3 rfl ?_
    exact h
theorem w46_245 {ext : Nat → List Value → am_M → Option am_R} {d : Nat} {P : am_R → Prop} (I : Nat → Nat → Int32) (L : Nat → Nat → Int64) (D : Nat → Nat → UInt64) (xc : Nat) (xp : Nat) (xs : Nat) (xt : Nat) (xu : Nat) (v1 : Int32) (v2 : Int32) (v3 : Int32)
    (h : ((v1 ≤ v3 → ((v2 = 0 ∨ v2 = 1) ∧ P (some (.int v2), (I, L, D, am_rf (xt, xs, 11, xp, xu, xc))))) ∧ (¬ v1 ≤ v3 → (∃ (r1 : Int32) (I1 : Nat → Nat → Int32) (L1 : Nat → Nat → Int64) (D1 : Nat → Nat → UInt64), am_Rn ext d 36 [.ref 11, .int 8, .int 0] (I, L, D, am_rf (xt, xs, 11, xp, xu, xc)) (some (.int r1), (I1, L1, D1, am_rf (xt, xs, 11, xp, xu, xc))) ∧ (am_wp ext d mz_46 (245, [some (.ref 20), some (.int v1), some (.int v2), some (.int (v3 + 1))], [], (I1, L1, D1, am_rf (xt, xs, 11, xp, xu, xc))) P))))) : am_wp ext d mz_46 (245, [some (.ref 20), some (.int v1), some (.int v2), some (.int v3)], [], (I, L, D, am_rf (xt, xs, 11, xp, xu, xc))) P := by
  refine am_wpb (c' := (247, [some (.ref 20), some (.int v1), some (.int v2), some (.int v3)], [.int v1, .int v3], (I, L, D, am_rf (xt, xs, 11, xp, xu, xc)))) 2 rfl ?_
  refine am_b2_ge rfl (fun z => ?_) (fun z => ?_)
  · replace h := h.1 z
    refine am_wpb (c' := (268, [some (.ref 20), some (.int v1), some (.int v2), some (.int v3)], [.int v2], (I, L, D, am_rf (xt, xs, 11, xp, xu, xc)))) 1 rfl ?_
    exact am_ret_z rfl rfl h.1 h.2
  · replace h := h.2 z
    refine am_wpb (c' := (257, [some (.ref 20), some (.int v1), some (.int v2), some (.int v3)], [.int 0, .int 8, .ref 11], (I, L, D, am_rf (xt, xs, 11, xp, xu, xc)))) 4 rfl ?_
    obtain ⟨r1, I1, L1, D1, hr, h⟩ := h
    refine am_wp_inv (as := [.ref 11, .int 8, .int 0]) rfl rfl rfl rfl ⟨_, hr, ?_⟩
    show am_wp ext d mz_46 (260, [some (.ref 20), some (.int v1), some (.int v2), some (.int v3)], [.int r1], (I1, L1, D1, am_rf (xt, xs, 11, xp, xu, xc))) P
    refine am_wpb (c' := (245, [some (.ref 20), some (.int v1), some (.int v2), some (.int (v3 + 1))], [], (I1, L1, D1, am_rf (xt, xs, 11, xp, xu, xc)))) 3 rfl ?_
    exact h
